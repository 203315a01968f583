/-! Instructions -/
theorem f_Bk_year_0 : fch r_Bk_year.2.1 0 = some (.iload_n 1) := by decide +kernel
theorem f_Bk_year_1 : fch r_Bk_year.2.1 1 = some (.invokestatic 67) := by decide +kernel
theorem f_Bk_year_4 : fch r_Bk_year.2.1 4 = some (.ifCond .ne 5) := by decide +kernel
theorem f_Bk_year_7 : fch r_Bk_year.2.1 7 = some (.iconst (-1)) := by decide +kernel
theorem f_Bk_year_8 : fch r_Bk_year.2.1 8 = some (.ireturn) := by decide +kernel
theorem f_Bk_year_9 : fch r_Bk_year.2.1 9 = some (.iload_n 2) := by decide +kernel
theorem f_Bk_year_10 : fch r_Bk_year.2.1 10 = some (.tableswitch 41 0 2 #[26, 31, 36]) := by decide +kernel
theorem f_Bk_year_36 : fch r_Bk_year.2.1 36 = some (.iload_n 1) := by decide +kernel
theorem f_Bk_year_37 : fch r_Bk_year.2.1 37 = some (.invokestatic 73) := by decide +kernel
theorem f_Bk_year_40 : fch r_Bk_year.2.1 40 = some (.ireturn) := by decide +kernel
theorem f_Bk_year_41 : fch r_Bk_year.2.1 41 = some (.iload_n 1) := by decide +kernel
theorem f_Bk_year_42 : fch r_Bk_year.2.1 42 = some (.invokestatic 77) := by decide +kernel
theorem f_Bk_year_45 : fch r_Bk_year.2.1 45 = some (.ireturn) := by decide +kernel
theorem f_Bk_year_46 : fch r_Bk_year.2.1 46 = some (.iload_n 1) := by decide +kernel
theorem f_Bk_year_47 : fch r_Bk_year.2.1 47 = some (.invokestatic 80) := by decide +kernel
theorem f_Bk_year_50 : fch r_Bk_year.2.1 50 = some (.ireturn) := by decide +kernel
theorem f_Bk_year_51 : fch r_Bk_year.2.1 51 = some (.iconst (-1)) := by decide +kernel
theorem f_Bk_year_52 : fch r_Bk_year.2.1 52 = some (.ireturn) := by decide +kernel
theorem f_Day_isYear_0 : fch r_Day_isYear.2.1 0 = some (.iload_n 0) := by decide +kernel
theorem f_Day_isYear_1 : fch r_Day_isYear.2.1 1 = some (.sipush 1900) := by decide +kernel
theorem f_Day_isYear_4 : fch r_Day_isYear.2.1 4 = some (.sipush 2199) := by decide +kernel
theorem f_Day_isYear_7 : fch r_Day_isYear.2.1 7 = some (.invokestatic 9) := by decide +kernel
theorem f_Day_isYear_10 : fch r_Day_isYear.2.1 10 = some (.ireturn) := by decide +kernel
theorem f_Bk_within_0 : fch r_Bk_within.2.1 0 = some (.iload_n 0) := by decide +kernel
theorem f_Bk_within_1 : fch r_Bk_within.2.1 1 = some (.iload_n 1) := by decide +kernel
theorem f_Bk_within_2 : fch r_Bk_within.2.1 2 = some (.if_icmp .lt 12) := by decide +kernel
theorem f_Bk_within_5 : fch r_Bk_within.2.1 5 = some (.iload_n 0) := by decide +kernel
theorem f_Bk_within_6 : fch r_Bk_within.2.1 6 = some (.iload_n 2) := by decide +kernel
theorem f_Bk_within_7 : fch r_Bk_within.2.1 7 = some (.if_icmp .gt 7) := by decide +kernel
theorem f_Bk_within_10 : fch r_Bk_within.2.1 10 = some (.iconst 1) := by decide +kernel
theorem f_Bk_within_11 : fch r_Bk_within.2.1 11 = some (.goto 4) := by decide +kernel
theorem f_Bk_within_14 : fch r_Bk_within.2.1 14 = some (.iconst 0) := by decide +kernel
theorem f_Bk_within_15 : fch r_Bk_within.2.1 15 = some (.ireturn) := by decide +kernel
theorem f_Day_lengthOf_0 : fch r_Day_lengthOf.2.1 0 = some (.iload_n 0) := by decide +kernel
theorem f_Day_lengthOf_1 : fch r_Day_lengthOf.2.1 1 = some (.invokestatic 13) := by decide +kernel
theorem f_Day_lengthOf_4 : fch r_Day_lengthOf.2.1 4 = some (.ifCond .eq 9) := by decide +kernel
theorem f_Day_lengthOf_7 : fch r_Day_lengthOf.2.1 7 = some (.sipush 366) := by decide +kernel
theorem f_Day_lengthOf_10 : fch r_Day_lengthOf.2.1 10 = some (.goto 6) := by decide +kernel
theorem f_Day_lengthOf_13 : fch r_Day_lengthOf.2.1 13 = some (.sipush 365) := by decide +kernel
theorem f_Day_lengthOf_16 : fch r_Day_lengthOf.2.1 16 = some (.ireturn) := by decide +kernel
theorem f_Day_isLeap_0 : fch r_Day_isLeap.2.1 0 = some (.iload_n 0) := by decide +kernel
theorem f_Day_isLeap_1 : fch r_Day_isLeap.2.1 1 = some (.iconst 4) := by decide +kernel
theorem f_Day_isLeap_2 : fch r_Day_isLeap.2.1 2 = some (.irem) := by decide +kernel
theorem f_Day_isLeap_3 : fch r_Day_isLeap.2.1 3 = some (.ifCond .ne 22) := by decide +kernel
theorem f_Day_isLeap_6 : fch r_Day_isLeap.2.1 6 = some (.iload_n 0) := by decide +kernel
theorem f_Day_isLeap_7 : fch r_Day_isLeap.2.1 7 = some (.bipush 100) := by decide +kernel
theorem f_Day_isLeap_9 : fch r_Day_isLeap.2.1 9 = some (.irem) := by decide +kernel
theorem f_Day_isLeap_10 : fch r_Day_isLeap.2.1 10 = some (.ifCond .ne 11) := by decide +kernel
theorem f_Day_isLeap_13 : fch r_Day_isLeap.2.1 13 = some (.iload_n 0) := by decide +kernel
theorem f_Day_isLeap_14 : fch r_Day_isLeap.2.1 14 = some (.sipush 400) := by decide +kernel
theorem f_Day_isLeap_17 : fch r_Day_isLeap.2.1 17 = some (.irem) := by decide +kernel
theorem f_Day_isLeap_18 : fch r_Day_isLeap.2.1 18 = some (.ifCond .ne 7) := by decide +kernel
theorem f_Day_isLeap_21 : fch r_Day_isLeap.2.1 21 = some (.iconst 1) := by decide +kernel
theorem f_Day_isLeap_22 : fch r_Day_isLeap.2.1 22 = some (.goto 4) := by decide +kernel
theorem f_Day_isLeap_25 : fch r_Day_isLeap.2.1 25 = some (.iconst 0) := by decide +kernel
theorem f_Day_isLeap_26 : fch r_Day_isLeap.2.1 26 = some (.ireturn) := by decide +kernel
theorem f_Day_firstWeekday_0 : fch r_Day_firstWeekday.2.1 0 = some (.iload_n 0) := by decide +kernel
theorem f_Day_firstWeekday_1 : fch r_Day_firstWeekday.2.1 1 = some (.iconst 1) := by decide +kernel
theorem f_Day_firstWeekday_2 : fch r_Day_firstWeekday.2.1 2 = some (.isub) := by decide +kernel
theorem f_Day_firstWeekday_3 : fch r_Day_firstWeekday.2.1 3 = some (.istore_n 1) := by decide +kernel
theorem f_Day_firstWeekday_4 : fch r_Day_firstWeekday.2.1 4 = some (.iload_n 0) := by decide +kernel
theorem f_Day_firstWeekday_5 : fch r_Day_firstWeekday.2.1 5 = some (.iload_n 1) := by decide +kernel
theorem f_Day_firstWeekday_6 : fch r_Day_firstWeekday.2.1 6 = some (.iconst 4) := by decide +kernel
theorem f_Day_firstWeekday_7 : fch r_Day_firstWeekday.2.1 7 = some (.idiv) := by decide +kernel
theorem f_Day_firstWeekday_8 : fch r_Day_firstWeekday.2.1 8 = some (.iadd) := by decide +kernel
theorem f_Day_firstWeekday_9 : fch r_Day_firstWeekday.2.1 9 = some (.iload_n 1) := by decide +kernel
theorem f_Day_firstWeekday_10 : fch r_Day_firstWeekday.2.1 10 = some (.bipush 100) := by decide +kernel
theorem f_Day_firstWeekday_12 : fch r_Day_firstWeekday.2.1 12 = some (.idiv) := by decide +kernel
theorem f_Day_firstWeekday_13 : fch r_Day_firstWeekday.2.1 13 = some (.isub) := by decide +kernel
theorem f_Day_firstWeekday_14 : fch r_Day_firstWeekday.2.1 14 = some (.iload_n 1) := by decide +kernel
theorem f_Day_firstWeekday_15 : fch r_Day_firstWeekday.2.1 15 = some (.sipush 400) := by decide +kernel
theorem f_Day_firstWeekday_18 : fch r_Day_firstWeekday.2.1 18 = some (.idiv) := by decide +kernel
theorem f_Day_firstWeekday_19 : fch r_Day_firstWeekday.2.1 19 = some (.iadd) := by decide +kernel
theorem f_Day_firstWeekday_20 : fch r_Day_firstWeekday.2.1 20 = some (.bipush 7) := by decide +kernel
theorem f_Day_firstWeekday_22 : fch r_Day_firstWeekday.2.1 22 = some (.irem) := by decide +kernel
theorem f_Day_firstWeekday_23 : fch r_Day_firstWeekday.2.1 23 = some (.ireturn) := by decide +kernel
theorem f_Day_easter_0 : fch r_Day_easter.2.1 0 = some (.iload_n 0) := by decide +kernel
theorem f_Day_easter_1 : fch r_Day_easter.2.1 1 = some (.bipush 19) := by decide +kernel
theorem f_Day_easter_3 : fch r_Day_easter.2.1 3 = some (.irem) := by decide +kernel
theorem f_Day_easter_4 : fch r_Day_easter.2.1 4 = some (.istore_n 1) := by decide +kernel
theorem f_Day_easter_5 : fch r_Day_easter.2.1 5 = some (.iload_n 0) := by decide +kernel
theorem f_Day_easter_6 : fch r_Day_easter.2.1 6 = some (.bipush 100) := by decide +kernel
theorem f_Day_easter_8 : fch r_Day_easter.2.1 8 = some (.idiv) := by decide +kernel
theorem f_Day_easter_9 : fch r_Day_easter.2.1 9 = some (.istore_n 2) := by decide +kernel
theorem f_Day_easter_10 : fch r_Day_easter.2.1 10 = some (.iload_n 0) := by decide +kernel
theorem f_Day_easter_11 : fch r_Day_easter.2.1 11 = some (.bipush 100) := by decide +kernel
theorem f_Day_easter_13 : fch r_Day_easter.2.1 13 = some (.irem) := by decide +kernel
theorem f_Day_easter_14 : fch r_Day_easter.2.1 14 = some (.istore_n 3) := by decide +kernel
theorem f_Day_easter_15 : fch r_Day_easter.2.1 15 = some (.bipush 19) := by decide +kernel
theorem f_Day_easter_17 : fch r_Day_easter.2.1 17 = some (.iload_n 1) := by decide +kernel
theorem f_Day_easter_18 : fch r_Day_easter.2.1 18 = some (.imul) := by decide +kernel
theorem f_Day_easter_19 : fch r_Day_easter.2.1 19 = some (.iload_n 2) := by decide +kernel
theorem f_Day_easter_20 : fch r_Day_easter.2.1 20 = some (.iadd) := by decide +kernel
theorem f_Day_easter_21 : fch r_Day_easter.2.1 21 = some (.iload_n 2) := by decide +kernel
theorem f_Day_easter_22 : fch r_Day_easter.2.1 22 = some (.iconst 4) := by decide +kernel
theorem f_Day_easter_23 : fch r_Day_easter.2.1 23 = some (.idiv) := by decide +kernel
theorem f_Day_easter_24 : fch r_Day_easter.2.1 24 = some (.isub) := by decide +kernel
theorem f_Day_easter_25 : fch r_Day_easter.2.1 25 = some (.iload_n 2) := by decide +kernel
theorem f_Day_easter_26 : fch r_Day_easter.2.1 26 = some (.iload_n 2) := by decide +kernel
theorem f_Day_easter_27 : fch r_Day_easter.2.1 27 = some (.bipush 8) := by decide +kernel
theorem f_Day_easter_29 : fch r_Day_easter.2.1 29 = some (.iadd) := by decide +kernel
theorem f_Day_easter_30 : fch r_Day_easter.2.1 30 = some (.bipush 25) := by decide +kernel
theorem f_Day_easter_32 : fch r_Day_easter.2.1 32 = some (.idiv) := by decide +kernel
theorem f_Day_easter_33 : fch r_Day_easter.2.1 33 = some (.isub) := by decide +kernel
theorem f_Day_easter_34 : fch r_Day_easter.2.1 34 = some (.iconst 1) := by decide +kernel
theorem f_Day_easter_35 : fch r_Day_easter.2.1 35 = some (.iadd) := by decide +kernel
theorem f_Day_easter_36 : fch r_Day_easter.2.1 36 = some (.iconst 3) := by decide +kernel
theorem f_Day_easter_37 : fch r_Day_easter.2.1 37 = some (.idiv) := by decide +kernel
theorem f_Day_easter_38 : fch r_Day_easter.2.1 38 = some (.isub) := by decide +kernel
theorem f_Day_easter_39 : fch r_Day_easter.2.1 39 = some (.bipush 15) := by decide +kernel
theorem f_Day_easter_41 : fch r_Day_easter.2.1 41 = some (.iadd) := by decide +kernel
theorem f_Day_easter_42 : fch r_Day_easter.2.1 42 = some (.bipush 30) := by decide +kernel
theorem f_Day_easter_44 : fch r_Day_easter.2.1 44 = some (.irem) := by decide +kernel
theorem f_Day_easter_45 : fch r_Day_easter.2.1 45 = some (.istore 4) := by decide +kernel
theorem f_Day_easter_47 : fch r_Day_easter.2.1 47 = some (.bipush 32) := by decide +kernel
theorem f_Day_easter_49 : fch r_Day_easter.2.1 49 = some (.iconst 2) := by decide +kernel
theorem f_Day_easter_50 : fch r_Day_easter.2.1 50 = some (.iload_n 2) := by decide +kernel
theorem f_Day_easter_51 : fch r_Day_easter.2.1 51 = some (.iconst 4) := by decide +kernel
theorem f_Day_easter_52 : fch r_Day_easter.2.1 52 = some (.irem) := by decide +kernel
theorem f_Day_easter_53 : fch r_Day_easter.2.1 53 = some (.imul) := by decide +kernel
theorem f_Day_easter_54 : fch r_Day_easter.2.1 54 = some (.iadd) := by decide +kernel
theorem f_Day_easter_55 : fch r_Day_easter.2.1 55 = some (.iconst 2) := by decide +kernel
theorem f_Day_easter_56 : fch r_Day_easter.2.1 56 = some (.iload_n 3) := by decide +kernel
theorem f_Day_easter_57 : fch r_Day_easter.2.1 57 = some (.iconst 4) := by decide +kernel
theorem f_Day_easter_58 : fch r_Day_easter.2.1 58 = some (.idiv) := by decide +kernel
theorem f_Day_easter_59 : fch r_Day_easter.2.1 59 = some (.imul) := by decide +kernel
theorem f_Day_easter_60 : fch r_Day_easter.2.1 60 = some (.iadd) := by decide +kernel
theorem f_Day_easter_61 : fch r_Day_easter.2.1 61 = some (.iload 4) := by decide +kernel
theorem f_Day_easter_63 : fch r_Day_easter.2.1 63 = some (.isub) := by decide +kernel
theorem f_Day_easter_64 : fch r_Day_easter.2.1 64 = some (.iload_n 3) := by decide +kernel
theorem f_Day_easter_65 : fch r_Day_easter.2.1 65 = some (.iconst 4) := by decide +kernel
theorem f_Day_easter_66 : fch r_Day_easter.2.1 66 = some (.irem) := by decide +kernel
theorem f_Day_easter_67 : fch r_Day_easter.2.1 67 = some (.isub) := by decide +kernel
theorem f_Day_easter_68 : fch r_Day_easter.2.1 68 = some (.bipush 7) := by decide +kernel
theorem f_Day_easter_70 : fch r_Day_easter.2.1 70 = some (.irem) := by decide +kernel
theorem f_Day_easter_71 : fch r_Day_easter.2.1 71 = some (.istore 5) := by decide +kernel
theorem f_Day_easter_73 : fch r_Day_easter.2.1 73 = some (.iload 4) := by decide +kernel
theorem f_Day_easter_75 : fch r_Day_easter.2.1 75 = some (.iload 5) := by decide +kernel
theorem f_Day_easter_77 : fch r_Day_easter.2.1 77 = some (.iadd) := by decide +kernel
theorem f_Day_easter_78 : fch r_Day_easter.2.1 78 = some (.bipush 7) := by decide +kernel
theorem f_Day_easter_80 : fch r_Day_easter.2.1 80 = some (.iload_n 1) := by decide +kernel
theorem f_Day_easter_81 : fch r_Day_easter.2.1 81 = some (.bipush 11) := by decide +kernel
theorem f_Day_easter_83 : fch r_Day_easter.2.1 83 = some (.iload 4) := by decide +kernel
theorem f_Day_easter_85 : fch r_Day_easter.2.1 85 = some (.imul) := by decide +kernel
theorem f_Day_easter_86 : fch r_Day_easter.2.1 86 = some (.iadd) := by decide +kernel
theorem f_Day_easter_87 : fch r_Day_easter.2.1 87 = some (.bipush 22) := by decide +kernel
theorem f_Day_easter_89 : fch r_Day_easter.2.1 89 = some (.iload 5) := by decide +kernel
theorem f_Day_easter_91 : fch r_Day_easter.2.1 91 = some (.imul) := by decide +kernel
theorem f_Day_easter_92 : fch r_Day_easter.2.1 92 = some (.iadd) := by decide +kernel
theorem f_Day_easter_93 : fch r_Day_easter.2.1 93 = some (.sipush 451) := by decide +kernel
theorem f_Day_easter_96 : fch r_Day_easter.2.1 96 = some (.idiv) := by decide +kernel
theorem f_Day_easter_97 : fch r_Day_easter.2.1 97 = some (.imul) := by decide +kernel
theorem f_Day_easter_98 : fch r_Day_easter.2.1 98 = some (.isub) := by decide +kernel
theorem f_Day_easter_99 : fch r_Day_easter.2.1 99 = some (.bipush 114) := by decide +kernel
theorem f_Day_easter_101 : fch r_Day_easter.2.1 101 = some (.iadd) := by decide +kernel
theorem f_Day_easter_102 : fch r_Day_easter.2.1 102 = some (.istore 6) := by decide +kernel
theorem f_Day_easter_104 : fch r_Day_easter.2.1 104 = some (.iload_n 0) := by decide +kernel
theorem f_Day_easter_105 : fch r_Day_easter.2.1 105 = some (.iload 6) := by decide +kernel
theorem f_Day_easter_107 : fch r_Day_easter.2.1 107 = some (.bipush 31) := by decide +kernel
theorem f_Day_easter_109 : fch r_Day_easter.2.1 109 = some (.idiv) := by decide +kernel
theorem f_Day_easter_110 : fch r_Day_easter.2.1 110 = some (.invokestatic 19) := by decide +kernel
theorem f_Day_easter_113 : fch r_Day_easter.2.1 113 = some (.iload 6) := by decide +kernel
theorem f_Day_easter_115 : fch r_Day_easter.2.1 115 = some (.bipush 31) := by decide +kernel
theorem f_Day_easter_117 : fch r_Day_easter.2.1 117 = some (.irem) := by decide +kernel
theorem f_Day_easter_118 : fch r_Day_easter.2.1 118 = some (.iadd) := by decide +kernel
theorem f_Day_easter_119 : fch r_Day_easter.2.1 119 = some (.ireturn) := by decide +kernel
theorem f_Day_firstOfMonth_0 : fch r_Day_firstOfMonth.2.1 0 = some (.getstatic 31) := by decide +kernel
theorem f_Day_firstOfMonth_3 : fch r_Day_firstOfMonth.2.1 3 = some (.iload_n 1) := by decide +kernel
theorem f_Day_firstOfMonth_4 : fch r_Day_firstOfMonth.2.1 4 = some (.iconst 1) := by decide +kernel
theorem f_Day_firstOfMonth_5 : fch r_Day_firstOfMonth.2.1 5 = some (.isub) := by decide +kernel
theorem f_Day_firstOfMonth_6 : fch r_Day_firstOfMonth.2.1 6 = some (.invokestatic 27) := by decide +kernel
theorem f_Day_firstOfMonth_9 : fch r_Day_firstOfMonth.2.1 9 = some (.iload_n 1) := by decide +kernel
theorem f_Day_firstOfMonth_10 : fch r_Day_firstOfMonth.2.1 10 = some (.iconst 2) := by decide +kernel
theorem f_Day_firstOfMonth_11 : fch r_Day_firstOfMonth.2.1 11 = some (.if_icmp .le 14) := by decide +kernel
theorem f_Day_firstOfMonth_14 : fch r_Day_firstOfMonth.2.1 14 = some (.iload_n 0) := by decide +kernel
theorem f_Day_firstOfMonth_15 : fch r_Day_firstOfMonth.2.1 15 = some (.invokestatic 13) := by decide +kernel
theorem f_Day_firstOfMonth_18 : fch r_Day_firstOfMonth.2.1 18 = some (.ifCond .eq 7) := by decide +kernel
theorem f_Day_firstOfMonth_21 : fch r_Day_firstOfMonth.2.1 21 = some (.iconst 1) := by decide +kernel
theorem f_Day_firstOfMonth_22 : fch r_Day_firstOfMonth.2.1 22 = some (.goto 4) := by decide +kernel
theorem f_Day_firstOfMonth_25 : fch r_Day_firstOfMonth.2.1 25 = some (.iconst 0) := by decide +kernel
theorem f_Day_firstOfMonth_26 : fch r_Day_firstOfMonth.2.1 26 = some (.iadd) := by decide +kernel
theorem f_Day_firstOfMonth_27 : fch r_Day_firstOfMonth.2.1 27 = some (.ireturn) := by decide +kernel
theorem f_Bk_at_0 : fch r_Bk_at.2.1 0 = some (.iload_n 1) := by decide +kernel
theorem f_Bk_at_1 : fch r_Bk_at.2.1 1 = some (.ifCond .lt 15) := by decide +kernel
theorem f_Bk_at_4 : fch r_Bk_at.2.1 4 = some (.iload_n 1) := by decide +kernel
theorem f_Bk_at_5 : fch r_Bk_at.2.1 5 = some (.aload_n 0) := by decide +kernel
theorem f_Bk_at_6 : fch r_Bk_at.2.1 6 = some (.arraylength) := by decide +kernel
theorem f_Bk_at_7 : fch r_Bk_at.2.1 7 = some (.if_icmp .ge 9) := by decide +kernel
theorem f_Bk_at_10 : fch r_Bk_at.2.1 10 = some (.aload_n 0) := by decide +kernel
theorem f_Bk_at_11 : fch r_Bk_at.2.1 11 = some (.iload_n 1) := by decide +kernel
theorem f_Bk_at_12 : fch r_Bk_at.2.1 12 = some (.iaload) := by decide +kernel
theorem f_Bk_at_13 : fch r_Bk_at.2.1 13 = some (.goto 4) := by decide +kernel
theorem f_Bk_at_16 : fch r_Bk_at.2.1 16 = some (.iconst (-1)) := by decide +kernel
theorem f_Bk_at_17 : fch r_Bk_at.2.1 17 = some (.ireturn) := by decide +kernel
theorem f_Bk_day_0 : fch r_Bk_day.2.1 0 = some (.iload_n 1) := by decide +kernel
theorem f_Bk_day_1 : fch r_Bk_day.2.1 1 = some (.invokestatic 67) := by decide +kernel
theorem f_Bk_day_4 : fch r_Bk_day.2.1 4 = some (.ifCond .eq 12) := by decide +kernel
theorem f_Bk_day_7 : fch r_Bk_day.2.1 7 = some (.iload_n 1) := by decide +kernel
theorem f_Bk_day_8 : fch r_Bk_day.2.1 8 = some (.iload_n 2) := by decide +kernel
theorem f_Bk_day_9 : fch r_Bk_day.2.1 9 = some (.iload_n 3) := by decide +kernel
theorem f_Bk_day_10 : fch r_Bk_day.2.1 10 = some (.invokestatic 83) := by decide +kernel
theorem f_Bk_day_13 : fch r_Bk_day.2.1 13 = some (.goto 4) := by decide +kernel
theorem f_Bk_day_16 : fch r_Bk_day.2.1 16 = some (.iconst (-1)) := by decide +kernel
theorem f_Bk_day_17 : fch r_Bk_day.2.1 17 = some (.ireturn) := by decide +kernel
theorem f_Day_dayOf_0 : fch r_Day_dayOf.2.1 0 = some (.iload_n 1) := by decide +kernel
theorem f_Day_dayOf_1 : fch r_Day_dayOf.2.1 1 = some (.iconst 1) := by decide +kernel
theorem f_Day_dayOf_2 : fch r_Day_dayOf.2.1 2 = some (.bipush 12) := by decide +kernel
theorem f_Day_dayOf_4 : fch r_Day_dayOf.2.1 4 = some (.invokestatic 9) := by decide +kernel
theorem f_Day_dayOf_7 : fch r_Day_dayOf.2.1 7 = some (.ifCond .eq 16) := by decide +kernel
theorem f_Day_dayOf_10 : fch r_Day_dayOf.2.1 10 = some (.iload_n 2) := by decide +kernel
theorem f_Day_dayOf_11 : fch r_Day_dayOf.2.1 11 = some (.iconst 1) := by decide +kernel
theorem f_Day_dayOf_12 : fch r_Day_dayOf.2.1 12 = some (.iload_n 0) := by decide +kernel
theorem f_Day_dayOf_13 : fch r_Day_dayOf.2.1 13 = some (.iload_n 1) := by decide +kernel
theorem f_Day_dayOf_14 : fch r_Day_dayOf.2.1 14 = some (.invokestatic 34) := by decide +kernel
theorem f_Day_dayOf_17 : fch r_Day_dayOf.2.1 17 = some (.invokestatic 9) := by decide +kernel
theorem f_Day_dayOf_20 : fch r_Day_dayOf.2.1 20 = some (.ifCond .ne 5) := by decide +kernel
theorem f_Day_dayOf_23 : fch r_Day_dayOf.2.1 23 = some (.iconst (-1)) := by decide +kernel
theorem f_Day_dayOf_24 : fch r_Day_dayOf.2.1 24 = some (.ireturn) := by decide +kernel
theorem f_Day_dayOf_25 : fch r_Day_dayOf.2.1 25 = some (.iload_n 0) := by decide +kernel
theorem f_Day_dayOf_26 : fch r_Day_dayOf.2.1 26 = some (.iload_n 1) := by decide +kernel
theorem f_Day_dayOf_27 : fch r_Day_dayOf.2.1 27 = some (.invokestatic 19) := by decide +kernel
theorem f_Day_dayOf_30 : fch r_Day_dayOf.2.1 30 = some (.iload_n 2) := by decide +kernel
theorem f_Day_dayOf_31 : fch r_Day_dayOf.2.1 31 = some (.iadd) := by decide +kernel
theorem f_Day_dayOf_32 : fch r_Day_dayOf.2.1 32 = some (.iconst 1) := by decide +kernel
theorem f_Day_dayOf_33 : fch r_Day_dayOf.2.1 33 = some (.isub) := by decide +kernel
theorem f_Day_dayOf_34 : fch r_Day_dayOf.2.1 34 = some (.ireturn) := by decide +kernel
theorem f_Day_lengthOfMonth_0 : fch r_Day_lengthOfMonth.2.1 0 = some (.iload_n 1) := by decide +kernel
theorem f_Day_lengthOfMonth_1 : fch r_Day_lengthOfMonth.2.1 1 = some (.iconst 2) := by decide +kernel
theorem f_Day_lengthOfMonth_2 : fch r_Day_lengthOfMonth.2.1 2 = some (.if_icmp .ne 15) := by decide +kernel
theorem f_Day_lengthOfMonth_5 : fch r_Day_lengthOfMonth.2.1 5 = some (.iload_n 0) := by decide +kernel
theorem f_Day_lengthOfMonth_6 : fch r_Day_lengthOfMonth.2.1 6 = some (.invokestatic 13) := by decide +kernel
theorem f_Day_lengthOfMonth_9 : fch r_Day_lengthOfMonth.2.1 9 = some (.ifCond .eq 8) := by decide +kernel
theorem f_Day_lengthOfMonth_12 : fch r_Day_lengthOfMonth.2.1 12 = some (.bipush 29) := by decide +kernel
theorem f_Day_lengthOfMonth_14 : fch r_Day_lengthOfMonth.2.1 14 = some (.goto 12) := by decide +kernel
theorem f_Day_lengthOfMonth_17 : fch r_Day_lengthOfMonth.2.1 17 = some (.getstatic 23) := by decide +kernel
theorem f_Day_lengthOfMonth_20 : fch r_Day_lengthOfMonth.2.1 20 = some (.iload_n 1) := by decide +kernel
theorem f_Day_lengthOfMonth_21 : fch r_Day_lengthOfMonth.2.1 21 = some (.iconst 1) := by decide +kernel
theorem f_Day_lengthOfMonth_22 : fch r_Day_lengthOfMonth.2.1 22 = some (.isub) := by decide +kernel
theorem f_Day_lengthOfMonth_23 : fch r_Day_lengthOfMonth.2.1 23 = some (.invokestatic 27) := by decide +kernel
theorem f_Day_lengthOfMonth_26 : fch r_Day_lengthOfMonth.2.1 26 = some (.ireturn) := by decide +kernel
theorem f_Bk_season_0 : fch r_Bk_season.2.1 0 = some (.aload_n 0) := by decide +kernel
theorem f_Bk_season_1 : fch r_Bk_season.2.1 1 = some (.aload_n 0) := by decide +kernel
theorem f_Bk_season_2 : fch r_Bk_season.2.1 2 = some (.getfield 10) := by decide +kernel
theorem f_Bk_season_5 : fch r_Bk_season.2.1 5 = some (.iload_n 1) := by decide +kernel
theorem f_Bk_season_6 : fch r_Bk_season.2.1 6 = some (.iload_n 2) := by decide +kernel
theorem f_Bk_season_7 : fch r_Bk_season.2.1 7 = some (.iload_n 3) := by decide +kernel
theorem f_Bk_season_8 : fch r_Bk_season.2.1 8 = some (.iload 4) := by decide +kernel
theorem f_Bk_season_10 : fch r_Bk_season.2.1 10 = some (.iload 5) := by decide +kernel
theorem f_Bk_season_12 : fch r_Bk_season.2.1 12 = some (.invokevirtual 87) := by decide +kernel
theorem f_Bk_season_15 : fch r_Bk_season.2.1 15 = some (.invokevirtual 91) := by decide +kernel
theorem f_Bk_season_18 : fch r_Bk_season.2.1 18 = some (.ireturn) := by decide +kernel
theorem f_Sea_tellFromEaster_0 : fch r_Sea_tellFromEaster.2.1 0 = some (.iload_n 1) := by decide +kernel
theorem f_Sea_tellFromEaster_1 : fch r_Sea_tellFromEaster.2.1 1 = some (.bipush (-120)) := by decide +kernel
theorem f_Sea_tellFromEaster_3 : fch r_Sea_tellFromEaster.2.1 3 = some (.sipush 250) := by decide +kernel
theorem f_Sea_tellFromEaster_6 : fch r_Sea_tellFromEaster.2.1 6 = some (.invokestatic 31) := by decide +kernel
theorem f_Sea_tellFromEaster_9 : fch r_Sea_tellFromEaster.2.1 9 = some (.ifCond .eq 14) := by decide +kernel
theorem f_Sea_tellFromEaster_12 : fch r_Sea_tellFromEaster.2.1 12 = some (.iload_n 2) := by decide +kernel
theorem f_Sea_tellFromEaster_13 : fch r_Sea_tellFromEaster.2.1 13 = some (.iload_n 1) := by decide +kernel
theorem f_Sea_tellFromEaster_14 : fch r_Sea_tellFromEaster.2.1 14 = some (.sipush 250) := by decide +kernel
theorem f_Sea_tellFromEaster_17 : fch r_Sea_tellFromEaster.2.1 17 = some (.invokestatic 31) := by decide +kernel
theorem f_Sea_tellFromEaster_20 : fch r_Sea_tellFromEaster.2.1 20 = some (.ifCond .ne 5) := by decide +kernel
theorem f_Sea_tellFromEaster_23 : fch r_Sea_tellFromEaster.2.1 23 = some (.iconst (-1)) := by decide +kernel
theorem f_Sea_tellFromEaster_24 : fch r_Sea_tellFromEaster.2.1 24 = some (.ireturn) := by decide +kernel
theorem f_Sea_tellFromEaster_25 : fch r_Sea_tellFromEaster.2.1 25 = some (.aload_n 0) := by decide +kernel
theorem f_Sea_tellFromEaster_26 : fch r_Sea_tellFromEaster.2.1 26 = some (.iload_n 1) := by decide +kernel
theorem f_Sea_tellFromEaster_27 : fch r_Sea_tellFromEaster.2.1 27 = some (.iload_n 2) := by decide +kernel
theorem f_Sea_tellFromEaster_28 : fch r_Sea_tellFromEaster.2.1 28 = some (.iload_n 3) := by decide +kernel
theorem f_Sea_tellFromEaster_29 : fch r_Sea_tellFromEaster.2.1 29 = some (.iload 4) := by decide +kernel
theorem f_Sea_tellFromEaster_31 : fch r_Sea_tellFromEaster.2.1 31 = some (.iload 5) := by decide +kernel
theorem f_Sea_tellFromEaster_33 : fch r_Sea_tellFromEaster.2.1 33 = some (.iconst 0) := by decide +kernel
theorem f_Sea_tellFromEaster_34 : fch r_Sea_tellFromEaster.2.1 34 = some (.invokevirtual 35) := by decide +kernel
theorem f_Sea_tellFromEaster_37 : fch r_Sea_tellFromEaster.2.1 37 = some (.ireturn) := by decide +kernel
theorem f_Sea_add_0 : fch r_Sea_add.2.1 0 = some (.aload_n 0) := by decide +kernel
theorem f_Sea_add_1 : fch r_Sea_add.2.1 1 = some (.getfield 45) := by decide +kernel
theorem f_Sea_add_4 : fch r_Sea_add.2.1 4 = some (.ifCond .lt 47) := by decide +kernel
theorem f_Sea_add_7 : fch r_Sea_add.2.1 7 = some (.aload_n 0) := by decide +kernel
theorem f_Sea_add_8 : fch r_Sea_add.2.1 8 = some (.getfield 45) := by decide +kernel
theorem f_Sea_add_11 : fch r_Sea_add.2.1 11 = some (.aload_n 0) := by decide +kernel
theorem f_Sea_add_12 : fch r_Sea_add.2.1 12 = some (.getfield 9) := by decide +kernel
theorem f_Sea_add_15 : fch r_Sea_add.2.1 15 = some (.arraylength) := by decide +kernel
theorem f_Sea_add_16 : fch r_Sea_add.2.1 16 = some (.if_icmp .ge 35) := by decide +kernel
theorem f_Sea_add_19 : fch r_Sea_add.2.1 19 = some (.iload_n 3) := by decide +kernel
theorem f_Sea_add_20 : fch r_Sea_add.2.1 20 = some (.iconst 1) := by decide +kernel
theorem f_Sea_add_21 : fch r_Sea_add.2.1 21 = some (.bipush 9) := by decide +kernel
theorem f_Sea_add_23 : fch r_Sea_add.2.1 23 = some (.invokestatic 31) := by decide +kernel
theorem f_Sea_add_26 : fch r_Sea_add.2.1 26 = some (.ifCond .eq 25) := by decide +kernel
theorem f_Sea_add_29 : fch r_Sea_add.2.1 29 = some (.iload 4) := by decide +kernel
theorem f_Sea_add_31 : fch r_Sea_add.2.1 31 = some (.iconst 0) := by decide +kernel
theorem f_Sea_add_32 : fch r_Sea_add.2.1 32 = some (.bipush 8) := by decide +kernel
theorem f_Sea_add_34 : fch r_Sea_add.2.1 34 = some (.invokestatic 31) := by decide +kernel
theorem f_Sea_add_37 : fch r_Sea_add.2.1 37 = some (.ifCond .eq 14) := by decide +kernel
theorem f_Sea_add_40 : fch r_Sea_add.2.1 40 = some (.iload 5) := by decide +kernel
theorem f_Sea_add_42 : fch r_Sea_add.2.1 42 = some (.iconst 0) := by decide +kernel
theorem f_Sea_add_43 : fch r_Sea_add.2.1 43 = some (.bipush 7) := by decide +kernel
theorem f_Sea_add_45 : fch r_Sea_add.2.1 45 = some (.invokestatic 31) := by decide +kernel
theorem f_Sea_add_48 : fch r_Sea_add.2.1 48 = some (.ifCond .ne 5) := by decide +kernel
theorem f_Sea_add_51 : fch r_Sea_add.2.1 51 = some (.iconst (-1)) := by decide +kernel
theorem f_Sea_add_52 : fch r_Sea_add.2.1 52 = some (.ireturn) := by decide +kernel
theorem f_Sea_add_53 : fch r_Sea_add.2.1 53 = some (.aload_n 0) := by decide +kernel
theorem f_Sea_add_54 : fch r_Sea_add.2.1 54 = some (.getfield 9) := by decide +kernel
theorem f_Sea_add_57 : fch r_Sea_add.2.1 57 = some (.aload_n 0) := by decide +kernel
theorem f_Sea_add_58 : fch r_Sea_add.2.1 58 = some (.getfield 45) := by decide +kernel
theorem f_Sea_add_61 : fch r_Sea_add.2.1 61 = some (.iload 6) := by decide +kernel
theorem f_Sea_add_63 : fch r_Sea_add.2.1 63 = some (.bastore) := by decide +kernel
theorem f_Sea_add_64 : fch r_Sea_add.2.1 64 = some (.aload_n 0) := by decide +kernel
theorem f_Sea_add_65 : fch r_Sea_add.2.1 65 = some (.getfield 15) := by decide +kernel
theorem f_Sea_add_68 : fch r_Sea_add.2.1 68 = some (.aload_n 0) := by decide +kernel
theorem f_Sea_add_69 : fch r_Sea_add.2.1 69 = some (.getfield 45) := by decide +kernel
theorem f_Sea_add_72 : fch r_Sea_add.2.1 72 = some (.iload_n 1) := by decide +kernel
theorem f_Sea_add_73 : fch r_Sea_add.2.1 73 = some (.invokestatic 49) := by decide +kernel
theorem f_Sea_add_76 : fch r_Sea_add.2.1 76 = some (.aload_n 0) := by decide +kernel
theorem f_Sea_add_77 : fch r_Sea_add.2.1 77 = some (.getfield 19) := by decide +kernel
theorem f_Sea_add_80 : fch r_Sea_add.2.1 80 = some (.aload_n 0) := by decide +kernel
theorem f_Sea_add_81 : fch r_Sea_add.2.1 81 = some (.getfield 45) := by decide +kernel
theorem f_Sea_add_84 : fch r_Sea_add.2.1 84 = some (.iload_n 2) := by decide +kernel
theorem f_Sea_add_85 : fch r_Sea_add.2.1 85 = some (.invokestatic 49) := by decide +kernel
theorem f_Sea_add_88 : fch r_Sea_add.2.1 88 = some (.aload_n 0) := by decide +kernel
theorem f_Sea_add_89 : fch r_Sea_add.2.1 89 = some (.getfield 22) := by decide +kernel
theorem f_Sea_add_92 : fch r_Sea_add.2.1 92 = some (.aload_n 0) := by decide +kernel
theorem f_Sea_add_93 : fch r_Sea_add.2.1 93 = some (.getfield 45) := by decide +kernel
theorem f_Sea_add_96 : fch r_Sea_add.2.1 96 = some (.iload_n 3) := by decide +kernel
theorem f_Sea_add_97 : fch r_Sea_add.2.1 97 = some (.invokestatic 49) := by decide +kernel
theorem f_Sea_add_100 : fch r_Sea_add.2.1 100 = some (.aload_n 0) := by decide +kernel
theorem f_Sea_add_101 : fch r_Sea_add.2.1 101 = some (.getfield 25) := by decide +kernel
theorem f_Sea_add_104 : fch r_Sea_add.2.1 104 = some (.aload_n 0) := by decide +kernel
theorem f_Sea_add_105 : fch r_Sea_add.2.1 105 = some (.getfield 45) := by decide +kernel
theorem f_Sea_add_108 : fch r_Sea_add.2.1 108 = some (.iload 4) := by decide +kernel
theorem f_Sea_add_110 : fch r_Sea_add.2.1 110 = some (.invokestatic 49) := by decide +kernel
theorem f_Sea_add_113 : fch r_Sea_add.2.1 113 = some (.aload_n 0) := by decide +kernel
theorem f_Sea_add_114 : fch r_Sea_add.2.1 114 = some (.getfield 28) := by decide +kernel
theorem f_Sea_add_117 : fch r_Sea_add.2.1 117 = some (.aload_n 0) := by decide +kernel
theorem f_Sea_add_118 : fch r_Sea_add.2.1 118 = some (.getfield 45) := by decide +kernel
theorem f_Sea_add_121 : fch r_Sea_add.2.1 121 = some (.iload 5) := by decide +kernel
theorem f_Sea_add_123 : fch r_Sea_add.2.1 123 = some (.invokestatic 49) := by decide +kernel
theorem f_Sea_add_126 : fch r_Sea_add.2.1 126 = some (.aload_n 0) := by decide +kernel
theorem f_Sea_add_127 : fch r_Sea_add.2.1 127 = some (.dup) := by decide +kernel
theorem f_Sea_add_128 : fch r_Sea_add.2.1 128 = some (.getfield 45) := by decide +kernel
theorem f_Sea_add_131 : fch r_Sea_add.2.1 131 = some (.iconst 1) := by decide +kernel
theorem f_Sea_add_132 : fch r_Sea_add.2.1 132 = some (.iadd) := by decide +kernel
theorem f_Sea_add_133 : fch r_Sea_add.2.1 133 = some (.putfield 45) := by decide +kernel
theorem f_Sea_add_136 : fch r_Sea_add.2.1 136 = some (.aload_n 0) := by decide +kernel
theorem f_Sea_add_137 : fch r_Sea_add.2.1 137 = some (.getfield 45) := by decide +kernel
theorem f_Sea_add_140 : fch r_Sea_add.2.1 140 = some (.ireturn) := by decide +kernel
theorem f_Bk_put_0 : fch r_Bk_put.2.1 0 = some (.iload_n 1) := by decide +kernel
theorem f_Bk_put_1 : fch r_Bk_put.2.1 1 = some (.ifCond .lt 13) := by decide +kernel
theorem f_Bk_put_4 : fch r_Bk_put.2.1 4 = some (.iload_n 1) := by decide +kernel
theorem f_Bk_put_5 : fch r_Bk_put.2.1 5 = some (.aload_n 0) := by decide +kernel
theorem f_Bk_put_6 : fch r_Bk_put.2.1 6 = some (.arraylength) := by decide +kernel
theorem f_Bk_put_7 : fch r_Bk_put.2.1 7 = some (.if_icmp .ge 7) := by decide +kernel
theorem f_Bk_put_10 : fch r_Bk_put.2.1 10 = some (.aload_n 0) := by decide +kernel
theorem f_Bk_put_11 : fch r_Bk_put.2.1 11 = some (.iload_n 1) := by decide +kernel
theorem f_Bk_put_12 : fch r_Bk_put.2.1 12 = some (.iload_n 2) := by decide +kernel
theorem f_Bk_put_13 : fch r_Bk_put.2.1 13 = some (.iastore) := by decide +kernel
theorem f_Bk_put_14 : fch r_Bk_put.2.1 14 = some (.return_) := by decide +kernel
theorem f_Bk_forgetIfTold_0 : fch r_Bk_forgetIfTold.2.1 0 = some (.iload_n 1) := by decide +kernel
theorem f_Bk_forgetIfTold_1 : fch r_Bk_forgetIfTold.2.1 1 = some (.iconst (-1)) := by decide +kernel
theorem f_Bk_forgetIfTold_2 : fch r_Bk_forgetIfTold.2.1 2 = some (.if_icmp .eq 10) := by decide +kernel
theorem f_Bk_forgetIfTold_5 : fch r_Bk_forgetIfTold.2.1 5 = some (.aload_n 0) := by decide +kernel
theorem f_Bk_forgetIfTold_6 : fch r_Bk_forgetIfTold.2.1 6 = some (.getfield 28) := by decide +kernel
theorem f_Bk_forgetIfTold_9 : fch r_Bk_forgetIfTold.2.1 9 = some (.invokevirtual 246) := by decide +kernel
theorem f_Bk_forgetIfTold_12 : fch r_Bk_forgetIfTold.2.1 12 = some (.iload_n 1) := by decide +kernel
theorem f_Bk_forgetIfTold_13 : fch r_Bk_forgetIfTold.2.1 13 = some (.ireturn) := by decide +kernel
theorem f_Alm_forget_0 : fch r_Alm_forget.2.1 0 = some (.aload_n 0) := by decide +kernel
theorem f_Alm_forget_1 : fch r_Alm_forget.2.1 1 = some (.iconst (-1)) := by decide +kernel
theorem f_Alm_forget_2 : fch r_Alm_forget.2.1 2 = some (.putfield 27) := by decide +kernel
theorem f_Alm_forget_5 : fch r_Alm_forget.2.1 5 = some (.return_) := by decide +kernel
theorem f_Bk_dated_0 : fch r_Bk_dated.2.1 0 = some (.aload_n 0) := by decide +kernel
theorem f_Bk_dated_1 : fch r_Bk_dated.2.1 1 = some (.aload_n 0) := by decide +kernel
theorem f_Bk_dated_2 : fch r_Bk_dated.2.1 2 = some (.getfield 10) := by decide +kernel
theorem f_Bk_dated_5 : fch r_Bk_dated.2.1 5 = some (.iload_n 1) := by decide +kernel
theorem f_Bk_dated_6 : fch r_Bk_dated.2.1 6 = some (.iload_n 2) := by decide +kernel
theorem f_Bk_dated_7 : fch r_Bk_dated.2.1 7 = some (.iload_n 3) := by decide +kernel
theorem f_Bk_dated_8 : fch r_Bk_dated.2.1 8 = some (.iload 4) := by decide +kernel
theorem f_Bk_dated_10 : fch r_Bk_dated.2.1 10 = some (.iload 5) := by decide +kernel
theorem f_Bk_dated_12 : fch r_Bk_dated.2.1 12 = some (.invokevirtual 94) := by decide +kernel
theorem f_Bk_dated_15 : fch r_Bk_dated.2.1 15 = some (.invokevirtual 91) := by decide +kernel
theorem f_Bk_dated_18 : fch r_Bk_dated.2.1 18 = some (.ireturn) := by decide +kernel
theorem f_Sea_tellByDates_0 : fch r_Sea_tellByDates.2.1 0 = some (.iload_n 1) := by decide +kernel
theorem f_Sea_tellByDates_1 : fch r_Sea_tellByDates.2.1 1 = some (.invokestatic 39) := by decide +kernel
theorem f_Sea_tellByDates_4 : fch r_Sea_tellByDates.2.1 4 = some (.ifCond .eq 15) := by decide +kernel
theorem f_Sea_tellByDates_7 : fch r_Sea_tellByDates.2.1 7 = some (.iload_n 2) := by decide +kernel
theorem f_Sea_tellByDates_8 : fch r_Sea_tellByDates.2.1 8 = some (.invokestatic 39) := by decide +kernel
theorem f_Sea_tellByDates_11 : fch r_Sea_tellByDates.2.1 11 = some (.ifCond .eq 8) := by decide +kernel
theorem f_Sea_tellByDates_14 : fch r_Sea_tellByDates.2.1 14 = some (.iload_n 1) := by decide +kernel
theorem f_Sea_tellByDates_15 : fch r_Sea_tellByDates.2.1 15 = some (.iload_n 2) := by decide +kernel
theorem f_Sea_tellByDates_16 : fch r_Sea_tellByDates.2.1 16 = some (.if_icmp .le 5) := by decide +kernel
theorem f_Sea_tellByDates_19 : fch r_Sea_tellByDates.2.1 19 = some (.iconst (-1)) := by decide +kernel
theorem f_Sea_tellByDates_20 : fch r_Sea_tellByDates.2.1 20 = some (.ireturn) := by decide +kernel
theorem f_Sea_tellByDates_21 : fch r_Sea_tellByDates.2.1 21 = some (.aload_n 0) := by decide +kernel
theorem f_Sea_tellByDates_22 : fch r_Sea_tellByDates.2.1 22 = some (.iload_n 1) := by decide +kernel
theorem f_Sea_tellByDates_23 : fch r_Sea_tellByDates.2.1 23 = some (.iload_n 2) := by decide +kernel
theorem f_Sea_tellByDates_24 : fch r_Sea_tellByDates.2.1 24 = some (.iload_n 3) := by decide +kernel
theorem f_Sea_tellByDates_25 : fch r_Sea_tellByDates.2.1 25 = some (.iload 4) := by decide +kernel
theorem f_Sea_tellByDates_27 : fch r_Sea_tellByDates.2.1 27 = some (.iload 5) := by decide +kernel
theorem f_Sea_tellByDates_29 : fch r_Sea_tellByDates.2.1 29 = some (.iconst 1) := by decide +kernel
theorem f_Sea_tellByDates_30 : fch r_Sea_tellByDates.2.1 30 = some (.invokevirtual 35) := by decide +kernel
theorem f_Sea_tellByDates_33 : fch r_Sea_tellByDates.2.1 33 = some (.ireturn) := by decide +kernel
theorem f_Day_isRoughDate_0 : fch r_Day_isRoughDate.2.1 0 = some (.iload_n 0) := by decide +kernel
theorem f_Day_isRoughDate_1 : fch r_Day_isRoughDate.2.1 1 = some (.bipush 100) := by decide +kernel
theorem f_Day_isRoughDate_3 : fch r_Day_isRoughDate.2.1 3 = some (.idiv) := by decide +kernel
theorem f_Day_isRoughDate_4 : fch r_Day_isRoughDate.2.1 4 = some (.iconst 1) := by decide +kernel
theorem f_Day_isRoughDate_5 : fch r_Day_isRoughDate.2.1 5 = some (.bipush 12) := by decide +kernel
theorem f_Day_isRoughDate_7 : fch r_Day_isRoughDate.2.1 7 = some (.invokestatic 9) := by decide +kernel
theorem f_Day_isRoughDate_10 : fch r_Day_isRoughDate.2.1 10 = some (.ifCond .eq 20) := by decide +kernel
theorem f_Day_isRoughDate_13 : fch r_Day_isRoughDate.2.1 13 = some (.iload_n 0) := by decide +kernel
theorem f_Day_isRoughDate_14 : fch r_Day_isRoughDate.2.1 14 = some (.bipush 100) := by decide +kernel
theorem f_Day_isRoughDate_16 : fch r_Day_isRoughDate.2.1 16 = some (.irem) := by decide +kernel
theorem f_Day_isRoughDate_17 : fch r_Day_isRoughDate.2.1 17 = some (.iconst 1) := by decide +kernel
theorem f_Day_isRoughDate_18 : fch r_Day_isRoughDate.2.1 18 = some (.bipush 31) := by decide +kernel
theorem f_Day_isRoughDate_20 : fch r_Day_isRoughDate.2.1 20 = some (.invokestatic 9) := by decide +kernel
theorem f_Day_isRoughDate_23 : fch r_Day_isRoughDate.2.1 23 = some (.ifCond .eq 7) := by decide +kernel
theorem f_Day_isRoughDate_26 : fch r_Day_isRoughDate.2.1 26 = some (.iconst 1) := by decide +kernel
theorem f_Day_isRoughDate_27 : fch r_Day_isRoughDate.2.1 27 = some (.goto 4) := by decide +kernel
theorem f_Day_isRoughDate_30 : fch r_Day_isRoughDate.2.1 30 = some (.iconst 0) := by decide +kernel
theorem f_Day_isRoughDate_31 : fch r_Day_isRoughDate.2.1 31 = some (.ireturn) := by decide +kernel
theorem f_Bk_feast_0 : fch r_Bk_feast.2.1 0 = some (.aload_n 0) := by decide +kernel
theorem f_Bk_feast_1 : fch r_Bk_feast.2.1 1 = some (.aload_n 0) := by decide +kernel
theorem f_Bk_feast_2 : fch r_Bk_feast.2.1 2 = some (.getfield 19) := by decide +kernel
theorem f_Bk_feast_5 : fch r_Bk_feast.2.1 5 = some (.iload_n 1) := by decide +kernel
theorem f_Bk_feast_6 : fch r_Bk_feast.2.1 6 = some (.iload_n 2) := by decide +kernel
theorem f_Bk_feast_7 : fch r_Bk_feast.2.1 7 = some (.iload_n 3) := by decide +kernel
theorem f_Bk_feast_8 : fch r_Bk_feast.2.1 8 = some (.iload 4) := by decide +kernel
theorem f_Bk_feast_10 : fch r_Bk_feast.2.1 10 = some (.iload 5) := by decide +kernel
theorem f_Bk_feast_12 : fch r_Bk_feast.2.1 12 = some (.invokevirtual 97) := by decide +kernel
theorem f_Bk_feast_15 : fch r_Bk_feast.2.1 15 = some (.invokevirtual 91) := by decide +kernel
theorem f_Bk_feast_18 : fch r_Bk_feast.2.1 18 = some (.ireturn) := by decide +kernel
theorem f_Fea_tell_0 : fch r_Fea_tell.2.1 0 = some (.aload_n 0) := by decide +kernel
theorem f_Fea_tell_1 : fch r_Fea_tell.2.1 1 = some (.getfield 34) := by decide +kernel
theorem f_Fea_tell_4 : fch r_Fea_tell.2.1 4 = some (.bipush 60) := by decide +kernel
theorem f_Fea_tell_6 : fch r_Fea_tell.2.1 6 = some (.if_icmp .ge 31) := by decide +kernel
theorem f_Fea_tell_9 : fch r_Fea_tell.2.1 9 = some (.iload_n 1) := by decide +kernel
theorem f_Fea_tell_10 : fch r_Fea_tell.2.1 10 = some (.iload_n 2) := by decide +kernel
theorem f_Fea_tell_11 : fch r_Fea_tell.2.1 11 = some (.invokestatic 38) := by decide +kernel
theorem f_Fea_tell_14 : fch r_Fea_tell.2.1 14 = some (.ifCond .eq 23) := by decide +kernel
theorem f_Fea_tell_17 : fch r_Fea_tell.2.1 17 = some (.iload_n 3) := by decide +kernel
theorem f_Fea_tell_18 : fch r_Fea_tell.2.1 18 = some (.iload 5) := by decide +kernel
theorem f_Fea_tell_20 : fch r_Fea_tell.2.1 20 = some (.invokestatic 42) := by decide +kernel
theorem f_Fea_tell_23 : fch r_Fea_tell.2.1 23 = some (.ifCond .eq 14) := by decide +kernel
theorem f_Fea_tell_26 : fch r_Fea_tell.2.1 26 = some (.iload 4) := by decide +kernel
theorem f_Fea_tell_28 : fch r_Fea_tell.2.1 28 = some (.iconst 0) := by decide +kernel
theorem f_Fea_tell_29 : fch r_Fea_tell.2.1 29 = some (.bipush 7) := by decide +kernel
theorem f_Fea_tell_31 : fch r_Fea_tell.2.1 31 = some (.invokestatic 45) := by decide +kernel
theorem f_Fea_tell_34 : fch r_Fea_tell.2.1 34 = some (.ifCond .ne 5) := by decide +kernel
theorem f_Fea_tell_37 : fch r_Fea_tell.2.1 37 = some (.iconst (-1)) := by decide +kernel
theorem f_Fea_tell_38 : fch r_Fea_tell.2.1 38 = some (.ireturn) := by decide +kernel
theorem f_Fea_tell_39 : fch r_Fea_tell.2.1 39 = some (.aload_n 0) := by decide +kernel
theorem f_Fea_tell_40 : fch r_Fea_tell.2.1 40 = some (.getfield 9) := by decide +kernel
theorem f_Fea_tell_43 : fch r_Fea_tell.2.1 43 = some (.aload_n 0) := by decide +kernel
theorem f_Fea_tell_44 : fch r_Fea_tell.2.1 44 = some (.getfield 34) := by decide +kernel
theorem f_Fea_tell_47 : fch r_Fea_tell.2.1 47 = some (.iload_n 1) := by decide +kernel
theorem f_Fea_tell_48 : fch r_Fea_tell.2.1 48 = some (.invokestatic 49) := by decide +kernel
theorem f_Fea_tell_51 : fch r_Fea_tell.2.1 51 = some (.aload_n 0) := by decide +kernel
theorem f_Fea_tell_52 : fch r_Fea_tell.2.1 52 = some (.getfield 15) := by decide +kernel
theorem f_Fea_tell_55 : fch r_Fea_tell.2.1 55 = some (.aload_n 0) := by decide +kernel
theorem f_Fea_tell_56 : fch r_Fea_tell.2.1 56 = some (.getfield 34) := by decide +kernel
theorem f_Fea_tell_59 : fch r_Fea_tell.2.1 59 = some (.iload_n 2) := by decide +kernel
theorem f_Fea_tell_60 : fch r_Fea_tell.2.1 60 = some (.invokestatic 49) := by decide +kernel
theorem f_Fea_tell_63 : fch r_Fea_tell.2.1 63 = some (.aload_n 0) := by decide +kernel
theorem f_Fea_tell_64 : fch r_Fea_tell.2.1 64 = some (.getfield 18) := by decide +kernel
theorem f_Fea_tell_67 : fch r_Fea_tell.2.1 67 = some (.aload_n 0) := by decide +kernel
theorem f_Fea_tell_68 : fch r_Fea_tell.2.1 68 = some (.getfield 34) := by decide +kernel
theorem f_Fea_tell_71 : fch r_Fea_tell.2.1 71 = some (.iload_n 3) := by decide +kernel
theorem f_Fea_tell_72 : fch r_Fea_tell.2.1 72 = some (.invokestatic 49) := by decide +kernel
theorem f_Fea_tell_75 : fch r_Fea_tell.2.1 75 = some (.aload_n 0) := by decide +kernel
theorem f_Fea_tell_76 : fch r_Fea_tell.2.1 76 = some (.getfield 21) := by decide +kernel
theorem f_Fea_tell_79 : fch r_Fea_tell.2.1 79 = some (.aload_n 0) := by decide +kernel
theorem f_Fea_tell_80 : fch r_Fea_tell.2.1 80 = some (.getfield 34) := by decide +kernel
theorem f_Fea_tell_83 : fch r_Fea_tell.2.1 83 = some (.iload 4) := by decide +kernel
theorem f_Fea_tell_85 : fch r_Fea_tell.2.1 85 = some (.invokestatic 49) := by decide +kernel
theorem f_Fea_tell_88 : fch r_Fea_tell.2.1 88 = some (.aload_n 0) := by decide +kernel
theorem f_Fea_tell_89 : fch r_Fea_tell.2.1 89 = some (.getfield 24) := by decide +kernel
theorem f_Fea_tell_92 : fch r_Fea_tell.2.1 92 = some (.aload_n 0) := by decide +kernel
theorem f_Fea_tell_93 : fch r_Fea_tell.2.1 93 = some (.getfield 34) := by decide +kernel
theorem f_Fea_tell_96 : fch r_Fea_tell.2.1 96 = some (.iload 5) := by decide +kernel
theorem f_Fea_tell_98 : fch r_Fea_tell.2.1 98 = some (.invokestatic 49) := by decide +kernel
theorem f_Fea_tell_101 : fch r_Fea_tell.2.1 101 = some (.aload_n 0) := by decide +kernel
theorem f_Fea_tell_102 : fch r_Fea_tell.2.1 102 = some (.dup) := by decide +kernel
theorem f_Fea_tell_103 : fch r_Fea_tell.2.1 103 = some (.getfield 34) := by decide +kernel
theorem f_Fea_tell_106 : fch r_Fea_tell.2.1 106 = some (.iconst 1) := by decide +kernel
theorem f_Fea_tell_107 : fch r_Fea_tell.2.1 107 = some (.iadd) := by decide +kernel
theorem f_Fea_tell_108 : fch r_Fea_tell.2.1 108 = some (.putfield 34) := by decide +kernel
theorem f_Fea_tell_111 : fch r_Fea_tell.2.1 111 = some (.aload_n 0) := by decide +kernel
theorem f_Fea_tell_112 : fch r_Fea_tell.2.1 112 = some (.getfield 34) := by decide +kernel
theorem f_Fea_tell_115 : fch r_Fea_tell.2.1 115 = some (.iconst 1) := by decide +kernel
theorem f_Fea_tell_116 : fch r_Fea_tell.2.1 116 = some (.isub) := by decide +kernel
theorem f_Fea_tell_117 : fch r_Fea_tell.2.1 117 = some (.ireturn) := by decide +kernel
theorem f_Fea_isWhen_0 : fch r_Fea_isWhen.2.1 0 = some (.iload_n 0) := by decide +kernel
theorem f_Fea_isWhen_1 : fch r_Fea_isWhen.2.1 1 = some (.tableswitch 89 0 2 #[27, 32, 42]) := by decide +kernel
theorem f_Fea_isWhen_28 : fch r_Fea_isWhen.2.1 28 = some (.iload_n 1) := by decide +kernel
theorem f_Fea_isWhen_29 : fch r_Fea_isWhen.2.1 29 = some (.invokestatic 53) := by decide +kernel
theorem f_Fea_isWhen_32 : fch r_Fea_isWhen.2.1 32 = some (.ireturn) := by decide +kernel
theorem f_Fea_isWhen_33 : fch r_Fea_isWhen.2.1 33 = some (.iload_n 1) := by decide +kernel
theorem f_Fea_isWhen_34 : fch r_Fea_isWhen.2.1 34 = some (.bipush (-120)) := by decide +kernel
theorem f_Fea_isWhen_36 : fch r_Fea_isWhen.2.1 36 = some (.sipush 250) := by decide +kernel
theorem f_Fea_isWhen_39 : fch r_Fea_isWhen.2.1 39 = some (.invokestatic 45) := by decide +kernel
theorem f_Fea_isWhen_42 : fch r_Fea_isWhen.2.1 42 = some (.ireturn) := by decide +kernel
theorem f_Fea_isWhen_43 : fch r_Fea_isWhen.2.1 43 = some (.iload_n 1) := by decide +kernel
theorem f_Fea_isWhen_44 : fch r_Fea_isWhen.2.1 44 = some (.bipush 100) := by decide +kernel
theorem f_Fea_isWhen_46 : fch r_Fea_isWhen.2.1 46 = some (.idiv) := by decide +kernel
theorem f_Fea_isWhen_47 : fch r_Fea_isWhen.2.1 47 = some (.iconst 1) := by decide +kernel
theorem f_Fea_isWhen_48 : fch r_Fea_isWhen.2.1 48 = some (.bipush 12) := by decide +kernel
theorem f_Fea_isWhen_50 : fch r_Fea_isWhen.2.1 50 = some (.invokestatic 45) := by decide +kernel
theorem f_Fea_isWhen_53 : fch r_Fea_isWhen.2.1 53 = some (.ifCond .eq 35) := by decide +kernel
theorem f_Fea_isWhen_56 : fch r_Fea_isWhen.2.1 56 = some (.iload_n 1) := by decide +kernel
theorem f_Fea_isWhen_57 : fch r_Fea_isWhen.2.1 57 = some (.bipush 10) := by decide +kernel
theorem f_Fea_isWhen_59 : fch r_Fea_isWhen.2.1 59 = some (.idiv) := by decide +kernel
theorem f_Fea_isWhen_60 : fch r_Fea_isWhen.2.1 60 = some (.bipush 10) := by decide +kernel
theorem f_Fea_isWhen_62 : fch r_Fea_isWhen.2.1 62 = some (.irem) := by decide +kernel
theorem f_Fea_isWhen_63 : fch r_Fea_isWhen.2.1 63 = some (.iconst 0) := by decide +kernel
theorem f_Fea_isWhen_64 : fch r_Fea_isWhen.2.1 64 = some (.bipush 6) := by decide +kernel
theorem f_Fea_isWhen_66 : fch r_Fea_isWhen.2.1 66 = some (.invokestatic 45) := by decide +kernel
theorem f_Fea_isWhen_69 : fch r_Fea_isWhen.2.1 69 = some (.ifCond .eq 19) := by decide +kernel
theorem f_Fea_isWhen_72 : fch r_Fea_isWhen.2.1 72 = some (.iload_n 1) := by decide +kernel
theorem f_Fea_isWhen_73 : fch r_Fea_isWhen.2.1 73 = some (.bipush 10) := by decide +kernel
theorem f_Fea_isWhen_75 : fch r_Fea_isWhen.2.1 75 = some (.irem) := by decide +kernel
theorem f_Fea_isWhen_76 : fch r_Fea_isWhen.2.1 76 = some (.iconst 1) := by decide +kernel
theorem f_Fea_isWhen_77 : fch r_Fea_isWhen.2.1 77 = some (.iconst 5) := by decide +kernel
theorem f_Fea_isWhen_78 : fch r_Fea_isWhen.2.1 78 = some (.invokestatic 45) := by decide +kernel
theorem f_Fea_isWhen_81 : fch r_Fea_isWhen.2.1 81 = some (.ifCond .eq 7) := by decide +kernel
theorem f_Fea_isWhen_84 : fch r_Fea_isWhen.2.1 84 = some (.iconst 1) := by decide +kernel
theorem f_Fea_isWhen_85 : fch r_Fea_isWhen.2.1 85 = some (.goto 4) := by decide +kernel
theorem f_Fea_isWhen_88 : fch r_Fea_isWhen.2.1 88 = some (.iconst 0) := by decide +kernel
theorem f_Fea_isWhen_89 : fch r_Fea_isWhen.2.1 89 = some (.ireturn) := by decide +kernel
theorem f_Fea_isWhen_90 : fch r_Fea_isWhen.2.1 90 = some (.iconst 0) := by decide +kernel
theorem f_Fea_isWhen_91 : fch r_Fea_isWhen.2.1 91 = some (.ireturn) := by decide +kernel
theorem f_Day_isEverDate_0 : fch r_Day_isEverDate.2.1 0 = some (.sipush 2000) := by decide +kernel
theorem f_Day_isEverDate_3 : fch r_Day_isEverDate.2.1 3 = some (.iload_n 0) := by decide +kernel
theorem f_Day_isEverDate_4 : fch r_Day_isEverDate.2.1 4 = some (.bipush 100) := by decide +kernel
theorem f_Day_isEverDate_6 : fch r_Day_isEverDate.2.1 6 = some (.idiv) := by decide +kernel
theorem f_Day_isEverDate_7 : fch r_Day_isEverDate.2.1 7 = some (.iload_n 0) := by decide +kernel
theorem f_Day_isEverDate_8 : fch r_Day_isEverDate.2.1 8 = some (.bipush 100) := by decide +kernel
theorem f_Day_isEverDate_10 : fch r_Day_isEverDate.2.1 10 = some (.irem) := by decide +kernel
theorem f_Day_isEverDate_11 : fch r_Day_isEverDate.2.1 11 = some (.invokestatic 37) := by decide +kernel
theorem f_Day_isEverDate_14 : fch r_Day_isEverDate.2.1 14 = some (.iconst (-1)) := by decide +kernel
theorem f_Day_isEverDate_15 : fch r_Day_isEverDate.2.1 15 = some (.if_icmp .eq 7) := by decide +kernel
theorem f_Day_isEverDate_18 : fch r_Day_isEverDate.2.1 18 = some (.iconst 1) := by decide +kernel
theorem f_Day_isEverDate_19 : fch r_Day_isEverDate.2.1 19 = some (.goto 4) := by decide +kernel
theorem f_Day_isEverDate_22 : fch r_Day_isEverDate.2.1 22 = some (.iconst 0) := by decide +kernel
theorem f_Day_isEverDate_23 : fch r_Day_isEverDate.2.1 23 = some (.ireturn) := by decide +kernel
theorem f_Fea_isRankAndWay_0 : fch r_Fea_isRankAndWay.2.1 0 = some (.iload_n 0) := by decide +kernel
theorem f_Fea_isRankAndWay_1 : fch r_Fea_isRankAndWay.2.1 1 = some (.iconst 1) := by decide +kernel
theorem f_Fea_isRankAndWay_2 : fch r_Fea_isRankAndWay.2.1 2 = some (.bipush 9) := by decide +kernel
theorem f_Fea_isRankAndWay_4 : fch r_Fea_isRankAndWay.2.1 4 = some (.invokestatic 45) := by decide +kernel
theorem f_Fea_isRankAndWay_7 : fch r_Fea_isRankAndWay.2.1 7 = some (.ifCond .eq 16) := by decide +kernel
theorem f_Fea_isRankAndWay_10 : fch r_Fea_isRankAndWay.2.1 10 = some (.iload_n 1) := by decide +kernel
theorem f_Fea_isRankAndWay_11 : fch r_Fea_isRankAndWay.2.1 11 = some (.iconst 0) := by decide +kernel
theorem f_Fea_isRankAndWay_12 : fch r_Fea_isRankAndWay.2.1 12 = some (.iconst 2) := by decide +kernel
theorem f_Fea_isRankAndWay_13 : fch r_Fea_isRankAndWay.2.1 13 = some (.invokestatic 45) := by decide +kernel
theorem f_Fea_isRankAndWay_16 : fch r_Fea_isRankAndWay.2.1 16 = some (.ifCond .eq 7) := by decide +kernel
theorem f_Fea_isRankAndWay_19 : fch r_Fea_isRankAndWay.2.1 19 = some (.iconst 1) := by decide +kernel
theorem f_Fea_isRankAndWay_20 : fch r_Fea_isRankAndWay.2.1 20 = some (.goto 4) := by decide +kernel
theorem f_Fea_isRankAndWay_23 : fch r_Fea_isRankAndWay.2.1 23 = some (.iconst 0) := by decide +kernel
theorem f_Fea_isRankAndWay_24 : fch r_Fea_isRankAndWay.2.1 24 = some (.ireturn) := by decide +kernel
theorem f_Bk_around_0 : fch r_Bk_around.2.1 0 = some (.aload_n 0) := by decide +kernel
theorem f_Bk_around_1 : fch r_Bk_around.2.1 1 = some (.aload_n 0) := by decide +kernel
theorem f_Bk_around_2 : fch r_Bk_around.2.1 2 = some (.getfield 19) := by decide +kernel
theorem f_Bk_around_5 : fch r_Bk_around.2.1 5 = some (.iload_n 1) := by decide +kernel
theorem f_Bk_around_6 : fch r_Bk_around.2.1 6 = some (.iload_n 2) := by decide +kernel
theorem f_Bk_around_7 : fch r_Bk_around.2.1 7 = some (.iload_n 3) := by decide +kernel
theorem f_Bk_around_8 : fch r_Bk_around.2.1 8 = some (.invokevirtual 100) := by decide +kernel
theorem f_Bk_around_11 : fch r_Bk_around.2.1 11 = some (.invokevirtual 91) := by decide +kernel
theorem f_Bk_around_14 : fch r_Bk_around.2.1 14 = some (.ireturn) := by decide +kernel
theorem f_Fea_surround_0 : fch r_Fea_surround.2.1 0 = some (.aload_n 0) := by decide +kernel
theorem f_Fea_surround_1 : fch r_Fea_surround.2.1 1 = some (.iload_n 1) := by decide +kernel
theorem f_Fea_surround_2 : fch r_Fea_surround.2.1 2 = some (.invokevirtual 59) := by decide +kernel
theorem f_Fea_surround_5 : fch r_Fea_surround.2.1 5 = some (.ifCond .eq 22) := by decide +kernel
theorem f_Fea_surround_8 : fch r_Fea_surround.2.1 8 = some (.iload_n 1) := by decide +kernel
theorem f_Fea_surround_9 : fch r_Fea_surround.2.1 9 = some (.aload_n 0) := by decide +kernel
theorem f_Fea_surround_10 : fch r_Fea_surround.2.1 10 = some (.getfield 30) := by decide +kernel
theorem f_Fea_surround_13 : fch r_Fea_surround.2.1 13 = some (.arraylength) := by decide +kernel
theorem f_Fea_surround_14 : fch r_Fea_surround.2.1 14 = some (.if_icmp .ge 13) := by decide +kernel
theorem f_Fea_surround_17 : fch r_Fea_surround.2.1 17 = some (.iload_n 2) := by decide +kernel
theorem f_Fea_surround_18 : fch r_Fea_surround.2.1 18 = some (.iconst 0) := by decide +kernel
theorem f_Fea_surround_19 : fch r_Fea_surround.2.1 19 = some (.bipush 8) := by decide +kernel
theorem f_Fea_surround_21 : fch r_Fea_surround.2.1 21 = some (.invokestatic 45) := by decide +kernel
theorem f_Fea_surround_24 : fch r_Fea_surround.2.1 24 = some (.ifCond .ne 5) := by decide +kernel
theorem f_Fea_surround_27 : fch r_Fea_surround.2.1 27 = some (.iconst (-1)) := by decide +kernel
theorem f_Fea_surround_28 : fch r_Fea_surround.2.1 28 = some (.ireturn) := by decide +kernel
theorem f_Fea_surround_29 : fch r_Fea_surround.2.1 29 = some (.aload_n 0) := by decide +kernel
theorem f_Fea_surround_30 : fch r_Fea_surround.2.1 30 = some (.getfield 27) := by decide +kernel
theorem f_Fea_surround_33 : fch r_Fea_surround.2.1 33 = some (.iload_n 1) := by decide +kernel
theorem f_Fea_surround_34 : fch r_Fea_surround.2.1 34 = some (.iload_n 2) := by decide +kernel
theorem f_Fea_surround_35 : fch r_Fea_surround.2.1 35 = some (.invokestatic 49) := by decide +kernel
theorem f_Fea_surround_38 : fch r_Fea_surround.2.1 38 = some (.aload_n 0) := by decide +kernel
theorem f_Fea_surround_39 : fch r_Fea_surround.2.1 39 = some (.getfield 30) := by decide +kernel
theorem f_Fea_surround_42 : fch r_Fea_surround.2.1 42 = some (.iload_n 1) := by decide +kernel
theorem f_Fea_surround_43 : fch r_Fea_surround.2.1 43 = some (.iload_n 3) := by decide +kernel
theorem f_Fea_surround_44 : fch r_Fea_surround.2.1 44 = some (.bastore) := by decide +kernel
theorem f_Fea_surround_45 : fch r_Fea_surround.2.1 45 = some (.iconst 0) := by decide +kernel
theorem f_Fea_surround_46 : fch r_Fea_surround.2.1 46 = some (.ireturn) := by decide +kernel
theorem f_Fea_isTold_0 : fch r_Fea_isTold.2.1 0 = some (.iload_n 1) := by decide +kernel
theorem f_Fea_isTold_1 : fch r_Fea_isTold.2.1 1 = some (.ifCond .lt 15) := by decide +kernel
theorem f_Fea_isTold_4 : fch r_Fea_isTold.2.1 4 = some (.iload_n 1) := by decide +kernel
theorem f_Fea_isTold_5 : fch r_Fea_isTold.2.1 5 = some (.aload_n 0) := by decide +kernel
theorem f_Fea_isTold_6 : fch r_Fea_isTold.2.1 6 = some (.getfield 34) := by decide +kernel
theorem f_Fea_isTold_9 : fch r_Fea_isTold.2.1 9 = some (.if_icmp .ge 7) := by decide +kernel
theorem f_Fea_isTold_12 : fch r_Fea_isTold.2.1 12 = some (.iconst 1) := by decide +kernel
theorem f_Fea_isTold_13 : fch r_Fea_isTold.2.1 13 = some (.goto 4) := by decide +kernel
theorem f_Fea_isTold_16 : fch r_Fea_isTold.2.1 16 = some (.iconst 0) := by decide +kernel
theorem f_Fea_isTold_17 : fch r_Fea_isTold.2.1 17 = some (.ireturn) := by decide +kernel
theorem f_Bk_raise_0 : fch r_Bk_raise.2.1 0 = some (.aload_n 0) := by decide +kernel
theorem f_Bk_raise_1 : fch r_Bk_raise.2.1 1 = some (.aload_n 0) := by decide +kernel
theorem f_Bk_raise_2 : fch r_Bk_raise.2.1 2 = some (.getfield 19) := by decide +kernel
theorem f_Bk_raise_5 : fch r_Bk_raise.2.1 5 = some (.iload_n 1) := by decide +kernel
theorem f_Bk_raise_6 : fch r_Bk_raise.2.1 6 = some (.iload_n 2) := by decide +kernel
theorem f_Bk_raise_7 : fch r_Bk_raise.2.1 7 = some (.iload_n 3) := by decide +kernel
theorem f_Bk_raise_8 : fch r_Bk_raise.2.1 8 = some (.invokevirtual 104) := by decide +kernel
theorem f_Bk_raise_11 : fch r_Bk_raise.2.1 11 = some (.invokevirtual 91) := by decide +kernel
theorem f_Bk_raise_14 : fch r_Bk_raise.2.1 14 = some (.ireturn) := by decide +kernel
theorem f_Fea_change_0 : fch r_Fea_change.2.1 0 = some (.aload_n 0) := by decide +kernel
theorem f_Fea_change_1 : fch r_Fea_change.2.1 1 = some (.iload_n 1) := by decide +kernel
theorem f_Fea_change_2 : fch r_Fea_change.2.1 2 = some (.invokevirtual 59) := by decide +kernel
theorem f_Fea_change_5 : fch r_Fea_change.2.1 5 = some (.ifCond .eq 11) := by decide +kernel
theorem f_Fea_change_8 : fch r_Fea_change.2.1 8 = some (.iload_n 2) := by decide +kernel
theorem f_Fea_change_9 : fch r_Fea_change.2.1 9 = some (.iload_n 3) := by decide +kernel
theorem f_Fea_change_10 : fch r_Fea_change.2.1 10 = some (.invokestatic 42) := by decide +kernel
theorem f_Fea_change_13 : fch r_Fea_change.2.1 13 = some (.ifCond .ne 5) := by decide +kernel
theorem f_Fea_change_16 : fch r_Fea_change.2.1 16 = some (.iconst (-1)) := by decide +kernel
theorem f_Fea_change_17 : fch r_Fea_change.2.1 17 = some (.ireturn) := by decide +kernel
theorem f_Fea_change_18 : fch r_Fea_change.2.1 18 = some (.aload_n 0) := by decide +kernel
theorem f_Fea_change_19 : fch r_Fea_change.2.1 19 = some (.getfield 18) := by decide +kernel
theorem f_Fea_change_22 : fch r_Fea_change.2.1 22 = some (.iload_n 1) := by decide +kernel
theorem f_Fea_change_23 : fch r_Fea_change.2.1 23 = some (.iload_n 2) := by decide +kernel
theorem f_Fea_change_24 : fch r_Fea_change.2.1 24 = some (.invokestatic 49) := by decide +kernel
theorem f_Fea_change_27 : fch r_Fea_change.2.1 27 = some (.aload_n 0) := by decide +kernel
theorem f_Fea_change_28 : fch r_Fea_change.2.1 28 = some (.getfield 24) := by decide +kernel
theorem f_Fea_change_31 : fch r_Fea_change.2.1 31 = some (.iload_n 1) := by decide +kernel
theorem f_Fea_change_32 : fch r_Fea_change.2.1 32 = some (.iload_n 3) := by decide +kernel
theorem f_Fea_change_33 : fch r_Fea_change.2.1 33 = some (.invokestatic 49) := by decide +kernel
theorem f_Fea_change_36 : fch r_Fea_change.2.1 36 = some (.iconst 0) := by decide +kernel
theorem f_Fea_change_37 : fch r_Fea_change.2.1 37 = some (.ireturn) := by decide +kernel
theorem f_Bk_office_0 : fch r_Bk_office.2.1 0 = some (.aload_n 0) := by decide +kernel
theorem f_Bk_office_1 : fch r_Bk_office.2.1 1 = some (.getfield 28) := by decide +kernel
theorem f_Bk_office_4 : fch r_Bk_office.2.1 4 = some (.iload_n 1) := by decide +kernel
theorem f_Bk_office_5 : fch r_Bk_office.2.1 5 = some (.iload_n 2) := by decide +kernel
theorem f_Bk_office_6 : fch r_Bk_office.2.1 6 = some (.invokevirtual 107) := by decide +kernel
theorem f_Bk_office_9 : fch r_Bk_office.2.1 9 = some (.ifCond .eq 15) := by decide +kernel
theorem f_Bk_office_12 : fch r_Bk_office.2.1 12 = some (.aload_n 0) := by decide +kernel
theorem f_Bk_office_13 : fch r_Bk_office.2.1 13 = some (.getfield 28) := by decide +kernel
theorem f_Bk_office_16 : fch r_Bk_office.2.1 16 = some (.iload_n 2) := by decide +kernel
theorem f_Bk_office_17 : fch r_Bk_office.2.1 17 = some (.iload_n 3) := by decide +kernel
theorem f_Bk_office_18 : fch r_Bk_office.2.1 18 = some (.invokevirtual 111) := by decide +kernel
theorem f_Bk_office_21 : fch r_Bk_office.2.1 21 = some (.goto 4) := by decide +kernel
theorem f_Bk_office_24 : fch r_Bk_office.2.1 24 = some (.iconst (-1)) := by decide +kernel
theorem f_Bk_office_25 : fch r_Bk_office.2.1 25 = some (.ireturn) := by decide +kernel
theorem f_Alm_openAt_0 : fch r_Alm_openAt.2.1 0 = some (.iload_n 1) := by decide +kernel
theorem f_Alm_openAt_1 : fch r_Alm_openAt.2.1 1 = some (.invokestatic 39) := by decide +kernel
theorem f_Alm_openAt_4 : fch r_Alm_openAt.2.1 4 = some (.ifCond .eq 17) := by decide +kernel
theorem f_Alm_openAt_7 : fch r_Alm_openAt.2.1 7 = some (.iload_n 2) := by decide +kernel
theorem f_Alm_openAt_8 : fch r_Alm_openAt.2.1 8 = some (.iconst 0) := by decide +kernel
theorem f_Alm_openAt_9 : fch r_Alm_openAt.2.1 9 = some (.iload_n 1) := by decide +kernel
theorem f_Alm_openAt_10 : fch r_Alm_openAt.2.1 10 = some (.invokestatic 49) := by decide +kernel
theorem f_Alm_openAt_13 : fch r_Alm_openAt.2.1 13 = some (.iconst 1) := by decide +kernel
theorem f_Alm_openAt_14 : fch r_Alm_openAt.2.1 14 = some (.isub) := by decide +kernel
theorem f_Alm_openAt_15 : fch r_Alm_openAt.2.1 15 = some (.invokestatic 53) := by decide +kernel
theorem f_Alm_openAt_18 : fch r_Alm_openAt.2.1 18 = some (.ifCond .ne 5) := by decide +kernel
theorem f_Alm_openAt_21 : fch r_Alm_openAt.2.1 21 = some (.iconst 0) := by decide +kernel
theorem f_Alm_openAt_22 : fch r_Alm_openAt.2.1 22 = some (.ireturn) := by decide +kernel
theorem f_Alm_openAt_23 : fch r_Alm_openAt.2.1 23 = some (.aload_n 0) := by decide +kernel
theorem f_Alm_openAt_24 : fch r_Alm_openAt.2.1 24 = some (.getfield 27) := by decide +kernel
theorem f_Alm_openAt_27 : fch r_Alm_openAt.2.1 27 = some (.iload_n 1) := by decide +kernel
theorem f_Alm_openAt_28 : fch r_Alm_openAt.2.1 28 = some (.if_icmp .eq 8) := by decide +kernel
theorem f_Alm_openAt_31 : fch r_Alm_openAt.2.1 31 = some (.aload_n 0) := by decide +kernel
theorem f_Alm_openAt_32 : fch r_Alm_openAt.2.1 32 = some (.iload_n 1) := by decide +kernel
theorem f_Alm_openAt_33 : fch r_Alm_openAt.2.1 33 = some (.invokevirtual 45) := by decide +kernel
theorem f_Alm_openAt_36 : fch r_Alm_openAt.2.1 36 = some (.iconst 1) := by decide +kernel
theorem f_Alm_openAt_37 : fch r_Alm_openAt.2.1 37 = some (.ireturn) := by decide +kernel
theorem f_Alm_build_0 : fch r_Alm_build.2.1 0 = some (.aload_n 0) := by decide +kernel
theorem f_Alm_build_1 : fch r_Alm_build.2.1 1 = some (.iload_n 1) := by decide +kernel
theorem f_Alm_build_2 : fch r_Alm_build.2.1 2 = some (.putfield 27) := by decide +kernel
theorem f_Alm_build_5 : fch r_Alm_build.2.1 5 = some (.aload_n 0) := by decide +kernel
theorem f_Alm_build_6 : fch r_Alm_build.2.1 6 = some (.iload_n 1) := by decide +kernel
theorem f_Alm_build_7 : fch r_Alm_build.2.1 7 = some (.invokestatic 49) := by decide +kernel
theorem f_Alm_build_10 : fch r_Alm_build.2.1 10 = some (.putfield 91) := by decide +kernel
theorem f_Alm_build_13 : fch r_Alm_build.2.1 13 = some (.aload_n 0) := by decide +kernel
theorem f_Alm_build_14 : fch r_Alm_build.2.1 14 = some (.iload_n 1) := by decide +kernel
theorem f_Alm_build_15 : fch r_Alm_build.2.1 15 = some (.invokestatic 101) := by decide +kernel
theorem f_Alm_build_18 : fch r_Alm_build.2.1 18 = some (.putfield 57) := by decide +kernel
theorem f_Alm_build_21 : fch r_Alm_build.2.1 21 = some (.aload_n 0) := by decide +kernel
theorem f_Alm_build_22 : fch r_Alm_build.2.1 22 = some (.iload_n 1) := by decide +kernel
theorem f_Alm_build_23 : fch r_Alm_build.2.1 23 = some (.invokevirtual 103) := by decide +kernel
theorem f_Alm_build_26 : fch r_Alm_build.2.1 26 = some (.iconst 0) := by decide +kernel
theorem f_Alm_build_27 : fch r_Alm_build.2.1 27 = some (.istore_n 2) := by decide +kernel
theorem f_Alm_build_28 : fch r_Alm_build.2.1 28 = some (.iload_n 2) := by decide +kernel
theorem f_Alm_build_29 : fch r_Alm_build.2.1 29 = some (.aload_n 0) := by decide +kernel
theorem f_Alm_build_30 : fch r_Alm_build.2.1 30 = some (.getfield 35) := by decide +kernel
theorem f_Alm_build_33 : fch r_Alm_build.2.1 33 = some (.invokevirtual 97) := by decide +kernel
theorem f_Alm_build_36 : fch r_Alm_build.2.1 36 = some (.if_icmp .ge 26) := by decide +kernel
theorem f_Alm_build_39 : fch r_Alm_build.2.1 39 = some (.aload_n 0) := by decide +kernel
theorem f_Alm_build_40 : fch r_Alm_build.2.1 40 = some (.getfield 21) := by decide +kernel
theorem f_Alm_build_43 : fch r_Alm_build.2.1 43 = some (.iload_n 2) := by decide +kernel
theorem f_Alm_build_44 : fch r_Alm_build.2.1 44 = some (.aload_n 0) := by decide +kernel
theorem f_Alm_build_45 : fch r_Alm_build.2.1 45 = some (.getfield 35) := by decide +kernel
theorem f_Alm_build_48 : fch r_Alm_build.2.1 48 = some (.iload_n 2) := by decide +kernel
theorem f_Alm_build_49 : fch r_Alm_build.2.1 49 = some (.iload_n 1) := by decide +kernel
theorem f_Alm_build_50 : fch r_Alm_build.2.1 50 = some (.invokevirtual 106) := by decide +kernel
theorem f_Alm_build_53 : fch r_Alm_build.2.1 53 = some (.invokestatic 109) := by decide +kernel
theorem f_Alm_build_56 : fch r_Alm_build.2.1 56 = some (.iinc 2 1) := by decide +kernel
theorem f_Alm_build_59 : fch r_Alm_build.2.1 59 = some (.goto (-31)) := by decide +kernel
theorem f_Alm_build_62 : fch r_Alm_build.2.1 62 = some (.iconst 0) := by decide +kernel
theorem f_Alm_build_63 : fch r_Alm_build.2.1 63 = some (.istore_n 2) := by decide +kernel
theorem f_Alm_build_64 : fch r_Alm_build.2.1 64 = some (.iload_n 2) := by decide +kernel
theorem f_Alm_build_65 : fch r_Alm_build.2.1 65 = some (.aload_n 0) := by decide +kernel
theorem f_Alm_build_66 : fch r_Alm_build.2.1 66 = some (.getfield 15) := by decide +kernel
theorem f_Alm_build_69 : fch r_Alm_build.2.1 69 = some (.arraylength) := by decide +kernel
theorem f_Alm_build_70 : fch r_Alm_build.2.1 70 = some (.if_icmp .ge 16) := by decide +kernel
theorem f_Alm_build_73 : fch r_Alm_build.2.1 73 = some (.aload_n 0) := by decide +kernel
theorem f_Alm_build_74 : fch r_Alm_build.2.1 74 = some (.getfield 15) := by decide +kernel
theorem f_Alm_build_77 : fch r_Alm_build.2.1 77 = some (.iload_n 2) := by decide +kernel
theorem f_Alm_build_78 : fch r_Alm_build.2.1 78 = some (.iconst (-1)) := by decide +kernel
theorem f_Alm_build_79 : fch r_Alm_build.2.1 79 = some (.iastore) := by decide +kernel
theorem f_Alm_build_80 : fch r_Alm_build.2.1 80 = some (.iinc 2 1) := by decide +kernel
theorem f_Alm_build_83 : fch r_Alm_build.2.1 83 = some (.goto (-19)) := by decide +kernel
theorem f_Alm_build_86 : fch r_Alm_build.2.1 86 = some (.iconst 0) := by decide +kernel
theorem f_Alm_build_87 : fch r_Alm_build.2.1 87 = some (.istore_n 2) := by decide +kernel
theorem f_Alm_build_88 : fch r_Alm_build.2.1 88 = some (.iload_n 2) := by decide +kernel
theorem f_Alm_build_89 : fch r_Alm_build.2.1 89 = some (.aload_n 0) := by decide +kernel
theorem f_Alm_build_90 : fch r_Alm_build.2.1 90 = some (.getfield 18) := by decide +kernel
theorem f_Alm_build_93 : fch r_Alm_build.2.1 93 = some (.arraylength) := by decide +kernel
theorem f_Alm_build_94 : fch r_Alm_build.2.1 94 = some (.if_icmp .ge 16) := by decide +kernel
theorem f_Alm_build_97 : fch r_Alm_build.2.1 97 = some (.aload_n 0) := by decide +kernel
theorem f_Alm_build_98 : fch r_Alm_build.2.1 98 = some (.getfield 18) := by decide +kernel
theorem f_Alm_build_101 : fch r_Alm_build.2.1 101 = some (.iload_n 2) := by decide +kernel
theorem f_Alm_build_102 : fch r_Alm_build.2.1 102 = some (.iconst (-1)) := by decide +kernel
theorem f_Alm_build_103 : fch r_Alm_build.2.1 103 = some (.iastore) := by decide +kernel
theorem f_Alm_build_104 : fch r_Alm_build.2.1 104 = some (.iinc 2 1) := by decide +kernel
theorem f_Alm_build_107 : fch r_Alm_build.2.1 107 = some (.goto (-19)) := by decide +kernel
theorem f_Alm_build_110 : fch r_Alm_build.2.1 110 = some (.aload_n 0) := by decide +kernel
theorem f_Alm_build_111 : fch r_Alm_build.2.1 111 = some (.iconst 1) := by decide +kernel
theorem f_Alm_build_112 : fch r_Alm_build.2.1 112 = some (.invokevirtual 113) := by decide +kernel
theorem f_Alm_build_115 : fch r_Alm_build.2.1 115 = some (.aload_n 0) := by decide +kernel
theorem f_Alm_build_116 : fch r_Alm_build.2.1 116 = some (.invokevirtual 117) := by decide +kernel
theorem f_Alm_build_119 : fch r_Alm_build.2.1 119 = some (.aload_n 0) := by decide +kernel
theorem f_Alm_build_120 : fch r_Alm_build.2.1 120 = some (.iconst 0) := by decide +kernel
theorem f_Alm_build_121 : fch r_Alm_build.2.1 121 = some (.invokevirtual 113) := by decide +kernel
theorem f_Alm_build_124 : fch r_Alm_build.2.1 124 = some (.aload_n 0) := by decide +kernel
theorem f_Alm_build_125 : fch r_Alm_build.2.1 125 = some (.invokevirtual 120) := by decide +kernel
theorem f_Alm_build_128 : fch r_Alm_build.2.1 128 = some (.return_) := by decide +kernel
theorem f_Alm_layOutSeasons_0 : fch r_Alm_layOutSeasons.2.1 0 = some (.iconst 0) := by decide +kernel
theorem f_Alm_layOutSeasons_1 : fch r_Alm_layOutSeasons.2.1 1 = some (.istore_n 2) := by decide +kernel
theorem f_Alm_layOutSeasons_2 : fch r_Alm_layOutSeasons.2.1 2 = some (.iload_n 2) := by decide +kernel
theorem f_Alm_layOutSeasons_3 : fch r_Alm_layOutSeasons.2.1 3 = some (.aload_n 0) := by decide +kernel
theorem f_Alm_layOutSeasons_4 : fch r_Alm_layOutSeasons.2.1 4 = some (.getfield 11) := by decide +kernel
theorem f_Alm_layOutSeasons_7 : fch r_Alm_layOutSeasons.2.1 7 = some (.arraylength) := by decide +kernel
theorem f_Alm_layOutSeasons_8 : fch r_Alm_layOutSeasons.2.1 8 = some (.if_icmp .ge 16) := by decide +kernel
theorem f_Alm_layOutSeasons_11 : fch r_Alm_layOutSeasons.2.1 11 = some (.aload_n 0) := by decide +kernel
theorem f_Alm_layOutSeasons_12 : fch r_Alm_layOutSeasons.2.1 12 = some (.getfield 11) := by decide +kernel
theorem f_Alm_layOutSeasons_15 : fch r_Alm_layOutSeasons.2.1 15 = some (.iload_n 2) := by decide +kernel
theorem f_Alm_layOutSeasons_16 : fch r_Alm_layOutSeasons.2.1 16 = some (.iconst (-1)) := by decide +kernel
theorem f_Alm_layOutSeasons_17 : fch r_Alm_layOutSeasons.2.1 17 = some (.iastore) := by decide +kernel
theorem f_Alm_layOutSeasons_18 : fch r_Alm_layOutSeasons.2.1 18 = some (.iinc 2 1) := by decide +kernel
theorem f_Alm_layOutSeasons_21 : fch r_Alm_layOutSeasons.2.1 21 = some (.goto (-19)) := by decide +kernel
theorem f_Alm_layOutSeasons_24 : fch r_Alm_layOutSeasons.2.1 24 = some (.iconst 0) := by decide +kernel
theorem f_Alm_layOutSeasons_25 : fch r_Alm_layOutSeasons.2.1 25 = some (.istore_n 2) := by decide +kernel
theorem f_Alm_layOutSeasons_26 : fch r_Alm_layOutSeasons.2.1 26 = some (.iload_n 2) := by decide +kernel
theorem f_Alm_layOutSeasons_27 : fch r_Alm_layOutSeasons.2.1 27 = some (.aload_n 0) := by decide +kernel
theorem f_Alm_layOutSeasons_28 : fch r_Alm_layOutSeasons.2.1 28 = some (.getfield 31) := by decide +kernel
theorem f_Alm_layOutSeasons_31 : fch r_Alm_layOutSeasons.2.1 31 = some (.invokevirtual 123) := by decide +kernel
theorem f_Alm_layOutSeasons_34 : fch r_Alm_layOutSeasons.2.1 34 = some (.if_icmp .ge 65) := by decide +kernel
theorem f_Alm_layOutSeasons_37 : fch r_Alm_layOutSeasons.2.1 37 = some (.aload_n 0) := by decide +kernel
theorem f_Alm_layOutSeasons_38 : fch r_Alm_layOutSeasons.2.1 38 = some (.getfield 31) := by decide +kernel
theorem f_Alm_layOutSeasons_41 : fch r_Alm_layOutSeasons.2.1 41 = some (.iload_n 2) := by decide +kernel
theorem f_Alm_layOutSeasons_42 : fch r_Alm_layOutSeasons.2.1 42 = some (.iload_n 1) := by decide +kernel
theorem f_Alm_layOutSeasons_43 : fch r_Alm_layOutSeasons.2.1 43 = some (.invokevirtual 124) := by decide +kernel
theorem f_Alm_layOutSeasons_46 : fch r_Alm_layOutSeasons.2.1 46 = some (.aload_n 0) := by decide +kernel
theorem f_Alm_layOutSeasons_47 : fch r_Alm_layOutSeasons.2.1 47 = some (.getfield 91) := by decide +kernel
theorem f_Alm_layOutSeasons_50 : fch r_Alm_layOutSeasons.2.1 50 = some (.iconst 1) := by decide +kernel
theorem f_Alm_layOutSeasons_51 : fch r_Alm_layOutSeasons.2.1 51 = some (.isub) := by decide +kernel
theorem f_Alm_layOutSeasons_52 : fch r_Alm_layOutSeasons.2.1 52 = some (.invokestatic 127) := by decide +kernel
theorem f_Alm_layOutSeasons_55 : fch r_Alm_layOutSeasons.2.1 55 = some (.istore_n 3) := by decide +kernel
theorem f_Alm_layOutSeasons_56 : fch r_Alm_layOutSeasons.2.1 56 = some (.aload_n 0) := by decide +kernel
theorem f_Alm_layOutSeasons_57 : fch r_Alm_layOutSeasons.2.1 57 = some (.getfield 31) := by decide +kernel
theorem f_Alm_layOutSeasons_60 : fch r_Alm_layOutSeasons.2.1 60 = some (.iload_n 2) := by decide +kernel
theorem f_Alm_layOutSeasons_61 : fch r_Alm_layOutSeasons.2.1 61 = some (.iload_n 1) := by decide +kernel
theorem f_Alm_layOutSeasons_62 : fch r_Alm_layOutSeasons.2.1 62 = some (.invokevirtual 132) := by decide +kernel
theorem f_Alm_layOutSeasons_65 : fch r_Alm_layOutSeasons.2.1 65 = some (.iconst 0) := by decide +kernel
theorem f_Alm_layOutSeasons_66 : fch r_Alm_layOutSeasons.2.1 66 = some (.invokestatic 135) := by decide +kernel
theorem f_Alm_layOutSeasons_69 : fch r_Alm_layOutSeasons.2.1 69 = some (.istore 4) := by decide +kernel
theorem f_Alm_layOutSeasons_71 : fch r_Alm_layOutSeasons.2.1 71 = some (.iload 4) := by decide +kernel
theorem f_Alm_layOutSeasons_73 : fch r_Alm_layOutSeasons.2.1 73 = some (.iload_n 3) := by decide +kernel
theorem f_Alm_layOutSeasons_74 : fch r_Alm_layOutSeasons.2.1 74 = some (.if_icmp .gt 19) := by decide +kernel
theorem f_Alm_layOutSeasons_77 : fch r_Alm_layOutSeasons.2.1 77 = some (.aload_n 0) := by decide +kernel
theorem f_Alm_layOutSeasons_78 : fch r_Alm_layOutSeasons.2.1 78 = some (.getfield 11) := by decide +kernel
theorem f_Alm_layOutSeasons_81 : fch r_Alm_layOutSeasons.2.1 81 = some (.iload 4) := by decide +kernel
theorem f_Alm_layOutSeasons_83 : fch r_Alm_layOutSeasons.2.1 83 = some (.iload_n 2) := by decide +kernel
theorem f_Alm_layOutSeasons_84 : fch r_Alm_layOutSeasons.2.1 84 = some (.invokestatic 109) := by decide +kernel
theorem f_Alm_layOutSeasons_87 : fch r_Alm_layOutSeasons.2.1 87 = some (.iinc 4 1) := by decide +kernel
theorem f_Alm_layOutSeasons_90 : fch r_Alm_layOutSeasons.2.1 90 = some (.goto (-19)) := by decide +kernel
theorem f_Alm_layOutSeasons_93 : fch r_Alm_layOutSeasons.2.1 93 = some (.iinc 2 1) := by decide +kernel
theorem f_Alm_layOutSeasons_96 : fch r_Alm_layOutSeasons.2.1 96 = some (.goto (-70)) := by decide +kernel
theorem f_Alm_layOutSeasons_99 : fch r_Alm_layOutSeasons.2.1 99 = some (.return_) := by decide +kernel
theorem f_Sea_count_0 : fch r_Sea_count.2.1 0 = some (.aload_n 0) := by decide +kernel
theorem f_Sea_count_1 : fch r_Sea_count.2.1 1 = some (.getfield 45) := by decide +kernel
theorem f_Sea_count_4 : fch r_Sea_count.2.1 4 = some (.ireturn) := by decide +kernel
theorem f_Sea_lastDay_0 : fch r_Sea_lastDay.2.1 0 = some (.aload_n 0) := by decide +kernel
theorem f_Sea_lastDay_1 : fch r_Sea_lastDay.2.1 1 = some (.iload_n 1) := by decide +kernel
theorem f_Sea_lastDay_2 : fch r_Sea_lastDay.2.1 2 = some (.invokevirtual 53) := by decide +kernel
theorem f_Sea_lastDay_5 : fch r_Sea_lastDay.2.1 5 = some (.ifCond .eq 18) := by decide +kernel
theorem f_Sea_lastDay_8 : fch r_Sea_lastDay.2.1 8 = some (.iload_n 2) := by decide +kernel
theorem f_Sea_lastDay_9 : fch r_Sea_lastDay.2.1 9 = some (.aload_n 0) := by decide +kernel
theorem f_Sea_lastDay_10 : fch r_Sea_lastDay.2.1 10 = some (.getfield 19) := by decide +kernel
theorem f_Sea_lastDay_13 : fch r_Sea_lastDay.2.1 13 = some (.iload_n 1) := by decide +kernel
theorem f_Sea_lastDay_14 : fch r_Sea_lastDay.2.1 14 = some (.invokestatic 56) := by decide +kernel
theorem f_Sea_lastDay_17 : fch r_Sea_lastDay.2.1 17 = some (.invokestatic 60) := by decide +kernel
theorem f_Sea_lastDay_20 : fch r_Sea_lastDay.2.1 20 = some (.goto 16) := by decide +kernel
theorem f_Sea_lastDay_23 : fch r_Sea_lastDay.2.1 23 = some (.iload_n 2) := by decide +kernel
theorem f_Sea_lastDay_24 : fch r_Sea_lastDay.2.1 24 = some (.invokestatic 64) := by decide +kernel
theorem f_Sea_lastDay_27 : fch r_Sea_lastDay.2.1 27 = some (.aload_n 0) := by decide +kernel
theorem f_Sea_lastDay_28 : fch r_Sea_lastDay.2.1 28 = some (.getfield 19) := by decide +kernel
theorem f_Sea_lastDay_31 : fch r_Sea_lastDay.2.1 31 = some (.iload_n 1) := by decide +kernel
theorem f_Sea_lastDay_32 : fch r_Sea_lastDay.2.1 32 = some (.invokestatic 56) := by decide +kernel
theorem f_Sea_lastDay_35 : fch r_Sea_lastDay.2.1 35 = some (.iadd) := by decide +kernel
theorem f_Sea_lastDay_36 : fch r_Sea_lastDay.2.1 36 = some (.ireturn) := by decide +kernel
theorem f_Sea_isByDates_0 : fch r_Sea_isByDates.2.1 0 = some (.iload_n 1) := by decide +kernel
theorem f_Sea_isByDates_1 : fch r_Sea_isByDates.2.1 1 = some (.ifCond .lt 25) := by decide +kernel
theorem f_Sea_isByDates_4 : fch r_Sea_isByDates.2.1 4 = some (.iload_n 1) := by decide +kernel
theorem f_Sea_isByDates_5 : fch r_Sea_isByDates.2.1 5 = some (.aload_n 0) := by decide +kernel
theorem f_Sea_isByDates_6 : fch r_Sea_isByDates.2.1 6 = some (.getfield 9) := by decide +kernel
theorem f_Sea_isByDates_9 : fch r_Sea_isByDates.2.1 9 = some (.arraylength) := by decide +kernel
theorem f_Sea_isByDates_10 : fch r_Sea_isByDates.2.1 10 = some (.if_icmp .ge 16) := by decide +kernel
theorem f_Sea_isByDates_13 : fch r_Sea_isByDates.2.1 13 = some (.aload_n 0) := by decide +kernel
theorem f_Sea_isByDates_14 : fch r_Sea_isByDates.2.1 14 = some (.getfield 9) := by decide +kernel
theorem f_Sea_isByDates_17 : fch r_Sea_isByDates.2.1 17 = some (.iload_n 1) := by decide +kernel
theorem f_Sea_isByDates_18 : fch r_Sea_isByDates.2.1 18 = some (.baload) := by decide +kernel
theorem f_Sea_isByDates_19 : fch r_Sea_isByDates.2.1 19 = some (.ifCond .eq 7) := by decide +kernel
theorem f_Sea_isByDates_22 : fch r_Sea_isByDates.2.1 22 = some (.iconst 1) := by decide +kernel
theorem f_Sea_isByDates_23 : fch r_Sea_isByDates.2.1 23 = some (.goto 4) := by decide +kernel
theorem f_Sea_isByDates_26 : fch r_Sea_isByDates.2.1 26 = some (.iconst 0) := by decide +kernel
theorem f_Sea_isByDates_27 : fch r_Sea_isByDates.2.1 27 = some (.ireturn) := by decide +kernel
theorem f_Day_roughDay_0 : fch r_Day_roughDay.2.1 0 = some (.iload_n 1) := by decide +kernel
theorem f_Day_roughDay_1 : fch r_Day_roughDay.2.1 1 = some (.bipush 100) := by decide +kernel
theorem f_Day_roughDay_3 : fch r_Day_roughDay.2.1 3 = some (.idiv) := by decide +kernel
theorem f_Day_roughDay_4 : fch r_Day_roughDay.2.1 4 = some (.istore_n 2) := by decide +kernel
theorem f_Day_roughDay_5 : fch r_Day_roughDay.2.1 5 = some (.iload_n 1) := by decide +kernel
theorem f_Day_roughDay_6 : fch r_Day_roughDay.2.1 6 = some (.bipush 100) := by decide +kernel
theorem f_Day_roughDay_8 : fch r_Day_roughDay.2.1 8 = some (.irem) := by decide +kernel
theorem f_Day_roughDay_9 : fch r_Day_roughDay.2.1 9 = some (.iload_n 0) := by decide +kernel
theorem f_Day_roughDay_10 : fch r_Day_roughDay.2.1 10 = some (.iload_n 2) := by decide +kernel
theorem f_Day_roughDay_11 : fch r_Day_roughDay.2.1 11 = some (.invokestatic 34) := by decide +kernel
theorem f_Day_roughDay_14 : fch r_Day_roughDay.2.1 14 = some (.invokestatic 41) := by decide +kernel
theorem f_Day_roughDay_17 : fch r_Day_roughDay.2.1 17 = some (.istore_n 3) := by decide +kernel
theorem f_Day_roughDay_18 : fch r_Day_roughDay.2.1 18 = some (.iload_n 0) := by decide +kernel
theorem f_Day_roughDay_19 : fch r_Day_roughDay.2.1 19 = some (.iload_n 2) := by decide +kernel
theorem f_Day_roughDay_20 : fch r_Day_roughDay.2.1 20 = some (.invokestatic 19) := by decide +kernel
theorem f_Day_roughDay_23 : fch r_Day_roughDay.2.1 23 = some (.iload_n 3) := by decide +kernel
theorem f_Day_roughDay_24 : fch r_Day_roughDay.2.1 24 = some (.iadd) := by decide +kernel
theorem f_Day_roughDay_25 : fch r_Day_roughDay.2.1 25 = some (.iconst 1) := by decide +kernel
theorem f_Day_roughDay_26 : fch r_Day_roughDay.2.1 26 = some (.isub) := by decide +kernel
theorem f_Day_roughDay_27 : fch r_Day_roughDay.2.1 27 = some (.ireturn) := by decide +kernel
theorem f_Sea_firstDay_0 : fch r_Sea_firstDay.2.1 0 = some (.aload_n 0) := by decide +kernel
theorem f_Sea_firstDay_1 : fch r_Sea_firstDay.2.1 1 = some (.iload_n 1) := by decide +kernel
theorem f_Sea_firstDay_2 : fch r_Sea_firstDay.2.1 2 = some (.invokevirtual 53) := by decide +kernel
theorem f_Sea_firstDay_5 : fch r_Sea_firstDay.2.1 5 = some (.ifCond .eq 18) := by decide +kernel
theorem f_Sea_firstDay_8 : fch r_Sea_firstDay.2.1 8 = some (.iload_n 2) := by decide +kernel
theorem f_Sea_firstDay_9 : fch r_Sea_firstDay.2.1 9 = some (.aload_n 0) := by decide +kernel
theorem f_Sea_firstDay_10 : fch r_Sea_firstDay.2.1 10 = some (.getfield 15) := by decide +kernel
theorem f_Sea_firstDay_13 : fch r_Sea_firstDay.2.1 13 = some (.iload_n 1) := by decide +kernel
theorem f_Sea_firstDay_14 : fch r_Sea_firstDay.2.1 14 = some (.invokestatic 56) := by decide +kernel
theorem f_Sea_firstDay_17 : fch r_Sea_firstDay.2.1 17 = some (.invokestatic 60) := by decide +kernel
theorem f_Sea_firstDay_20 : fch r_Sea_firstDay.2.1 20 = some (.goto 16) := by decide +kernel
theorem f_Sea_firstDay_23 : fch r_Sea_firstDay.2.1 23 = some (.iload_n 2) := by decide +kernel
theorem f_Sea_firstDay_24 : fch r_Sea_firstDay.2.1 24 = some (.invokestatic 64) := by decide +kernel
theorem f_Sea_firstDay_27 : fch r_Sea_firstDay.2.1 27 = some (.aload_n 0) := by decide +kernel
theorem f_Sea_firstDay_28 : fch r_Sea_firstDay.2.1 28 = some (.getfield 15) := by decide +kernel
theorem f_Sea_firstDay_31 : fch r_Sea_firstDay.2.1 31 = some (.iload_n 1) := by decide +kernel
theorem f_Sea_firstDay_32 : fch r_Sea_firstDay.2.1 32 = some (.invokestatic 56) := by decide +kernel
theorem f_Sea_firstDay_35 : fch r_Sea_firstDay.2.1 35 = some (.iadd) := by decide +kernel
theorem f_Sea_firstDay_36 : fch r_Sea_firstDay.2.1 36 = some (.ireturn) := by decide +kernel
theorem f_Fea_count_0 : fch r_Fea_count.2.1 0 = some (.aload_n 0) := by decide +kernel
theorem f_Fea_count_1 : fch r_Fea_count.2.1 1 = some (.getfield 34) := by decide +kernel
theorem f_Fea_count_4 : fch r_Fea_count.2.1 4 = some (.ireturn) := by decide +kernel
theorem f_Fea_dayIn_0 : fch r_Fea_dayIn.2.1 0 = some (.aload_n 0) := by decide +kernel
theorem f_Fea_dayIn_1 : fch r_Fea_dayIn.2.1 1 = some (.getfield 15) := by decide +kernel
theorem f_Fea_dayIn_4 : fch r_Fea_dayIn.2.1 4 = some (.iload_n 1) := by decide +kernel
theorem f_Fea_dayIn_5 : fch r_Fea_dayIn.2.1 5 = some (.invokestatic 62) := by decide +kernel
theorem f_Fea_dayIn_8 : fch r_Fea_dayIn.2.1 8 = some (.istore_n 3) := by decide +kernel
theorem f_Fea_dayIn_9 : fch r_Fea_dayIn.2.1 9 = some (.aload_n 0) := by decide +kernel
theorem f_Fea_dayIn_10 : fch r_Fea_dayIn.2.1 10 = some (.getfield 9) := by decide +kernel
theorem f_Fea_dayIn_13 : fch r_Fea_dayIn.2.1 13 = some (.iload_n 1) := by decide +kernel
theorem f_Fea_dayIn_14 : fch r_Fea_dayIn.2.1 14 = some (.invokestatic 62) := by decide +kernel
theorem f_Fea_dayIn_17 : fch r_Fea_dayIn.2.1 17 = some (.tableswitch 90 0 2 #[27, 40, 70]) := by decide +kernel
theorem f_Fea_dayIn_44 : fch r_Fea_dayIn.2.1 44 = some (.iload_n 2) := by decide +kernel
theorem f_Fea_dayIn_45 : fch r_Fea_dayIn.2.1 45 = some (.iload_n 3) := by decide +kernel
theorem f_Fea_dayIn_46 : fch r_Fea_dayIn.2.1 46 = some (.bipush 100) := by decide +kernel
theorem f_Fea_dayIn_48 : fch r_Fea_dayIn.2.1 48 = some (.idiv) := by decide +kernel
theorem f_Fea_dayIn_49 : fch r_Fea_dayIn.2.1 49 = some (.iload_n 3) := by decide +kernel
theorem f_Fea_dayIn_50 : fch r_Fea_dayIn.2.1 50 = some (.bipush 100) := by decide +kernel
theorem f_Fea_dayIn_52 : fch r_Fea_dayIn.2.1 52 = some (.irem) := by decide +kernel
theorem f_Fea_dayIn_53 : fch r_Fea_dayIn.2.1 53 = some (.invokestatic 66) := by decide +kernel
theorem f_Fea_dayIn_56 : fch r_Fea_dayIn.2.1 56 = some (.ireturn) := by decide +kernel
theorem f_Fea_dayIn_57 : fch r_Fea_dayIn.2.1 57 = some (.iload_n 2) := by decide +kernel
theorem f_Fea_dayIn_58 : fch r_Fea_dayIn.2.1 58 = some (.invokestatic 70) := by decide +kernel
theorem f_Fea_dayIn_61 : fch r_Fea_dayIn.2.1 61 = some (.iload_n 3) := by decide +kernel
theorem f_Fea_dayIn_62 : fch r_Fea_dayIn.2.1 62 = some (.iadd) := by decide +kernel
theorem f_Fea_dayIn_63 : fch r_Fea_dayIn.2.1 63 = some (.istore 4) := by decide +kernel
theorem f_Fea_dayIn_65 : fch r_Fea_dayIn.2.1 65 = some (.iload 4) := by decide +kernel
theorem f_Fea_dayIn_67 : fch r_Fea_dayIn.2.1 67 = some (.iconst 0) := by decide +kernel
theorem f_Fea_dayIn_68 : fch r_Fea_dayIn.2.1 68 = some (.iload_n 2) := by decide +kernel
theorem f_Fea_dayIn_69 : fch r_Fea_dayIn.2.1 69 = some (.invokestatic 74) := by decide +kernel
theorem f_Fea_dayIn_72 : fch r_Fea_dayIn.2.1 72 = some (.iconst 1) := by decide +kernel
theorem f_Fea_dayIn_73 : fch r_Fea_dayIn.2.1 73 = some (.isub) := by decide +kernel
theorem f_Fea_dayIn_74 : fch r_Fea_dayIn.2.1 74 = some (.invokestatic 45) := by decide +kernel
theorem f_Fea_dayIn_77 : fch r_Fea_dayIn.2.1 77 = some (.ifCond .eq 8) := by decide +kernel
theorem f_Fea_dayIn_80 : fch r_Fea_dayIn.2.1 80 = some (.iload 4) := by decide +kernel
theorem f_Fea_dayIn_82 : fch r_Fea_dayIn.2.1 82 = some (.goto 4) := by decide +kernel
theorem f_Fea_dayIn_85 : fch r_Fea_dayIn.2.1 85 = some (.iconst (-1)) := by decide +kernel
theorem f_Fea_dayIn_86 : fch r_Fea_dayIn.2.1 86 = some (.ireturn) := by decide +kernel
theorem f_Fea_dayIn_87 : fch r_Fea_dayIn.2.1 87 = some (.iload_n 2) := by decide +kernel
theorem f_Fea_dayIn_88 : fch r_Fea_dayIn.2.1 88 = some (.iload_n 3) := by decide +kernel
theorem f_Fea_dayIn_89 : fch r_Fea_dayIn.2.1 89 = some (.bipush 100) := by decide +kernel
theorem f_Fea_dayIn_91 : fch r_Fea_dayIn.2.1 91 = some (.idiv) := by decide +kernel
theorem f_Fea_dayIn_92 : fch r_Fea_dayIn.2.1 92 = some (.iload_n 3) := by decide +kernel
theorem f_Fea_dayIn_93 : fch r_Fea_dayIn.2.1 93 = some (.bipush 10) := by decide +kernel
theorem f_Fea_dayIn_95 : fch r_Fea_dayIn.2.1 95 = some (.idiv) := by decide +kernel
theorem f_Fea_dayIn_96 : fch r_Fea_dayIn.2.1 96 = some (.bipush 10) := by decide +kernel
theorem f_Fea_dayIn_98 : fch r_Fea_dayIn.2.1 98 = some (.irem) := by decide +kernel
theorem f_Fea_dayIn_99 : fch r_Fea_dayIn.2.1 99 = some (.iload_n 3) := by decide +kernel
theorem f_Fea_dayIn_100 : fch r_Fea_dayIn.2.1 100 = some (.bipush 10) := by decide +kernel
theorem f_Fea_dayIn_102 : fch r_Fea_dayIn.2.1 102 = some (.irem) := by decide +kernel
theorem f_Fea_dayIn_103 : fch r_Fea_dayIn.2.1 103 = some (.invokestatic 77) := by decide +kernel
theorem f_Fea_dayIn_106 : fch r_Fea_dayIn.2.1 106 = some (.ireturn) := by decide +kernel
theorem f_Fea_dayIn_107 : fch r_Fea_dayIn.2.1 107 = some (.iconst (-1)) := by decide +kernel
theorem f_Fea_dayIn_108 : fch r_Fea_dayIn.2.1 108 = some (.ireturn) := by decide +kernel
theorem f_Day_nthWeekday_0 : fch r_Day_nthWeekday.2.1 0 = some (.iload_n 0) := by decide +kernel
theorem f_Day_nthWeekday_1 : fch r_Day_nthWeekday.2.1 1 = some (.iload_n 1) := by decide +kernel
theorem f_Day_nthWeekday_2 : fch r_Day_nthWeekday.2.1 2 = some (.invokestatic 19) := by decide +kernel
theorem f_Day_nthWeekday_5 : fch r_Day_nthWeekday.2.1 5 = some (.istore 4) := by decide +kernel
theorem f_Day_nthWeekday_7 : fch r_Day_nthWeekday.2.1 7 = some (.iload_n 2) := by decide +kernel
theorem f_Day_nthWeekday_8 : fch r_Day_nthWeekday.2.1 8 = some (.iload_n 0) := by decide +kernel
theorem f_Day_nthWeekday_9 : fch r_Day_nthWeekday.2.1 9 = some (.invokestatic 46) := by decide +kernel
theorem f_Day_nthWeekday_12 : fch r_Day_nthWeekday.2.1 12 = some (.iload 4) := by decide +kernel
theorem f_Day_nthWeekday_14 : fch r_Day_nthWeekday.2.1 14 = some (.iadd) := by decide +kernel
theorem f_Day_nthWeekday_15 : fch r_Day_nthWeekday.2.1 15 = some (.bipush 7) := by decide +kernel
theorem f_Day_nthWeekday_17 : fch r_Day_nthWeekday.2.1 17 = some (.irem) := by decide +kernel
theorem f_Day_nthWeekday_18 : fch r_Day_nthWeekday.2.1 18 = some (.isub) := by decide +kernel
theorem f_Day_nthWeekday_19 : fch r_Day_nthWeekday.2.1 19 = some (.bipush 7) := by decide +kernel
theorem f_Day_nthWeekday_21 : fch r_Day_nthWeekday.2.1 21 = some (.iadd) := by decide +kernel
theorem f_Day_nthWeekday_22 : fch r_Day_nthWeekday.2.1 22 = some (.bipush 7) := by decide +kernel
theorem f_Day_nthWeekday_24 : fch r_Day_nthWeekday.2.1 24 = some (.irem) := by decide +kernel
theorem f_Day_nthWeekday_25 : fch r_Day_nthWeekday.2.1 25 = some (.istore 5) := by decide +kernel
theorem f_Day_nthWeekday_27 : fch r_Day_nthWeekday.2.1 27 = some (.iload_n 0) := by decide +kernel
theorem f_Day_nthWeekday_28 : fch r_Day_nthWeekday.2.1 28 = some (.iload_n 1) := by decide +kernel
theorem f_Day_nthWeekday_29 : fch r_Day_nthWeekday.2.1 29 = some (.iconst 1) := by decide +kernel
theorem f_Day_nthWeekday_30 : fch r_Day_nthWeekday.2.1 30 = some (.iload 5) := by decide +kernel
theorem f_Day_nthWeekday_32 : fch r_Day_nthWeekday.2.1 32 = some (.iadd) := by decide +kernel
theorem f_Day_nthWeekday_33 : fch r_Day_nthWeekday.2.1 33 = some (.bipush 7) := by decide +kernel
theorem f_Day_nthWeekday_35 : fch r_Day_nthWeekday.2.1 35 = some (.iload_n 3) := by decide +kernel
theorem f_Day_nthWeekday_36 : fch r_Day_nthWeekday.2.1 36 = some (.iconst 1) := by decide +kernel
theorem f_Day_nthWeekday_37 : fch r_Day_nthWeekday.2.1 37 = some (.isub) := by decide +kernel
theorem f_Day_nthWeekday_38 : fch r_Day_nthWeekday.2.1 38 = some (.imul) := by decide +kernel
theorem f_Day_nthWeekday_39 : fch r_Day_nthWeekday.2.1 39 = some (.iadd) := by decide +kernel
theorem f_Day_nthWeekday_40 : fch r_Day_nthWeekday.2.1 40 = some (.invokestatic 37) := by decide +kernel
theorem f_Day_nthWeekday_43 : fch r_Day_nthWeekday.2.1 43 = some (.ireturn) := by decide +kernel
theorem f_Alm_considerAll_0 : fch r_Alm_considerAll.2.1 0 = some (.iconst 0) := by decide +kernel
theorem f_Alm_considerAll_1 : fch r_Alm_considerAll.2.1 1 = some (.istore_n 2) := by decide +kernel
theorem f_Alm_considerAll_2 : fch r_Alm_considerAll.2.1 2 = some (.iload_n 2) := by decide +kernel
theorem f_Alm_considerAll_3 : fch r_Alm_considerAll.2.1 3 = some (.aload_n 0) := by decide +kernel
theorem f_Alm_considerAll_4 : fch r_Alm_considerAll.2.1 4 = some (.getfield 91) := by decide +kernel
theorem f_Alm_considerAll_7 : fch r_Alm_considerAll.2.1 7 = some (.if_icmp .ge 72) := by decide +kernel
theorem f_Alm_considerAll_10 : fch r_Alm_considerAll.2.1 10 = some (.aload_n 0) := by decide +kernel
theorem f_Alm_considerAll_11 : fch r_Alm_considerAll.2.1 11 = some (.iload_n 2) := by decide +kernel
theorem f_Alm_considerAll_12 : fch r_Alm_considerAll.2.1 12 = some (.invokevirtual 138) := by decide +kernel
theorem f_Alm_considerAll_15 : fch r_Alm_considerAll.2.1 15 = some (.istore_n 3) := by decide +kernel
theorem f_Alm_considerAll_16 : fch r_Alm_considerAll.2.1 16 = some (.aload_n 0) := by decide +kernel
theorem f_Alm_considerAll_17 : fch r_Alm_considerAll.2.1 17 = some (.getfield 31) := by decide +kernel
theorem f_Alm_considerAll_20 : fch r_Alm_considerAll.2.1 20 = some (.aload_n 0) := by decide +kernel
theorem f_Alm_considerAll_21 : fch r_Alm_considerAll.2.1 21 = some (.getfield 11) := by decide +kernel
theorem f_Alm_considerAll_24 : fch r_Alm_considerAll.2.1 24 = some (.iload_n 2) := by decide +kernel
theorem f_Alm_considerAll_25 : fch r_Alm_considerAll.2.1 25 = some (.invokestatic 60) := by decide +kernel
theorem f_Alm_considerAll_28 : fch r_Alm_considerAll.2.1 28 = some (.iload_n 3) := by decide +kernel
theorem f_Alm_considerAll_29 : fch r_Alm_considerAll.2.1 29 = some (.invokevirtual 141) := by decide +kernel
theorem f_Alm_considerAll_32 : fch r_Alm_considerAll.2.1 32 = some (.istore 4) := by decide +kernel
theorem f_Alm_considerAll_34 : fch r_Alm_considerAll.2.1 34 = some (.iload_n 3) := by decide +kernel
theorem f_Alm_considerAll_35 : fch r_Alm_considerAll.2.1 35 = some (.ifCond .ne 7) := by decide +kernel
theorem f_Alm_considerAll_38 : fch r_Alm_considerAll.2.1 38 = some (.iconst 1) := by decide +kernel
theorem f_Alm_considerAll_39 : fch r_Alm_considerAll.2.1 39 = some (.goto 4) := by decide +kernel
theorem f_Alm_considerAll_42 : fch r_Alm_considerAll.2.1 42 = some (.iconst 0) := by decide +kernel
theorem f_Alm_considerAll_43 : fch r_Alm_considerAll.2.1 43 = some (.istore 5) := by decide +kernel
theorem f_Alm_considerAll_45 : fch r_Alm_considerAll.2.1 45 = some (.iload 4) := by decide +kernel
theorem f_Alm_considerAll_47 : fch r_Alm_considerAll.2.1 47 = some (.ifCond .ne 7) := by decide +kernel
theorem f_Alm_considerAll_50 : fch r_Alm_considerAll.2.1 50 = some (.iconst 0) := by decide +kernel
theorem f_Alm_considerAll_51 : fch r_Alm_considerAll.2.1 51 = some (.goto 4) := by decide +kernel
theorem f_Alm_considerAll_54 : fch r_Alm_considerAll.2.1 54 = some (.iconst 1) := by decide +kernel
theorem f_Alm_considerAll_55 : fch r_Alm_considerAll.2.1 55 = some (.istore 6) := by decide +kernel
theorem f_Alm_considerAll_57 : fch r_Alm_considerAll.2.1 57 = some (.aload_n 0) := by decide +kernel
theorem f_Alm_considerAll_58 : fch r_Alm_considerAll.2.1 58 = some (.iload_n 2) := by decide +kernel
theorem f_Alm_considerAll_59 : fch r_Alm_considerAll.2.1 59 = some (.iload 4) := by decide +kernel
theorem f_Alm_considerAll_61 : fch r_Alm_considerAll.2.1 61 = some (.iload 5) := by decide +kernel
theorem f_Alm_considerAll_63 : fch r_Alm_considerAll.2.1 63 = some (.iconst 0) := by decide +kernel
theorem f_Alm_considerAll_64 : fch r_Alm_considerAll.2.1 64 = some (.invokestatic 144) := by decide +kernel
theorem f_Alm_considerAll_67 : fch r_Alm_considerAll.2.1 67 = some (.iload 6) := by decide +kernel
theorem f_Alm_considerAll_69 : fch r_Alm_considerAll.2.1 69 = some (.iload_n 1) := by decide +kernel
theorem f_Alm_considerAll_70 : fch r_Alm_considerAll.2.1 70 = some (.invokevirtual 148) := by decide +kernel
theorem f_Alm_considerAll_73 : fch r_Alm_considerAll.2.1 73 = some (.iinc 2 1) := by decide +kernel
theorem f_Alm_considerAll_76 : fch r_Alm_considerAll.2.1 76 = some (.goto (-74)) := by decide +kernel
theorem f_Alm_considerAll_79 : fch r_Alm_considerAll.2.1 79 = some (.iconst 0) := by decide +kernel
theorem f_Alm_considerAll_80 : fch r_Alm_considerAll.2.1 80 = some (.istore_n 2) := by decide +kernel
theorem f_Alm_considerAll_81 : fch r_Alm_considerAll.2.1 81 = some (.iload_n 2) := by decide +kernel
theorem f_Alm_considerAll_82 : fch r_Alm_considerAll.2.1 82 = some (.aload_n 0) := by decide +kernel
theorem f_Alm_considerAll_83 : fch r_Alm_considerAll.2.1 83 = some (.getfield 35) := by decide +kernel
theorem f_Alm_considerAll_86 : fch r_Alm_considerAll.2.1 86 = some (.invokevirtual 97) := by decide +kernel
theorem f_Alm_considerAll_89 : fch r_Alm_considerAll.2.1 89 = some (.if_icmp .ge 30) := by decide +kernel
theorem f_Alm_considerAll_92 : fch r_Alm_considerAll.2.1 92 = some (.aload_n 0) := by decide +kernel
theorem f_Alm_considerAll_93 : fch r_Alm_considerAll.2.1 93 = some (.getfield 21) := by decide +kernel
theorem f_Alm_considerAll_96 : fch r_Alm_considerAll.2.1 96 = some (.iload_n 2) := by decide +kernel
theorem f_Alm_considerAll_97 : fch r_Alm_considerAll.2.1 97 = some (.invokestatic 60) := by decide +kernel
theorem f_Alm_considerAll_100 : fch r_Alm_considerAll.2.1 100 = some (.istore_n 3) := by decide +kernel
theorem f_Alm_considerAll_101 : fch r_Alm_considerAll.2.1 101 = some (.iload_n 3) := by decide +kernel
theorem f_Alm_considerAll_102 : fch r_Alm_considerAll.2.1 102 = some (.iconst (-1)) := by decide +kernel
theorem f_Alm_considerAll_103 : fch r_Alm_considerAll.2.1 103 = some (.if_icmp .eq 10) := by decide +kernel
theorem f_Alm_considerAll_106 : fch r_Alm_considerAll.2.1 106 = some (.aload_n 0) := by decide +kernel
theorem f_Alm_considerAll_107 : fch r_Alm_considerAll.2.1 107 = some (.iload_n 2) := by decide +kernel
theorem f_Alm_considerAll_108 : fch r_Alm_considerAll.2.1 108 = some (.iload_n 3) := by decide +kernel
theorem f_Alm_considerAll_109 : fch r_Alm_considerAll.2.1 109 = some (.iload_n 1) := by decide +kernel
theorem f_Alm_considerAll_110 : fch r_Alm_considerAll.2.1 110 = some (.invokevirtual 152) := by decide +kernel
theorem f_Alm_considerAll_113 : fch r_Alm_considerAll.2.1 113 = some (.iinc 2 1) := by decide +kernel
theorem f_Alm_considerAll_116 : fch r_Alm_considerAll.2.1 116 = some (.goto (-35)) := by decide +kernel
theorem f_Alm_considerAll_119 : fch r_Alm_considerAll.2.1 119 = some (.return_) := by decide +kernel
theorem f_Alm_weekdayOf_0 : fch r_Alm_weekdayOf.2.1 0 = some (.aload_n 0) := by decide +kernel
theorem f_Alm_weekdayOf_1 : fch r_Alm_weekdayOf.2.1 1 = some (.getfield 57) := by decide +kernel
theorem f_Alm_weekdayOf_4 : fch r_Alm_weekdayOf.2.1 4 = some (.iload_n 1) := by decide +kernel
theorem f_Alm_weekdayOf_5 : fch r_Alm_weekdayOf.2.1 5 = some (.iadd) := by decide +kernel
theorem f_Alm_weekdayOf_6 : fch r_Alm_weekdayOf.2.1 6 = some (.bipush 7) := by decide +kernel
theorem f_Alm_weekdayOf_8 : fch r_Alm_weekdayOf.2.1 8 = some (.irem) := by decide +kernel
theorem f_Alm_weekdayOf_9 : fch r_Alm_weekdayOf.2.1 9 = some (.ireturn) := by decide +kernel
theorem f_Sea_rankOf_0 : fch r_Sea_rankOf.2.1 0 = some (.iload_n 1) := by decide +kernel
theorem f_Sea_rankOf_1 : fch r_Sea_rankOf.2.1 1 = some (.iconst (-1)) := by decide +kernel
theorem f_Sea_rankOf_2 : fch r_Sea_rankOf.2.1 2 = some (.if_icmp .ne 13) := by decide +kernel
theorem f_Sea_rankOf_5 : fch r_Sea_rankOf.2.1 5 = some (.iload_n 2) := by decide +kernel
theorem f_Sea_rankOf_6 : fch r_Sea_rankOf.2.1 6 = some (.ifCond .ne 7) := by decide +kernel
theorem f_Sea_rankOf_9 : fch r_Sea_rankOf.2.1 9 = some (.iconst 3) := by decide +kernel
theorem f_Sea_rankOf_10 : fch r_Sea_rankOf.2.1 10 = some (.goto 4) := by decide +kernel
theorem f_Sea_rankOf_13 : fch r_Sea_rankOf.2.1 13 = some (.iconst 0) := by decide +kernel
theorem f_Sea_rankOf_14 : fch r_Sea_rankOf.2.1 14 = some (.ireturn) := by decide +kernel
theorem f_Sea_rankOf_15 : fch r_Sea_rankOf.2.1 15 = some (.iload_n 2) := by decide +kernel
theorem f_Sea_rankOf_16 : fch r_Sea_rankOf.2.1 16 = some (.ifCond .ne 14) := by decide +kernel
theorem f_Sea_rankOf_19 : fch r_Sea_rankOf.2.1 19 = some (.aload_n 0) := by decide +kernel
theorem f_Sea_rankOf_20 : fch r_Sea_rankOf.2.1 20 = some (.getfield 22) := by decide +kernel
theorem f_Sea_rankOf_23 : fch r_Sea_rankOf.2.1 23 = some (.iload_n 1) := by decide +kernel
theorem f_Sea_rankOf_24 : fch r_Sea_rankOf.2.1 24 = some (.invokestatic 56) := by decide +kernel
theorem f_Sea_rankOf_27 : fch r_Sea_rankOf.2.1 27 = some (.goto 11) := by decide +kernel
theorem f_Sea_rankOf_30 : fch r_Sea_rankOf.2.1 30 = some (.aload_n 0) := by decide +kernel
theorem f_Sea_rankOf_31 : fch r_Sea_rankOf.2.1 31 = some (.getfield 25) := by decide +kernel
theorem f_Sea_rankOf_34 : fch r_Sea_rankOf.2.1 34 = some (.iload_n 1) := by decide +kernel
theorem f_Sea_rankOf_35 : fch r_Sea_rankOf.2.1 35 = some (.invokestatic 56) := by decide +kernel
theorem f_Sea_rankOf_38 : fch r_Sea_rankOf.2.1 38 = some (.ireturn) := by decide +kernel
theorem f_Alm_candidate_0 : fch r_Alm_candidate.2.1 0 = some (.iload_n 0) := by decide +kernel
theorem f_Alm_candidate_1 : fch r_Alm_candidate.2.1 1 = some (.sipush 320) := by decide +kernel
theorem f_Alm_candidate_4 : fch r_Alm_candidate.2.1 4 = some (.imul) := by decide +kernel
theorem f_Alm_candidate_5 : fch r_Alm_candidate.2.1 5 = some (.iload_n 1) := by decide +kernel
theorem f_Alm_candidate_6 : fch r_Alm_candidate.2.1 6 = some (.invokestatic 193) := by decide +kernel
theorem f_Alm_candidate_9 : fch r_Alm_candidate.2.1 9 = some (.bipush 64) := by decide +kernel
theorem f_Alm_candidate_11 : fch r_Alm_candidate.2.1 11 = some (.imul) := by decide +kernel
theorem f_Alm_candidate_12 : fch r_Alm_candidate.2.1 12 = some (.iadd) := by decide +kernel
theorem f_Alm_candidate_13 : fch r_Alm_candidate.2.1 13 = some (.bipush 64) := by decide +kernel
theorem f_Alm_candidate_15 : fch r_Alm_candidate.2.1 15 = some (.iadd) := by decide +kernel
theorem f_Alm_candidate_16 : fch r_Alm_candidate.2.1 16 = some (.iconst 1) := by decide +kernel
theorem f_Alm_candidate_17 : fch r_Alm_candidate.2.1 17 = some (.isub) := by decide +kernel
theorem f_Alm_candidate_18 : fch r_Alm_candidate.2.1 18 = some (.iload_n 2) := by decide +kernel
theorem f_Alm_candidate_19 : fch r_Alm_candidate.2.1 19 = some (.isub) := by decide +kernel
theorem f_Alm_candidate_20 : fch r_Alm_candidate.2.1 20 = some (.ireturn) := by decide +kernel
theorem f_Alm_placeOf_0 : fch r_Alm_placeOf.2.1 0 = some (.iload_n 0) := by decide +kernel
theorem f_Alm_placeOf_1 : fch r_Alm_placeOf.2.1 1 = some (.tableswitch 39 1 4 #[35, 31, 33, 37]) := by decide +kernel
theorem f_Alm_placeOf_32 : fch r_Alm_placeOf.2.1 32 = some (.iconst 4) := by decide +kernel
theorem f_Alm_placeOf_33 : fch r_Alm_placeOf.2.1 33 = some (.ireturn) := by decide +kernel
theorem f_Alm_placeOf_34 : fch r_Alm_placeOf.2.1 34 = some (.iconst 3) := by decide +kernel
theorem f_Alm_placeOf_35 : fch r_Alm_placeOf.2.1 35 = some (.ireturn) := by decide +kernel
theorem f_Alm_placeOf_36 : fch r_Alm_placeOf.2.1 36 = some (.iconst 2) := by decide +kernel
theorem f_Alm_placeOf_37 : fch r_Alm_placeOf.2.1 37 = some (.ireturn) := by decide +kernel
theorem f_Alm_placeOf_38 : fch r_Alm_placeOf.2.1 38 = some (.iconst 1) := by decide +kernel
theorem f_Alm_placeOf_39 : fch r_Alm_placeOf.2.1 39 = some (.ireturn) := by decide +kernel
theorem f_Alm_placeOf_40 : fch r_Alm_placeOf.2.1 40 = some (.iconst 0) := by decide +kernel
theorem f_Alm_placeOf_41 : fch r_Alm_placeOf.2.1 41 = some (.ireturn) := by decide +kernel
theorem f_Alm_consider_0 : fch r_Alm_consider.2.1 0 = some (.iload_n 1) := by decide +kernel
theorem f_Alm_consider_1 : fch r_Alm_consider.2.1 1 = some (.iconst 0) := by decide +kernel
theorem f_Alm_consider_2 : fch r_Alm_consider.2.1 2 = some (.aload_n 0) := by decide +kernel
theorem f_Alm_consider_3 : fch r_Alm_consider.2.1 3 = some (.getfield 91) := by decide +kernel
theorem f_Alm_consider_6 : fch r_Alm_consider.2.1 6 = some (.iconst 1) := by decide +kernel
theorem f_Alm_consider_7 : fch r_Alm_consider.2.1 7 = some (.isub) := by decide +kernel
theorem f_Alm_consider_8 : fch r_Alm_consider.2.1 8 = some (.invokestatic 53) := by decide +kernel
theorem f_Alm_consider_11 : fch r_Alm_consider.2.1 11 = some (.ifCond .ne 4) := by decide +kernel
theorem f_Alm_consider_14 : fch r_Alm_consider.2.1 14 = some (.return_) := by decide +kernel
theorem f_Alm_consider_15 : fch r_Alm_consider.2.1 15 = some (.iload 4) := by decide +kernel
theorem f_Alm_consider_17 : fch r_Alm_consider.2.1 17 = some (.ifCond .eq 26) := by decide +kernel
theorem f_Alm_consider_20 : fch r_Alm_consider.2.1 20 = some (.aload_n 0) := by decide +kernel
theorem f_Alm_consider_21 : fch r_Alm_consider.2.1 21 = some (.getfield 15) := by decide +kernel
theorem f_Alm_consider_24 : fch r_Alm_consider.2.1 24 = some (.iload_n 1) := by decide +kernel
theorem f_Alm_consider_25 : fch r_Alm_consider.2.1 25 = some (.aload_n 0) := by decide +kernel
theorem f_Alm_consider_26 : fch r_Alm_consider.2.1 26 = some (.getfield 15) := by decide +kernel
theorem f_Alm_consider_29 : fch r_Alm_consider.2.1 29 = some (.iload_n 1) := by decide +kernel
theorem f_Alm_consider_30 : fch r_Alm_consider.2.1 30 = some (.invokestatic 60) := by decide +kernel
theorem f_Alm_consider_33 : fch r_Alm_consider.2.1 33 = some (.iload_n 2) := by decide +kernel
theorem f_Alm_consider_34 : fch r_Alm_consider.2.1 34 = some (.invokestatic 135) := by decide +kernel
theorem f_Alm_consider_37 : fch r_Alm_consider.2.1 37 = some (.invokestatic 109) := by decide +kernel
theorem f_Alm_consider_40 : fch r_Alm_consider.2.1 40 = some (.goto 26) := by decide +kernel
theorem f_Alm_consider_43 : fch r_Alm_consider.2.1 43 = some (.iload_n 3) := by decide +kernel
theorem f_Alm_consider_44 : fch r_Alm_consider.2.1 44 = some (.iconst 1) := by decide +kernel
theorem f_Alm_consider_45 : fch r_Alm_consider.2.1 45 = some (.if_icmp .ne 21) := by decide +kernel
theorem f_Alm_consider_48 : fch r_Alm_consider.2.1 48 = some (.iload_n 2) := by decide +kernel
theorem f_Alm_consider_49 : fch r_Alm_consider.2.1 49 = some (.aload_n 0) := by decide +kernel
theorem f_Alm_consider_50 : fch r_Alm_consider.2.1 50 = some (.getfield 15) := by decide +kernel
theorem f_Alm_consider_53 : fch r_Alm_consider.2.1 53 = some (.iload_n 1) := by decide +kernel
theorem f_Alm_consider_54 : fch r_Alm_consider.2.1 54 = some (.invokestatic 60) := by decide +kernel
theorem f_Alm_consider_57 : fch r_Alm_consider.2.1 57 = some (.if_icmp .eq 9) := by decide +kernel
theorem f_Alm_consider_60 : fch r_Alm_consider.2.1 60 = some (.aload_n 0) := by decide +kernel
theorem f_Alm_consider_61 : fch r_Alm_consider.2.1 61 = some (.iload_n 1) := by decide +kernel
theorem f_Alm_consider_62 : fch r_Alm_consider.2.1 62 = some (.iload_n 2) := by decide +kernel
theorem f_Alm_consider_63 : fch r_Alm_consider.2.1 63 = some (.invokevirtual 168) := by decide +kernel
theorem f_Alm_consider_66 : fch r_Alm_consider.2.1 66 = some (.return_) := by decide +kernel
theorem f_Alm_commemorate_0 : fch r_Alm_commemorate.2.1 0 = some (.iload_n 2) := by decide +kernel
theorem f_Alm_commemorate_1 : fch r_Alm_commemorate.2.1 1 = some (.istore_n 3) := by decide +kernel
theorem f_Alm_commemorate_2 : fch r_Alm_commemorate.2.1 2 = some (.iload_n 1) := by decide +kernel
theorem f_Alm_commemorate_3 : fch r_Alm_commemorate.2.1 3 = some (.iconst 3) := by decide +kernel
theorem f_Alm_commemorate_4 : fch r_Alm_commemorate.2.1 4 = some (.imul) := by decide +kernel
theorem f_Alm_commemorate_5 : fch r_Alm_commemorate.2.1 5 = some (.istore 4) := by decide +kernel
theorem f_Alm_commemorate_7 : fch r_Alm_commemorate.2.1 7 = some (.iload 4) := by decide +kernel
theorem f_Alm_commemorate_9 : fch r_Alm_commemorate.2.1 9 = some (.iload_n 1) := by decide +kernel
theorem f_Alm_commemorate_10 : fch r_Alm_commemorate.2.1 10 = some (.iconst 1) := by decide +kernel
theorem f_Alm_commemorate_11 : fch r_Alm_commemorate.2.1 11 = some (.iadd) := by decide +kernel
theorem f_Alm_commemorate_12 : fch r_Alm_commemorate.2.1 12 = some (.iconst 3) := by decide +kernel
theorem f_Alm_commemorate_13 : fch r_Alm_commemorate.2.1 13 = some (.imul) := by decide +kernel
theorem f_Alm_commemorate_14 : fch r_Alm_commemorate.2.1 14 = some (.if_icmp .ge 39) := by decide +kernel
theorem f_Alm_commemorate_17 : fch r_Alm_commemorate.2.1 17 = some (.aload_n 0) := by decide +kernel
theorem f_Alm_commemorate_18 : fch r_Alm_commemorate.2.1 18 = some (.getfield 18) := by decide +kernel
theorem f_Alm_commemorate_21 : fch r_Alm_commemorate.2.1 21 = some (.iload 4) := by decide +kernel
theorem f_Alm_commemorate_23 : fch r_Alm_commemorate.2.1 23 = some (.invokestatic 60) := by decide +kernel
theorem f_Alm_commemorate_26 : fch r_Alm_commemorate.2.1 26 = some (.istore 5) := by decide +kernel
theorem f_Alm_commemorate_28 : fch r_Alm_commemorate.2.1 28 = some (.iload_n 3) := by decide +kernel
theorem f_Alm_commemorate_29 : fch r_Alm_commemorate.2.1 29 = some (.iload 5) := by decide +kernel
theorem f_Alm_commemorate_31 : fch r_Alm_commemorate.2.1 31 = some (.if_icmp .le 16) := by decide +kernel
theorem f_Alm_commemorate_34 : fch r_Alm_commemorate.2.1 34 = some (.aload_n 0) := by decide +kernel
theorem f_Alm_commemorate_35 : fch r_Alm_commemorate.2.1 35 = some (.getfield 18) := by decide +kernel
theorem f_Alm_commemorate_38 : fch r_Alm_commemorate.2.1 38 = some (.iload 4) := by decide +kernel
theorem f_Alm_commemorate_40 : fch r_Alm_commemorate.2.1 40 = some (.iload_n 3) := by decide +kernel
theorem f_Alm_commemorate_41 : fch r_Alm_commemorate.2.1 41 = some (.invokestatic 109) := by decide +kernel
theorem f_Alm_commemorate_44 : fch r_Alm_commemorate.2.1 44 = some (.iload 5) := by decide +kernel
theorem f_Alm_commemorate_46 : fch r_Alm_commemorate.2.1 46 = some (.istore_n 3) := by decide +kernel
theorem f_Alm_commemorate_47 : fch r_Alm_commemorate.2.1 47 = some (.iinc 4 1) := by decide +kernel
theorem f_Alm_commemorate_50 : fch r_Alm_commemorate.2.1 50 = some (.goto (-43)) := by decide +kernel
theorem f_Alm_commemorate_53 : fch r_Alm_commemorate.2.1 53 = some (.return_) := by decide +kernel
theorem f_Alm_considerFeast_0 : fch r_Alm_considerFeast.2.1 0 = some (.aload_n 0) := by decide +kernel
theorem f_Alm_considerFeast_1 : fch r_Alm_considerFeast.2.1 1 = some (.iload_n 2) := by decide +kernel
theorem f_Alm_considerFeast_2 : fch r_Alm_considerFeast.2.1 2 = some (.aload_n 0) := by decide +kernel
theorem f_Alm_considerFeast_3 : fch r_Alm_considerFeast.2.1 3 = some (.iload_n 1) := by decide +kernel
theorem f_Alm_considerFeast_4 : fch r_Alm_considerFeast.2.1 4 = some (.invokevirtual 156) := by decide +kernel
theorem f_Alm_considerFeast_7 : fch r_Alm_considerFeast.2.1 7 = some (.aload_n 0) := by decide +kernel
theorem f_Alm_considerFeast_8 : fch r_Alm_considerFeast.2.1 8 = some (.getfield 35) := by decide +kernel
theorem f_Alm_considerFeast_11 : fch r_Alm_considerFeast.2.1 11 = some (.iload_n 1) := by decide +kernel
theorem f_Alm_considerFeast_12 : fch r_Alm_considerFeast.2.1 12 = some (.invokevirtual 159) := by decide +kernel
theorem f_Alm_considerFeast_15 : fch r_Alm_considerFeast.2.1 15 = some (.iload_n 3) := by decide +kernel
theorem f_Alm_considerFeast_16 : fch r_Alm_considerFeast.2.1 16 = some (.invokevirtual 148) := by decide +kernel
theorem f_Alm_considerFeast_19 : fch r_Alm_considerFeast.2.1 19 = some (.aload_n 0) := by decide +kernel
theorem f_Alm_considerFeast_20 : fch r_Alm_considerFeast.2.1 20 = some (.getfield 35) := by decide +kernel
theorem f_Alm_considerFeast_23 : fch r_Alm_considerFeast.2.1 23 = some (.iload_n 1) := by decide +kernel
theorem f_Alm_considerFeast_24 : fch r_Alm_considerFeast.2.1 24 = some (.invokevirtual 162) := by decide +kernel
theorem f_Alm_considerFeast_27 : fch r_Alm_considerFeast.2.1 27 = some (.istore 4) := by decide +kernel
theorem f_Alm_considerFeast_29 : fch r_Alm_considerFeast.2.1 29 = some (.iconst 1) := by decide +kernel
theorem f_Alm_considerFeast_30 : fch r_Alm_considerFeast.2.1 30 = some (.istore 5) := by decide +kernel
theorem f_Alm_considerFeast_32 : fch r_Alm_considerFeast.2.1 32 = some (.iload 5) := by decide +kernel
theorem f_Alm_considerFeast_34 : fch r_Alm_considerFeast.2.1 34 = some (.bipush 7) := by decide +kernel
theorem f_Alm_considerFeast_36 : fch r_Alm_considerFeast.2.1 36 = some (.if_icmp .gt 49) := by decide +kernel
theorem f_Alm_considerFeast_39 : fch r_Alm_considerFeast.2.1 39 = some (.iload 4) := by decide +kernel
theorem f_Alm_considerFeast_41 : fch r_Alm_considerFeast.2.1 41 = some (.ifCond .le 44) := by decide +kernel
theorem f_Alm_considerFeast_44 : fch r_Alm_considerFeast.2.1 44 = some (.iload 5) := by decide +kernel
theorem f_Alm_considerFeast_46 : fch r_Alm_considerFeast.2.1 46 = some (.bipush 7) := by decide +kernel
theorem f_Alm_considerFeast_48 : fch r_Alm_considerFeast.2.1 48 = some (.if_icmp .ne 10) := by decide +kernel
theorem f_Alm_considerFeast_51 : fch r_Alm_considerFeast.2.1 51 = some (.iload 4) := by decide +kernel
theorem f_Alm_considerFeast_53 : fch r_Alm_considerFeast.2.1 53 = some (.iconst 1) := by decide +kernel
theorem f_Alm_considerFeast_54 : fch r_Alm_considerFeast.2.1 54 = some (.iadd) := by decide +kernel
theorem f_Alm_considerFeast_55 : fch r_Alm_considerFeast.2.1 55 = some (.goto 5) := by decide +kernel
theorem f_Alm_considerFeast_58 : fch r_Alm_considerFeast.2.1 58 = some (.iload 4) := by decide +kernel
theorem f_Alm_considerFeast_60 : fch r_Alm_considerFeast.2.1 60 = some (.istore 6) := by decide +kernel
theorem f_Alm_considerFeast_62 : fch r_Alm_considerFeast.2.1 62 = some (.aload_n 0) := by decide +kernel
theorem f_Alm_considerFeast_63 : fch r_Alm_considerFeast.2.1 63 = some (.iload_n 2) := by decide +kernel
theorem f_Alm_considerFeast_64 : fch r_Alm_considerFeast.2.1 64 = some (.iload 5) := by decide +kernel
theorem f_Alm_considerFeast_66 : fch r_Alm_considerFeast.2.1 66 = some (.iadd) := by decide +kernel
theorem f_Alm_considerFeast_67 : fch r_Alm_considerFeast.2.1 67 = some (.iload 6) := by decide +kernel
theorem f_Alm_considerFeast_69 : fch r_Alm_considerFeast.2.1 69 = some (.iconst 3) := by decide +kernel
theorem f_Alm_considerFeast_70 : fch r_Alm_considerFeast.2.1 70 = some (.iload_n 1) := by decide +kernel
theorem f_Alm_considerFeast_71 : fch r_Alm_considerFeast.2.1 71 = some (.invokestatic 144) := by decide +kernel
theorem f_Alm_considerFeast_74 : fch r_Alm_considerFeast.2.1 74 = some (.iconst 1) := by decide +kernel
theorem f_Alm_considerFeast_75 : fch r_Alm_considerFeast.2.1 75 = some (.iload_n 3) := by decide +kernel
theorem f_Alm_considerFeast_76 : fch r_Alm_considerFeast.2.1 76 = some (.invokevirtual 148) := by decide +kernel
theorem f_Alm_considerFeast_79 : fch r_Alm_considerFeast.2.1 79 = some (.iinc 5 1) := by decide +kernel
theorem f_Alm_considerFeast_82 : fch r_Alm_considerFeast.2.1 82 = some (.goto (-50)) := by decide +kernel
theorem f_Alm_considerFeast_85 : fch r_Alm_considerFeast.2.1 85 = some (.aload_n 0) := by decide +kernel
theorem f_Alm_considerFeast_86 : fch r_Alm_considerFeast.2.1 86 = some (.getfield 35) := by decide +kernel
theorem f_Alm_considerFeast_89 : fch r_Alm_considerFeast.2.1 89 = some (.iload_n 1) := by decide +kernel
theorem f_Alm_considerFeast_90 : fch r_Alm_considerFeast.2.1 90 = some (.invokevirtual 165) := by decide +kernel
theorem f_Alm_considerFeast_93 : fch r_Alm_considerFeast.2.1 93 = some (.ifCond .eq 40) := by decide +kernel
theorem f_Alm_considerFeast_96 : fch r_Alm_considerFeast.2.1 96 = some (.iload_n 2) := by decide +kernel
theorem f_Alm_considerFeast_97 : fch r_Alm_considerFeast.2.1 97 = some (.ifCond .le 36) := by decide +kernel
theorem f_Alm_considerFeast_100 : fch r_Alm_considerFeast.2.1 100 = some (.aload_n 0) := by decide +kernel
theorem f_Alm_considerFeast_101 : fch r_Alm_considerFeast.2.1 101 = some (.iload_n 2) := by decide +kernel
theorem f_Alm_considerFeast_102 : fch r_Alm_considerFeast.2.1 102 = some (.iconst 1) := by decide +kernel
theorem f_Alm_considerFeast_103 : fch r_Alm_considerFeast.2.1 103 = some (.isub) := by decide +kernel
theorem f_Alm_considerFeast_104 : fch r_Alm_considerFeast.2.1 104 = some (.invokevirtual 138) := by decide +kernel
theorem f_Alm_considerFeast_107 : fch r_Alm_considerFeast.2.1 107 = some (.ifCond .ne 7) := by decide +kernel
theorem f_Alm_considerFeast_110 : fch r_Alm_considerFeast.2.1 110 = some (.iconst 2) := by decide +kernel
theorem f_Alm_considerFeast_111 : fch r_Alm_considerFeast.2.1 111 = some (.goto 4) := by decide +kernel
theorem f_Alm_considerFeast_114 : fch r_Alm_considerFeast.2.1 114 = some (.iconst 1) := by decide +kernel
theorem f_Alm_considerFeast_115 : fch r_Alm_considerFeast.2.1 115 = some (.istore 5) := by decide +kernel
theorem f_Alm_considerFeast_117 : fch r_Alm_considerFeast.2.1 117 = some (.aload_n 0) := by decide +kernel
theorem f_Alm_considerFeast_118 : fch r_Alm_considerFeast.2.1 118 = some (.iload_n 2) := by decide +kernel
theorem f_Alm_considerFeast_119 : fch r_Alm_considerFeast.2.1 119 = some (.iload 5) := by decide +kernel
theorem f_Alm_considerFeast_121 : fch r_Alm_considerFeast.2.1 121 = some (.isub) := by decide +kernel
theorem f_Alm_considerFeast_122 : fch r_Alm_considerFeast.2.1 122 = some (.iconst 2) := by decide +kernel
theorem f_Alm_considerFeast_123 : fch r_Alm_considerFeast.2.1 123 = some (.iconst 4) := by decide +kernel
theorem f_Alm_considerFeast_124 : fch r_Alm_considerFeast.2.1 124 = some (.iload_n 1) := by decide +kernel
theorem f_Alm_considerFeast_125 : fch r_Alm_considerFeast.2.1 125 = some (.invokestatic 144) := by decide +kernel
theorem f_Alm_considerFeast_128 : fch r_Alm_considerFeast.2.1 128 = some (.iconst 0) := by decide +kernel
theorem f_Alm_considerFeast_129 : fch r_Alm_considerFeast.2.1 129 = some (.iload_n 3) := by decide +kernel
theorem f_Alm_considerFeast_130 : fch r_Alm_considerFeast.2.1 130 = some (.invokevirtual 148) := by decide +kernel
theorem f_Alm_considerFeast_133 : fch r_Alm_considerFeast.2.1 133 = some (.return_) := by decide +kernel
theorem f_Alm_feastCandidate_0 : fch r_Alm_feastCandidate.2.1 0 = some (.aload_n 0) := by decide +kernel
theorem f_Alm_feastCandidate_1 : fch r_Alm_feastCandidate.2.1 1 = some (.getfield 35) := by decide +kernel
theorem f_Alm_feastCandidate_4 : fch r_Alm_feastCandidate.2.1 4 = some (.iload_n 1) := by decide +kernel
theorem f_Alm_feastCandidate_5 : fch r_Alm_feastCandidate.2.1 5 = some (.invokevirtual 185) := by decide +kernel
theorem f_Alm_feastCandidate_8 : fch r_Alm_feastCandidate.2.1 8 = some (.iconst 2) := by decide +kernel
theorem f_Alm_feastCandidate_9 : fch r_Alm_feastCandidate.2.1 9 = some (.iload_n 1) := by decide +kernel
theorem f_Alm_feastCandidate_10 : fch r_Alm_feastCandidate.2.1 10 = some (.invokestatic 144) := by decide +kernel
theorem f_Alm_feastCandidate_13 : fch r_Alm_feastCandidate.2.1 13 = some (.ireturn) := by decide +kernel
theorem f_Fea_rankOf_0 : fch r_Fea_rankOf.2.1 0 = some (.aload_n 0) := by decide +kernel
theorem f_Fea_rankOf_1 : fch r_Fea_rankOf.2.1 1 = some (.getfield 18) := by decide +kernel
theorem f_Fea_rankOf_4 : fch r_Fea_rankOf.2.1 4 = some (.iload_n 1) := by decide +kernel
theorem f_Fea_rankOf_5 : fch r_Fea_rankOf.2.1 5 = some (.invokestatic 62) := by decide +kernel
theorem f_Fea_rankOf_8 : fch r_Fea_rankOf.2.1 8 = some (.ireturn) := by decide +kernel
theorem f_Fea_wayOf_0 : fch r_Fea_wayOf.2.1 0 = some (.aload_n 0) := by decide +kernel
theorem f_Fea_wayOf_1 : fch r_Fea_wayOf.2.1 1 = some (.getfield 24) := by decide +kernel
theorem f_Fea_wayOf_4 : fch r_Fea_wayOf.2.1 4 = some (.iload_n 1) := by decide +kernel
theorem f_Fea_wayOf_5 : fch r_Fea_wayOf.2.1 5 = some (.invokestatic 62) := by decide +kernel
theorem f_Fea_wayOf_8 : fch r_Fea_wayOf.2.1 8 = some (.ireturn) := by decide +kernel
theorem f_Fea_octaveOf_0 : fch r_Fea_octaveOf.2.1 0 = some (.aload_n 0) := by decide +kernel
theorem f_Fea_octaveOf_1 : fch r_Fea_octaveOf.2.1 1 = some (.getfield 27) := by decide +kernel
theorem f_Fea_octaveOf_4 : fch r_Fea_octaveOf.2.1 4 = some (.iload_n 1) := by decide +kernel
theorem f_Fea_octaveOf_5 : fch r_Fea_octaveOf.2.1 5 = some (.invokestatic 62) := by decide +kernel
theorem f_Fea_octaveOf_8 : fch r_Fea_octaveOf.2.1 8 = some (.ireturn) := by decide +kernel
theorem f_Fea_hasVigil_0 : fch r_Fea_hasVigil.2.1 0 = some (.iload_n 1) := by decide +kernel
theorem f_Fea_hasVigil_1 : fch r_Fea_hasVigil.2.1 1 = some (.ifCond .lt 25) := by decide +kernel
theorem f_Fea_hasVigil_4 : fch r_Fea_hasVigil.2.1 4 = some (.iload_n 1) := by decide +kernel
theorem f_Fea_hasVigil_5 : fch r_Fea_hasVigil.2.1 5 = some (.aload_n 0) := by decide +kernel
theorem f_Fea_hasVigil_6 : fch r_Fea_hasVigil.2.1 6 = some (.getfield 30) := by decide +kernel
theorem f_Fea_hasVigil_9 : fch r_Fea_hasVigil.2.1 9 = some (.arraylength) := by decide +kernel
theorem f_Fea_hasVigil_10 : fch r_Fea_hasVigil.2.1 10 = some (.if_icmp .ge 16) := by decide +kernel
theorem f_Fea_hasVigil_13 : fch r_Fea_hasVigil.2.1 13 = some (.aload_n 0) := by decide +kernel
theorem f_Fea_hasVigil_14 : fch r_Fea_hasVigil.2.1 14 = some (.getfield 30) := by decide +kernel
theorem f_Fea_hasVigil_17 : fch r_Fea_hasVigil.2.1 17 = some (.iload_n 1) := by decide +kernel
theorem f_Fea_hasVigil_18 : fch r_Fea_hasVigil.2.1 18 = some (.baload) := by decide +kernel
theorem f_Fea_hasVigil_19 : fch r_Fea_hasVigil.2.1 19 = some (.ifCond .eq 7) := by decide +kernel
theorem f_Fea_hasVigil_22 : fch r_Fea_hasVigil.2.1 22 = some (.iconst 1) := by decide +kernel
theorem f_Fea_hasVigil_23 : fch r_Fea_hasVigil.2.1 23 = some (.goto 4) := by decide +kernel
theorem f_Fea_hasVigil_26 : fch r_Fea_hasVigil.2.1 26 = some (.iconst 0) := by decide +kernel
theorem f_Fea_hasVigil_27 : fch r_Fea_hasVigil.2.1 27 = some (.ireturn) := by decide +kernel
theorem f_Alm_moveFeasts_0 : fch r_Alm_moveFeasts.2.1 0 = some (.iconst 0) := by decide +kernel
theorem f_Alm_moveFeasts_1 : fch r_Alm_moveFeasts.2.1 1 = some (.istore_n 1) := by decide +kernel
theorem f_Alm_moveFeasts_2 : fch r_Alm_moveFeasts.2.1 2 = some (.iload_n 1) := by decide +kernel
theorem f_Alm_moveFeasts_3 : fch r_Alm_moveFeasts.2.1 3 = some (.aload_n 0) := by decide +kernel
theorem f_Alm_moveFeasts_4 : fch r_Alm_moveFeasts.2.1 4 = some (.getfield 35) := by decide +kernel
theorem f_Alm_moveFeasts_7 : fch r_Alm_moveFeasts.2.1 7 = some (.invokevirtual 97) := by decide +kernel
theorem f_Alm_moveFeasts_10 : fch r_Alm_moveFeasts.2.1 10 = some (.if_icmp .ge 62) := by decide +kernel
theorem f_Alm_moveFeasts_13 : fch r_Alm_moveFeasts.2.1 13 = some (.aload_n 0) := by decide +kernel
theorem f_Alm_moveFeasts_14 : fch r_Alm_moveFeasts.2.1 14 = some (.getfield 21) := by decide +kernel
theorem f_Alm_moveFeasts_17 : fch r_Alm_moveFeasts.2.1 17 = some (.iload_n 1) := by decide +kernel
theorem f_Alm_moveFeasts_18 : fch r_Alm_moveFeasts.2.1 18 = some (.invokestatic 60) := by decide +kernel
theorem f_Alm_moveFeasts_21 : fch r_Alm_moveFeasts.2.1 21 = some (.istore_n 2) := by decide +kernel
theorem f_Alm_moveFeasts_22 : fch r_Alm_moveFeasts.2.1 22 = some (.iload_n 2) := by decide +kernel
theorem f_Alm_moveFeasts_23 : fch r_Alm_moveFeasts.2.1 23 = some (.iconst (-1)) := by decide +kernel
theorem f_Alm_moveFeasts_24 : fch r_Alm_moveFeasts.2.1 24 = some (.if_icmp .eq 23) := by decide +kernel
theorem f_Alm_moveFeasts_27 : fch r_Alm_moveFeasts.2.1 27 = some (.aload_n 0) := by decide +kernel
theorem f_Alm_moveFeasts_28 : fch r_Alm_moveFeasts.2.1 28 = some (.getfield 15) := by decide +kernel
theorem f_Alm_moveFeasts_31 : fch r_Alm_moveFeasts.2.1 31 = some (.iload_n 2) := by decide +kernel
theorem f_Alm_moveFeasts_32 : fch r_Alm_moveFeasts.2.1 32 = some (.invokestatic 60) := by decide +kernel
theorem f_Alm_moveFeasts_35 : fch r_Alm_moveFeasts.2.1 35 = some (.aload_n 0) := by decide +kernel
theorem f_Alm_moveFeasts_36 : fch r_Alm_moveFeasts.2.1 36 = some (.iload_n 1) := by decide +kernel
theorem f_Alm_moveFeasts_37 : fch r_Alm_moveFeasts.2.1 37 = some (.invokevirtual 156) := by decide +kernel
theorem f_Alm_moveFeasts_40 : fch r_Alm_moveFeasts.2.1 40 = some (.if_icmp .ne 7) := by decide +kernel
theorem f_Alm_moveFeasts_43 : fch r_Alm_moveFeasts.2.1 43 = some (.iconst 1) := by decide +kernel
theorem f_Alm_moveFeasts_44 : fch r_Alm_moveFeasts.2.1 44 = some (.goto 4) := by decide +kernel
theorem f_Alm_moveFeasts_47 : fch r_Alm_moveFeasts.2.1 47 = some (.iconst 0) := by decide +kernel
theorem f_Alm_moveFeasts_48 : fch r_Alm_moveFeasts.2.1 48 = some (.istore_n 3) := by decide +kernel
theorem f_Alm_moveFeasts_49 : fch r_Alm_moveFeasts.2.1 49 = some (.aload_n 0) := by decide +kernel
theorem f_Alm_moveFeasts_50 : fch r_Alm_moveFeasts.2.1 50 = some (.getfield 24) := by decide +kernel
theorem f_Alm_moveFeasts_53 : fch r_Alm_moveFeasts.2.1 53 = some (.iload_n 1) := by decide +kernel
theorem f_Alm_moveFeasts_54 : fch r_Alm_moveFeasts.2.1 54 = some (.iload_n 3) := by decide +kernel
theorem f_Alm_moveFeasts_55 : fch r_Alm_moveFeasts.2.1 55 = some (.ifCond .eq 7) := by decide +kernel
theorem f_Alm_moveFeasts_58 : fch r_Alm_moveFeasts.2.1 58 = some (.iload_n 2) := by decide +kernel
theorem f_Alm_moveFeasts_59 : fch r_Alm_moveFeasts.2.1 59 = some (.goto 4) := by decide +kernel
theorem f_Alm_moveFeasts_62 : fch r_Alm_moveFeasts.2.1 62 = some (.iconst (-1)) := by decide +kernel
theorem f_Alm_moveFeasts_63 : fch r_Alm_moveFeasts.2.1 63 = some (.invokestatic 109) := by decide +kernel
theorem f_Alm_moveFeasts_66 : fch r_Alm_moveFeasts.2.1 66 = some (.iinc 1 1) := by decide +kernel
theorem f_Alm_moveFeasts_69 : fch r_Alm_moveFeasts.2.1 69 = some (.goto (-67)) := by decide +kernel
theorem f_Alm_moveFeasts_72 : fch r_Alm_moveFeasts.2.1 72 = some (.iconst 0) := by decide +kernel
theorem f_Alm_moveFeasts_73 : fch r_Alm_moveFeasts.2.1 73 = some (.istore_n 1) := by decide +kernel
theorem f_Alm_moveFeasts_74 : fch r_Alm_moveFeasts.2.1 74 = some (.iload_n 1) := by decide +kernel
theorem f_Alm_moveFeasts_75 : fch r_Alm_moveFeasts.2.1 75 = some (.aload_n 0) := by decide +kernel
theorem f_Alm_moveFeasts_76 : fch r_Alm_moveFeasts.2.1 76 = some (.getfield 35) := by decide +kernel
theorem f_Alm_moveFeasts_79 : fch r_Alm_moveFeasts.2.1 79 = some (.invokevirtual 97) := by decide +kernel
theorem f_Alm_moveFeasts_82 : fch r_Alm_moveFeasts.2.1 82 = some (.if_icmp .ge 33) := by decide +kernel
theorem f_Alm_moveFeasts_85 : fch r_Alm_moveFeasts.2.1 85 = some (.aload_n 0) := by decide +kernel
theorem f_Alm_moveFeasts_86 : fch r_Alm_moveFeasts.2.1 86 = some (.invokevirtual 172) := by decide +kernel
theorem f_Alm_moveFeasts_89 : fch r_Alm_moveFeasts.2.1 89 = some (.istore_n 2) := by decide +kernel
theorem f_Alm_moveFeasts_90 : fch r_Alm_moveFeasts.2.1 90 = some (.iload_n 2) := by decide +kernel
theorem f_Alm_moveFeasts_91 : fch r_Alm_moveFeasts.2.1 91 = some (.iconst (-1)) := by decide +kernel
theorem f_Alm_moveFeasts_92 : fch r_Alm_moveFeasts.2.1 92 = some (.if_icmp .ne 4) := by decide +kernel
theorem f_Alm_moveFeasts_95 : fch r_Alm_moveFeasts.2.1 95 = some (.return_) := by decide +kernel
theorem f_Alm_moveFeasts_96 : fch r_Alm_moveFeasts.2.1 96 = some (.aload_n 0) := by decide +kernel
theorem f_Alm_moveFeasts_97 : fch r_Alm_moveFeasts.2.1 97 = some (.getfield 24) := by decide +kernel
theorem f_Alm_moveFeasts_100 : fch r_Alm_moveFeasts.2.1 100 = some (.iload_n 2) := by decide +kernel
theorem f_Alm_moveFeasts_101 : fch r_Alm_moveFeasts.2.1 101 = some (.aload_n 0) := by decide +kernel
theorem f_Alm_moveFeasts_102 : fch r_Alm_moveFeasts.2.1 102 = some (.iload_n 2) := by decide +kernel
theorem f_Alm_moveFeasts_103 : fch r_Alm_moveFeasts.2.1 103 = some (.invokevirtual 175) := by decide +kernel
theorem f_Alm_moveFeasts_106 : fch r_Alm_moveFeasts.2.1 106 = some (.invokestatic 109) := by decide +kernel
theorem f_Alm_moveFeasts_109 : fch r_Alm_moveFeasts.2.1 109 = some (.iinc 1 1) := by decide +kernel
theorem f_Alm_moveFeasts_112 : fch r_Alm_moveFeasts.2.1 112 = some (.goto (-38)) := by decide +kernel
theorem f_Alm_moveFeasts_115 : fch r_Alm_moveFeasts.2.1 115 = some (.return_) := by decide +kernel
theorem f_Alm_nextToMove_0 : fch r_Alm_nextToMove.2.1 0 = some (.iconst (-1)) := by decide +kernel
theorem f_Alm_nextToMove_1 : fch r_Alm_nextToMove.2.1 1 = some (.istore_n 1) := by decide +kernel
theorem f_Alm_nextToMove_2 : fch r_Alm_nextToMove.2.1 2 = some (.iconst 0) := by decide +kernel
theorem f_Alm_nextToMove_3 : fch r_Alm_nextToMove.2.1 3 = some (.istore_n 2) := by decide +kernel
theorem f_Alm_nextToMove_4 : fch r_Alm_nextToMove.2.1 4 = some (.iload_n 2) := by decide +kernel
theorem f_Alm_nextToMove_5 : fch r_Alm_nextToMove.2.1 5 = some (.aload_n 0) := by decide +kernel
theorem f_Alm_nextToMove_6 : fch r_Alm_nextToMove.2.1 6 = some (.getfield 35) := by decide +kernel
theorem f_Alm_nextToMove_9 : fch r_Alm_nextToMove.2.1 9 = some (.invokevirtual 97) := by decide +kernel
theorem f_Alm_nextToMove_12 : fch r_Alm_nextToMove.2.1 12 = some (.if_icmp .ge 33) := by decide +kernel
theorem f_Alm_nextToMove_15 : fch r_Alm_nextToMove.2.1 15 = some (.aload_n 0) := by decide +kernel
theorem f_Alm_nextToMove_16 : fch r_Alm_nextToMove.2.1 16 = some (.iload_n 2) := by decide +kernel
theorem f_Alm_nextToMove_17 : fch r_Alm_nextToMove.2.1 17 = some (.invokevirtual 178) := by decide +kernel
theorem f_Alm_nextToMove_20 : fch r_Alm_nextToMove.2.1 20 = some (.ifCond .eq 19) := by decide +kernel
theorem f_Alm_nextToMove_23 : fch r_Alm_nextToMove.2.1 23 = some (.iload_n 1) := by decide +kernel
theorem f_Alm_nextToMove_24 : fch r_Alm_nextToMove.2.1 24 = some (.iconst (-1)) := by decide +kernel
theorem f_Alm_nextToMove_25 : fch r_Alm_nextToMove.2.1 25 = some (.if_icmp .eq 12) := by decide +kernel
theorem f_Alm_nextToMove_28 : fch r_Alm_nextToMove.2.1 28 = some (.aload_n 0) := by decide +kernel
theorem f_Alm_nextToMove_29 : fch r_Alm_nextToMove.2.1 29 = some (.iload_n 2) := by decide +kernel
theorem f_Alm_nextToMove_30 : fch r_Alm_nextToMove.2.1 30 = some (.iload_n 1) := by decide +kernel
theorem f_Alm_nextToMove_31 : fch r_Alm_nextToMove.2.1 31 = some (.invokevirtual 181) := by decide +kernel
theorem f_Alm_nextToMove_34 : fch r_Alm_nextToMove.2.1 34 = some (.ifCond .eq 5) := by decide +kernel
theorem f_Alm_nextToMove_37 : fch r_Alm_nextToMove.2.1 37 = some (.iload_n 2) := by decide +kernel
theorem f_Alm_nextToMove_38 : fch r_Alm_nextToMove.2.1 38 = some (.istore_n 1) := by decide +kernel
theorem f_Alm_nextToMove_39 : fch r_Alm_nextToMove.2.1 39 = some (.iinc 2 1) := by decide +kernel
theorem f_Alm_nextToMove_42 : fch r_Alm_nextToMove.2.1 42 = some (.goto (-38)) := by decide +kernel
theorem f_Alm_nextToMove_45 : fch r_Alm_nextToMove.2.1 45 = some (.iload_n 1) := by decide +kernel
theorem f_Alm_nextToMove_46 : fch r_Alm_nextToMove.2.1 46 = some (.ireturn) := by decide +kernel
theorem f_Alm_isToMove_0 : fch r_Alm_isToMove.2.1 0 = some (.aload_n 0) := by decide +kernel
theorem f_Alm_isToMove_1 : fch r_Alm_isToMove.2.1 1 = some (.getfield 35) := by decide +kernel
theorem f_Alm_isToMove_4 : fch r_Alm_isToMove.2.1 4 = some (.iload_n 1) := by decide +kernel
theorem f_Alm_isToMove_5 : fch r_Alm_isToMove.2.1 5 = some (.invokevirtual 159) := by decide +kernel
theorem f_Alm_isToMove_8 : fch r_Alm_isToMove.2.1 8 = some (.iconst 2) := by decide +kernel
theorem f_Alm_isToMove_9 : fch r_Alm_isToMove.2.1 9 = some (.if_icmp .ne 31) := by decide +kernel
theorem f_Alm_isToMove_12 : fch r_Alm_isToMove.2.1 12 = some (.aload_n 0) := by decide +kernel
theorem f_Alm_isToMove_13 : fch r_Alm_isToMove.2.1 13 = some (.getfield 21) := by decide +kernel
theorem f_Alm_isToMove_16 : fch r_Alm_isToMove.2.1 16 = some (.iload_n 1) := by decide +kernel
theorem f_Alm_isToMove_17 : fch r_Alm_isToMove.2.1 17 = some (.invokestatic 60) := by decide +kernel
theorem f_Alm_isToMove_20 : fch r_Alm_isToMove.2.1 20 = some (.iconst (-1)) := by decide +kernel
theorem f_Alm_isToMove_21 : fch r_Alm_isToMove.2.1 21 = some (.if_icmp .eq 19) := by decide +kernel
theorem f_Alm_isToMove_24 : fch r_Alm_isToMove.2.1 24 = some (.aload_n 0) := by decide +kernel
theorem f_Alm_isToMove_25 : fch r_Alm_isToMove.2.1 25 = some (.getfield 24) := by decide +kernel
theorem f_Alm_isToMove_28 : fch r_Alm_isToMove.2.1 28 = some (.iload_n 1) := by decide +kernel
theorem f_Alm_isToMove_29 : fch r_Alm_isToMove.2.1 29 = some (.invokestatic 60) := by decide +kernel
theorem f_Alm_isToMove_32 : fch r_Alm_isToMove.2.1 32 = some (.iconst (-1)) := by decide +kernel
theorem f_Alm_isToMove_33 : fch r_Alm_isToMove.2.1 33 = some (.if_icmp .ne 7) := by decide +kernel
theorem f_Alm_isToMove_36 : fch r_Alm_isToMove.2.1 36 = some (.iconst 1) := by decide +kernel
theorem f_Alm_isToMove_37 : fch r_Alm_isToMove.2.1 37 = some (.goto 4) := by decide +kernel
theorem f_Alm_isToMove_40 : fch r_Alm_isToMove.2.1 40 = some (.iconst 0) := by decide +kernel
theorem f_Alm_isToMove_41 : fch r_Alm_isToMove.2.1 41 = some (.ireturn) := by decide +kernel
theorem f_Alm_isMovedBefore_0 : fch r_Alm_isMovedBefore.2.1 0 = some (.aload_n 0) := by decide +kernel
theorem f_Alm_isMovedBefore_1 : fch r_Alm_isMovedBefore.2.1 1 = some (.getfield 35) := by decide +kernel
theorem f_Alm_isMovedBefore_4 : fch r_Alm_isMovedBefore.2.1 4 = some (.iload_n 1) := by decide +kernel
theorem f_Alm_isMovedBefore_5 : fch r_Alm_isMovedBefore.2.1 5 = some (.invokevirtual 185) := by decide +kernel
theorem f_Alm_isMovedBefore_8 : fch r_Alm_isMovedBefore.2.1 8 = some (.aload_n 0) := by decide +kernel
theorem f_Alm_isMovedBefore_9 : fch r_Alm_isMovedBefore.2.1 9 = some (.getfield 35) := by decide +kernel
theorem f_Alm_isMovedBefore_12 : fch r_Alm_isMovedBefore.2.1 12 = some (.iload_n 2) := by decide +kernel
theorem f_Alm_isMovedBefore_13 : fch r_Alm_isMovedBefore.2.1 13 = some (.invokevirtual 185) := by decide +kernel
theorem f_Alm_isMovedBefore_16 : fch r_Alm_isMovedBefore.2.1 16 = some (.if_icmp .eq 28) := by decide +kernel
theorem f_Alm_isMovedBefore_19 : fch r_Alm_isMovedBefore.2.1 19 = some (.aload_n 0) := by decide +kernel
theorem f_Alm_isMovedBefore_20 : fch r_Alm_isMovedBefore.2.1 20 = some (.getfield 35) := by decide +kernel
theorem f_Alm_isMovedBefore_23 : fch r_Alm_isMovedBefore.2.1 23 = some (.iload_n 1) := by decide +kernel
theorem f_Alm_isMovedBefore_24 : fch r_Alm_isMovedBefore.2.1 24 = some (.invokevirtual 185) := by decide +kernel
theorem f_Alm_isMovedBefore_27 : fch r_Alm_isMovedBefore.2.1 27 = some (.aload_n 0) := by decide +kernel
theorem f_Alm_isMovedBefore_28 : fch r_Alm_isMovedBefore.2.1 28 = some (.getfield 35) := by decide +kernel
theorem f_Alm_isMovedBefore_31 : fch r_Alm_isMovedBefore.2.1 31 = some (.iload_n 2) := by decide +kernel
theorem f_Alm_isMovedBefore_32 : fch r_Alm_isMovedBefore.2.1 32 = some (.invokevirtual 185) := by decide +kernel
theorem f_Alm_isMovedBefore_35 : fch r_Alm_isMovedBefore.2.1 35 = some (.if_icmp .le 7) := by decide +kernel
theorem f_Alm_isMovedBefore_38 : fch r_Alm_isMovedBefore.2.1 38 = some (.iconst 1) := by decide +kernel
theorem f_Alm_isMovedBefore_39 : fch r_Alm_isMovedBefore.2.1 39 = some (.goto 4) := by decide +kernel
theorem f_Alm_isMovedBefore_42 : fch r_Alm_isMovedBefore.2.1 42 = some (.iconst 0) := by decide +kernel
theorem f_Alm_isMovedBefore_43 : fch r_Alm_isMovedBefore.2.1 43 = some (.ireturn) := by decide +kernel
theorem f_Alm_isMovedBefore_44 : fch r_Alm_isMovedBefore.2.1 44 = some (.aload_n 0) := by decide +kernel
theorem f_Alm_isMovedBefore_45 : fch r_Alm_isMovedBefore.2.1 45 = some (.getfield 21) := by decide +kernel
theorem f_Alm_isMovedBefore_48 : fch r_Alm_isMovedBefore.2.1 48 = some (.iload_n 1) := by decide +kernel
theorem f_Alm_isMovedBefore_49 : fch r_Alm_isMovedBefore.2.1 49 = some (.invokestatic 60) := by decide +kernel
theorem f_Alm_isMovedBefore_52 : fch r_Alm_isMovedBefore.2.1 52 = some (.aload_n 0) := by decide +kernel
theorem f_Alm_isMovedBefore_53 : fch r_Alm_isMovedBefore.2.1 53 = some (.getfield 21) := by decide +kernel
theorem f_Alm_isMovedBefore_56 : fch r_Alm_isMovedBefore.2.1 56 = some (.iload_n 2) := by decide +kernel
theorem f_Alm_isMovedBefore_57 : fch r_Alm_isMovedBefore.2.1 57 = some (.invokestatic 60) := by decide +kernel
theorem f_Alm_isMovedBefore_60 : fch r_Alm_isMovedBefore.2.1 60 = some (.if_icmp .ge 7) := by decide +kernel
theorem f_Alm_isMovedBefore_63 : fch r_Alm_isMovedBefore.2.1 63 = some (.iconst 1) := by decide +kernel
theorem f_Alm_isMovedBefore_64 : fch r_Alm_isMovedBefore.2.1 64 = some (.goto 4) := by decide +kernel
theorem f_Alm_isMovedBefore_67 : fch r_Alm_isMovedBefore.2.1 67 = some (.iconst 0) := by decide +kernel
theorem f_Alm_isMovedBefore_68 : fch r_Alm_isMovedBefore.2.1 68 = some (.ireturn) := by decide +kernel
theorem f_Alm_placeFor_0 : fch r_Alm_placeFor.2.1 0 = some (.aload_n 0) := by decide +kernel
theorem f_Alm_placeFor_1 : fch r_Alm_placeFor.2.1 1 = some (.getfield 21) := by decide +kernel
theorem f_Alm_placeFor_4 : fch r_Alm_placeFor.2.1 4 = some (.iload_n 1) := by decide +kernel
theorem f_Alm_placeFor_5 : fch r_Alm_placeFor.2.1 5 = some (.invokestatic 60) := by decide +kernel
theorem f_Alm_placeFor_8 : fch r_Alm_placeFor.2.1 8 = some (.istore_n 2) := by decide +kernel
theorem f_Alm_placeFor_9 : fch r_Alm_placeFor.2.1 9 = some (.iload_n 2) := by decide +kernel
theorem f_Alm_placeFor_10 : fch r_Alm_placeFor.2.1 10 = some (.bipush 60) := by decide +kernel
theorem f_Alm_placeFor_12 : fch r_Alm_placeFor.2.1 12 = some (.iadd) := by decide +kernel
theorem f_Alm_placeFor_13 : fch r_Alm_placeFor.2.1 13 = some (.aload_n 0) := by decide +kernel
theorem f_Alm_placeFor_14 : fch r_Alm_placeFor.2.1 14 = some (.getfield 91) := by decide +kernel
theorem f_Alm_placeFor_17 : fch r_Alm_placeFor.2.1 17 = some (.iconst 1) := by decide +kernel
theorem f_Alm_placeFor_18 : fch r_Alm_placeFor.2.1 18 = some (.isub) := by decide +kernel
theorem f_Alm_placeFor_19 : fch r_Alm_placeFor.2.1 19 = some (.invokestatic 127) := by decide +kernel
theorem f_Alm_placeFor_22 : fch r_Alm_placeFor.2.1 22 = some (.istore_n 3) := by decide +kernel
theorem f_Alm_placeFor_23 : fch r_Alm_placeFor.2.1 23 = some (.iload_n 2) := by decide +kernel
theorem f_Alm_placeFor_24 : fch r_Alm_placeFor.2.1 24 = some (.iconst 1) := by decide +kernel
theorem f_Alm_placeFor_25 : fch r_Alm_placeFor.2.1 25 = some (.iadd) := by decide +kernel
theorem f_Alm_placeFor_26 : fch r_Alm_placeFor.2.1 26 = some (.istore 4) := by decide +kernel
theorem f_Alm_placeFor_28 : fch r_Alm_placeFor.2.1 28 = some (.iload 4) := by decide +kernel
theorem f_Alm_placeFor_30 : fch r_Alm_placeFor.2.1 30 = some (.iload_n 3) := by decide +kernel
theorem f_Alm_placeFor_31 : fch r_Alm_placeFor.2.1 31 = some (.if_icmp .gt 50) := by decide +kernel
theorem f_Alm_placeFor_34 : fch r_Alm_placeFor.2.1 34 = some (.aload_n 0) := by decide +kernel
theorem f_Alm_placeFor_35 : fch r_Alm_placeFor.2.1 35 = some (.aload_n 0) := by decide +kernel
theorem f_Alm_placeFor_36 : fch r_Alm_placeFor.2.1 36 = some (.getfield 15) := by decide +kernel
theorem f_Alm_placeFor_39 : fch r_Alm_placeFor.2.1 39 = some (.iload 4) := by decide +kernel
theorem f_Alm_placeFor_41 : fch r_Alm_placeFor.2.1 41 = some (.invokestatic 60) := by decide +kernel
theorem f_Alm_placeFor_44 : fch r_Alm_placeFor.2.1 44 = some (.aload_n 0) := by decide +kernel
theorem f_Alm_placeFor_45 : fch r_Alm_placeFor.2.1 45 = some (.getfield 35) := by decide +kernel
theorem f_Alm_placeFor_48 : fch r_Alm_placeFor.2.1 48 = some (.iload_n 1) := by decide +kernel
theorem f_Alm_placeFor_49 : fch r_Alm_placeFor.2.1 49 = some (.invokevirtual 185) := by decide +kernel
theorem f_Alm_placeFor_52 : fch r_Alm_placeFor.2.1 52 = some (.invokevirtual 187) := by decide +kernel
theorem f_Alm_placeFor_55 : fch r_Alm_placeFor.2.1 55 = some (.ifCond .eq 20) := by decide +kernel
theorem f_Alm_placeFor_58 : fch r_Alm_placeFor.2.1 58 = some (.aload_n 0) := by decide +kernel
theorem f_Alm_placeFor_59 : fch r_Alm_placeFor.2.1 59 = some (.getfield 15) := by decide +kernel
theorem f_Alm_placeFor_62 : fch r_Alm_placeFor.2.1 62 = some (.iload 4) := by decide +kernel
theorem f_Alm_placeFor_64 : fch r_Alm_placeFor.2.1 64 = some (.aload_n 0) := by decide +kernel
theorem f_Alm_placeFor_65 : fch r_Alm_placeFor.2.1 65 = some (.iload_n 1) := by decide +kernel
theorem f_Alm_placeFor_66 : fch r_Alm_placeFor.2.1 66 = some (.invokevirtual 156) := by decide +kernel
theorem f_Alm_placeFor_69 : fch r_Alm_placeFor.2.1 69 = some (.invokestatic 109) := by decide +kernel
theorem f_Alm_placeFor_72 : fch r_Alm_placeFor.2.1 72 = some (.iload 4) := by decide +kernel
theorem f_Alm_placeFor_74 : fch r_Alm_placeFor.2.1 74 = some (.ireturn) := by decide +kernel
theorem f_Alm_placeFor_75 : fch r_Alm_placeFor.2.1 75 = some (.iinc 4 1) := by decide +kernel
theorem f_Alm_placeFor_78 : fch r_Alm_placeFor.2.1 78 = some (.goto (-50)) := by decide +kernel
theorem f_Alm_placeFor_81 : fch r_Alm_placeFor.2.1 81 = some (.bipush (-4)) := by decide +kernel
theorem f_Alm_placeFor_83 : fch r_Alm_placeFor.2.1 83 = some (.ireturn) := by decide +kernel
theorem f_Alm_givesWay_0 : fch r_Alm_givesWay.2.1 0 = some (.iload_n 1) := by decide +kernel
theorem f_Alm_givesWay_1 : fch r_Alm_givesWay.2.1 1 = some (.invokestatic 71) := by decide +kernel
theorem f_Alm_givesWay_4 : fch r_Alm_givesWay.2.1 4 = some (.iconst 2) := by decide +kernel
theorem f_Alm_givesWay_5 : fch r_Alm_givesWay.2.1 5 = some (.if_icmp .ne 22) := by decide +kernel
theorem f_Alm_givesWay_8 : fch r_Alm_givesWay.2.1 8 = some (.aload_n 0) := by decide +kernel
theorem f_Alm_givesWay_9 : fch r_Alm_givesWay.2.1 9 = some (.getfield 35) := by decide +kernel
theorem f_Alm_givesWay_12 : fch r_Alm_givesWay.2.1 12 = some (.iload_n 1) := by decide +kernel
theorem f_Alm_givesWay_13 : fch r_Alm_givesWay.2.1 13 = some (.invokestatic 74) := by decide +kernel
theorem f_Alm_givesWay_16 : fch r_Alm_givesWay.2.1 16 = some (.invokevirtual 159) := by decide +kernel
theorem f_Alm_givesWay_19 : fch r_Alm_givesWay.2.1 19 = some (.iconst 2) := by decide +kernel
theorem f_Alm_givesWay_20 : fch r_Alm_givesWay.2.1 20 = some (.if_icmp .ne 7) := by decide +kernel
theorem f_Alm_givesWay_23 : fch r_Alm_givesWay.2.1 23 = some (.iconst 1) := by decide +kernel
theorem f_Alm_givesWay_24 : fch r_Alm_givesWay.2.1 24 = some (.goto 4) := by decide +kernel
theorem f_Alm_givesWay_27 : fch r_Alm_givesWay.2.1 27 = some (.iconst 0) := by decide +kernel
theorem f_Alm_givesWay_28 : fch r_Alm_givesWay.2.1 28 = some (.istore_n 3) := by decide +kernel
theorem f_Alm_givesWay_29 : fch r_Alm_givesWay.2.1 29 = some (.iload_n 3) := by decide +kernel
theorem f_Alm_givesWay_30 : fch r_Alm_givesWay.2.1 30 = some (.ifCond .ne 15) := by decide +kernel
theorem f_Alm_givesWay_33 : fch r_Alm_givesWay.2.1 33 = some (.iload_n 1) := by decide +kernel
theorem f_Alm_givesWay_34 : fch r_Alm_givesWay.2.1 34 = some (.invokestatic 80) := by decide +kernel
theorem f_Alm_givesWay_37 : fch r_Alm_givesWay.2.1 37 = some (.iload_n 2) := by decide +kernel
theorem f_Alm_givesWay_38 : fch r_Alm_givesWay.2.1 38 = some (.if_icmp .ge 7) := by decide +kernel
theorem f_Alm_givesWay_41 : fch r_Alm_givesWay.2.1 41 = some (.iconst 1) := by decide +kernel
theorem f_Alm_givesWay_42 : fch r_Alm_givesWay.2.1 42 = some (.goto 4) := by decide +kernel
theorem f_Alm_givesWay_45 : fch r_Alm_givesWay.2.1 45 = some (.iconst 0) := by decide +kernel
theorem f_Alm_givesWay_46 : fch r_Alm_givesWay.2.1 46 = some (.ireturn) := by decide +kernel
theorem f_Alm_kindIn_0 : fch r_Alm_kindIn.2.1 0 = some (.iload_n 0) := by decide +kernel
theorem f_Alm_kindIn_1 : fch r_Alm_kindIn.2.1 1 = some (.bipush 64) := by decide +kernel
theorem f_Alm_kindIn_3 : fch r_Alm_kindIn.2.1 3 = some (.idiv) := by decide +kernel
theorem f_Alm_kindIn_4 : fch r_Alm_kindIn.2.1 4 = some (.iconst 5) := by decide +kernel
theorem f_Alm_kindIn_5 : fch r_Alm_kindIn.2.1 5 = some (.irem) := by decide +kernel
theorem f_Alm_kindIn_6 : fch r_Alm_kindIn.2.1 6 = some (.tableswitch 38 1 4 #[36, 34, 32, 30]) := by decide +kernel
theorem f_Alm_kindIn_36 : fch r_Alm_kindIn.2.1 36 = some (.iconst 2) := by decide +kernel
theorem f_Alm_kindIn_37 : fch r_Alm_kindIn.2.1 37 = some (.ireturn) := by decide +kernel
theorem f_Alm_kindIn_38 : fch r_Alm_kindIn.2.1 38 = some (.iconst 3) := by decide +kernel
theorem f_Alm_kindIn_39 : fch r_Alm_kindIn.2.1 39 = some (.ireturn) := by decide +kernel
theorem f_Alm_kindIn_40 : fch r_Alm_kindIn.2.1 40 = some (.iconst 1) := by decide +kernel
theorem f_Alm_kindIn_41 : fch r_Alm_kindIn.2.1 41 = some (.ireturn) := by decide +kernel
theorem f_Alm_kindIn_42 : fch r_Alm_kindIn.2.1 42 = some (.iconst 4) := by decide +kernel
theorem f_Alm_kindIn_43 : fch r_Alm_kindIn.2.1 43 = some (.ireturn) := by decide +kernel
theorem f_Alm_kindIn_44 : fch r_Alm_kindIn.2.1 44 = some (.iconst 0) := by decide +kernel
theorem f_Alm_kindIn_45 : fch r_Alm_kindIn.2.1 45 = some (.ireturn) := by decide +kernel
theorem f_Alm_feastIn_0 : fch r_Alm_feastIn.2.1 0 = some (.iload_n 0) := by decide +kernel
theorem f_Alm_feastIn_1 : fch r_Alm_feastIn.2.1 1 = some (.invokestatic 71) := by decide +kernel
theorem f_Alm_feastIn_4 : fch r_Alm_feastIn.2.1 4 = some (.istore_n 1) := by decide +kernel
theorem f_Alm_feastIn_5 : fch r_Alm_feastIn.2.1 5 = some (.iload_n 1) := by decide +kernel
theorem f_Alm_feastIn_6 : fch r_Alm_feastIn.2.1 6 = some (.ifCond .eq 8) := by decide +kernel
theorem f_Alm_feastIn_9 : fch r_Alm_feastIn.2.1 9 = some (.iload_n 1) := by decide +kernel
theorem f_Alm_feastIn_10 : fch r_Alm_feastIn.2.1 10 = some (.iconst 1) := by decide +kernel
theorem f_Alm_feastIn_11 : fch r_Alm_feastIn.2.1 11 = some (.if_icmp .ne 5) := by decide +kernel
theorem f_Alm_feastIn_14 : fch r_Alm_feastIn.2.1 14 = some (.iconst (-1)) := by decide +kernel
theorem f_Alm_feastIn_15 : fch r_Alm_feastIn.2.1 15 = some (.ireturn) := by decide +kernel
theorem f_Alm_feastIn_16 : fch r_Alm_feastIn.2.1 16 = some (.bipush 63) := by decide +kernel
theorem f_Alm_feastIn_18 : fch r_Alm_feastIn.2.1 18 = some (.iload_n 0) := by decide +kernel
theorem f_Alm_feastIn_19 : fch r_Alm_feastIn.2.1 19 = some (.bipush 64) := by decide +kernel
theorem f_Alm_feastIn_21 : fch r_Alm_feastIn.2.1 21 = some (.irem) := by decide +kernel
theorem f_Alm_feastIn_22 : fch r_Alm_feastIn.2.1 22 = some (.isub) := by decide +kernel
theorem f_Alm_feastIn_23 : fch r_Alm_feastIn.2.1 23 = some (.ireturn) := by decide +kernel
theorem f_Alm_rankIn_0 : fch r_Alm_rankIn.2.1 0 = some (.iload_n 0) := by decide +kernel
theorem f_Alm_rankIn_1 : fch r_Alm_rankIn.2.1 1 = some (.sipush 320) := by decide +kernel
theorem f_Alm_rankIn_4 : fch r_Alm_rankIn.2.1 4 = some (.idiv) := by decide +kernel
theorem f_Alm_rankIn_5 : fch r_Alm_rankIn.2.1 5 = some (.ireturn) := by decide +kernel
theorem f_Alm_settleFates_0 : fch r_Alm_settleFates.2.1 0 = some (.iconst 0) := by decide +kernel
theorem f_Alm_settleFates_1 : fch r_Alm_settleFates.2.1 1 = some (.istore_n 1) := by decide +kernel
theorem f_Alm_settleFates_2 : fch r_Alm_settleFates.2.1 2 = some (.iload_n 1) := by decide +kernel
theorem f_Alm_settleFates_3 : fch r_Alm_settleFates.2.1 3 = some (.aload_n 0) := by decide +kernel
theorem f_Alm_settleFates_4 : fch r_Alm_settleFates.2.1 4 = some (.getfield 35) := by decide +kernel
theorem f_Alm_settleFates_7 : fch r_Alm_settleFates.2.1 7 = some (.invokevirtual 97) := by decide +kernel
theorem f_Alm_settleFates_10 : fch r_Alm_settleFates.2.1 10 = some (.if_icmp .ge 46) := by decide +kernel
theorem f_Alm_settleFates_13 : fch r_Alm_settleFates.2.1 13 = some (.aload_n 0) := by decide +kernel
theorem f_Alm_settleFates_14 : fch r_Alm_settleFates.2.1 14 = some (.getfield 35) := by decide +kernel
theorem f_Alm_settleFates_17 : fch r_Alm_settleFates.2.1 17 = some (.iload_n 1) := by decide +kernel
theorem f_Alm_settleFates_18 : fch r_Alm_settleFates.2.1 18 = some (.invokevirtual 159) := by decide +kernel
theorem f_Alm_settleFates_21 : fch r_Alm_settleFates.2.1 21 = some (.iconst 2) := by decide +kernel
theorem f_Alm_settleFates_22 : fch r_Alm_settleFates.2.1 22 = some (.if_icmp .ne 15) := by decide +kernel
theorem f_Alm_settleFates_25 : fch r_Alm_settleFates.2.1 25 = some (.aload_n 0) := by decide +kernel
theorem f_Alm_settleFates_26 : fch r_Alm_settleFates.2.1 26 = some (.getfield 21) := by decide +kernel
theorem f_Alm_settleFates_29 : fch r_Alm_settleFates.2.1 29 = some (.iload_n 1) := by decide +kernel
theorem f_Alm_settleFates_30 : fch r_Alm_settleFates.2.1 30 = some (.invokestatic 60) := by decide +kernel
theorem f_Alm_settleFates_33 : fch r_Alm_settleFates.2.1 33 = some (.iconst (-1)) := by decide +kernel
theorem f_Alm_settleFates_34 : fch r_Alm_settleFates.2.1 34 = some (.if_icmp .ne 16) := by decide +kernel
theorem f_Alm_settleFates_37 : fch r_Alm_settleFates.2.1 37 = some (.aload_n 0) := by decide +kernel
theorem f_Alm_settleFates_38 : fch r_Alm_settleFates.2.1 38 = some (.getfield 24) := by decide +kernel
theorem f_Alm_settleFates_41 : fch r_Alm_settleFates.2.1 41 = some (.iload_n 1) := by decide +kernel
theorem f_Alm_settleFates_42 : fch r_Alm_settleFates.2.1 42 = some (.aload_n 0) := by decide +kernel
theorem f_Alm_settleFates_43 : fch r_Alm_settleFates.2.1 43 = some (.iload_n 1) := by decide +kernel
theorem f_Alm_settleFates_44 : fch r_Alm_settleFates.2.1 44 = some (.invokevirtual 190) := by decide +kernel
theorem f_Alm_settleFates_47 : fch r_Alm_settleFates.2.1 47 = some (.invokestatic 109) := by decide +kernel
theorem f_Alm_settleFates_50 : fch r_Alm_settleFates.2.1 50 = some (.iinc 1 1) := by decide +kernel
theorem f_Alm_settleFates_53 : fch r_Alm_settleFates.2.1 53 = some (.goto (-51)) := by decide +kernel
theorem f_Alm_settleFates_56 : fch r_Alm_settleFates.2.1 56 = some (.return_) := by decide +kernel
theorem f_Alm_fateOnOwnDay_0 : fch r_Alm_fateOnOwnDay.2.1 0 = some (.aload_n 0) := by decide +kernel
theorem f_Alm_fateOnOwnDay_1 : fch r_Alm_fateOnOwnDay.2.1 1 = some (.getfield 21) := by decide +kernel
theorem f_Alm_fateOnOwnDay_4 : fch r_Alm_fateOnOwnDay.2.1 4 = some (.iload_n 1) := by decide +kernel
theorem f_Alm_fateOnOwnDay_5 : fch r_Alm_fateOnOwnDay.2.1 5 = some (.invokestatic 60) := by decide +kernel
theorem f_Alm_fateOnOwnDay_8 : fch r_Alm_fateOnOwnDay.2.1 8 = some (.istore_n 2) := by decide +kernel
theorem f_Alm_fateOnOwnDay_9 : fch r_Alm_fateOnOwnDay.2.1 9 = some (.iload_n 2) := by decide +kernel
theorem f_Alm_fateOnOwnDay_10 : fch r_Alm_fateOnOwnDay.2.1 10 = some (.iconst (-1)) := by decide +kernel
theorem f_Alm_fateOnOwnDay_11 : fch r_Alm_fateOnOwnDay.2.1 11 = some (.if_icmp .ne 6) := by decide +kernel
theorem f_Alm_fateOnOwnDay_14 : fch r_Alm_fateOnOwnDay.2.1 14 = some (.bipush (-5)) := by decide +kernel
theorem f_Alm_fateOnOwnDay_16 : fch r_Alm_fateOnOwnDay.2.1 16 = some (.ireturn) := by decide +kernel
theorem f_Alm_fateOnOwnDay_17 : fch r_Alm_fateOnOwnDay.2.1 17 = some (.aload_n 0) := by decide +kernel
theorem f_Alm_fateOnOwnDay_18 : fch r_Alm_fateOnOwnDay.2.1 18 = some (.iload_n 1) := by decide +kernel
theorem f_Alm_fateOnOwnDay_19 : fch r_Alm_fateOnOwnDay.2.1 19 = some (.invokevirtual 156) := by decide +kernel
theorem f_Alm_fateOnOwnDay_22 : fch r_Alm_fateOnOwnDay.2.1 22 = some (.istore_n 3) := by decide +kernel
theorem f_Alm_fateOnOwnDay_23 : fch r_Alm_fateOnOwnDay.2.1 23 = some (.aload_n 0) := by decide +kernel
theorem f_Alm_fateOnOwnDay_24 : fch r_Alm_fateOnOwnDay.2.1 24 = some (.getfield 15) := by decide +kernel
theorem f_Alm_fateOnOwnDay_27 : fch r_Alm_fateOnOwnDay.2.1 27 = some (.iload_n 2) := by decide +kernel
theorem f_Alm_fateOnOwnDay_28 : fch r_Alm_fateOnOwnDay.2.1 28 = some (.invokestatic 60) := by decide +kernel
theorem f_Alm_fateOnOwnDay_31 : fch r_Alm_fateOnOwnDay.2.1 31 = some (.iload_n 3) := by decide +kernel
theorem f_Alm_fateOnOwnDay_32 : fch r_Alm_fateOnOwnDay.2.1 32 = some (.if_icmp .ne 5) := by decide +kernel
theorem f_Alm_fateOnOwnDay_35 : fch r_Alm_fateOnOwnDay.2.1 35 = some (.iload_n 2) := by decide +kernel
theorem f_Alm_fateOnOwnDay_36 : fch r_Alm_fateOnOwnDay.2.1 36 = some (.ireturn) := by decide +kernel
theorem f_Alm_fateOnOwnDay_37 : fch r_Alm_fateOnOwnDay.2.1 37 = some (.iconst 0) := by decide +kernel
theorem f_Alm_fateOnOwnDay_38 : fch r_Alm_fateOnOwnDay.2.1 38 = some (.istore 4) := by decide +kernel
theorem f_Alm_fateOnOwnDay_40 : fch r_Alm_fateOnOwnDay.2.1 40 = some (.iload 4) := by decide +kernel
theorem f_Alm_fateOnOwnDay_42 : fch r_Alm_fateOnOwnDay.2.1 42 = some (.iconst 3) := by decide +kernel
theorem f_Alm_fateOnOwnDay_43 : fch r_Alm_fateOnOwnDay.2.1 43 = some (.if_icmp .ge 29) := by decide +kernel
theorem f_Alm_fateOnOwnDay_46 : fch r_Alm_fateOnOwnDay.2.1 46 = some (.aload_n 0) := by decide +kernel
theorem f_Alm_fateOnOwnDay_47 : fch r_Alm_fateOnOwnDay.2.1 47 = some (.getfield 18) := by decide +kernel
theorem f_Alm_fateOnOwnDay_50 : fch r_Alm_fateOnOwnDay.2.1 50 = some (.iload_n 2) := by decide +kernel
theorem f_Alm_fateOnOwnDay_51 : fch r_Alm_fateOnOwnDay.2.1 51 = some (.iconst 3) := by decide +kernel
theorem f_Alm_fateOnOwnDay_52 : fch r_Alm_fateOnOwnDay.2.1 52 = some (.imul) := by decide +kernel
theorem f_Alm_fateOnOwnDay_53 : fch r_Alm_fateOnOwnDay.2.1 53 = some (.iload 4) := by decide +kernel
theorem f_Alm_fateOnOwnDay_55 : fch r_Alm_fateOnOwnDay.2.1 55 = some (.iadd) := by decide +kernel
theorem f_Alm_fateOnOwnDay_56 : fch r_Alm_fateOnOwnDay.2.1 56 = some (.invokestatic 60) := by decide +kernel
theorem f_Alm_fateOnOwnDay_59 : fch r_Alm_fateOnOwnDay.2.1 59 = some (.iload_n 3) := by decide +kernel
theorem f_Alm_fateOnOwnDay_60 : fch r_Alm_fateOnOwnDay.2.1 60 = some (.if_icmp .ne 6) := by decide +kernel
theorem f_Alm_fateOnOwnDay_63 : fch r_Alm_fateOnOwnDay.2.1 63 = some (.bipush (-2)) := by decide +kernel
theorem f_Alm_fateOnOwnDay_65 : fch r_Alm_fateOnOwnDay.2.1 65 = some (.ireturn) := by decide +kernel
theorem f_Alm_fateOnOwnDay_66 : fch r_Alm_fateOnOwnDay.2.1 66 = some (.iinc 4 1) := by decide +kernel
theorem f_Alm_fateOnOwnDay_69 : fch r_Alm_fateOnOwnDay.2.1 69 = some (.goto (-29)) := by decide +kernel
theorem f_Alm_fateOnOwnDay_72 : fch r_Alm_fateOnOwnDay.2.1 72 = some (.bipush (-3)) := by decide +kernel
theorem f_Alm_fateOnOwnDay_74 : fch r_Alm_fateOnOwnDay.2.1 74 = some (.ireturn) := by decide +kernel
theorem f_Alm_officeOn_0 : fch r_Alm_officeOn.2.1 0 = some (.aload_n 0) := by decide +kernel
theorem f_Alm_officeOn_1 : fch r_Alm_officeOn.2.1 1 = some (.getfield 15) := by decide +kernel
theorem f_Alm_officeOn_4 : fch r_Alm_officeOn.2.1 4 = some (.iload_n 1) := by decide +kernel
theorem f_Alm_officeOn_5 : fch r_Alm_officeOn.2.1 5 = some (.invokestatic 60) := by decide +kernel
theorem f_Alm_officeOn_8 : fch r_Alm_officeOn.2.1 8 = some (.istore_n 3) := by decide +kernel
theorem f_Alm_officeOn_9 : fch r_Alm_officeOn.2.1 9 = some (.iload_n 2) := by decide +kernel
theorem f_Alm_officeOn_10 : fch r_Alm_officeOn.2.1 10 = some (.tableswitch 63 3 5 #[26, 33, 39]) := by decide +kernel
theorem f_Alm_officeOn_36 : fch r_Alm_officeOn.2.1 36 = some (.aload_n 0) := by decide +kernel
theorem f_Alm_officeOn_37 : fch r_Alm_officeOn.2.1 37 = some (.iload_n 3) := by decide +kernel
theorem f_Alm_officeOn_38 : fch r_Alm_officeOn.2.1 38 = some (.iload_n 1) := by decide +kernel
theorem f_Alm_officeOn_39 : fch r_Alm_officeOn.2.1 39 = some (.invokevirtual 64) := by decide +kernel
theorem f_Alm_officeOn_42 : fch r_Alm_officeOn.2.1 42 = some (.ireturn) := by decide +kernel
theorem f_Alm_officeOn_43 : fch r_Alm_officeOn.2.1 43 = some (.aload_n 0) := by decide +kernel
theorem f_Alm_officeOn_44 : fch r_Alm_officeOn.2.1 44 = some (.iload_n 1) := by decide +kernel
theorem f_Alm_officeOn_45 : fch r_Alm_officeOn.2.1 45 = some (.invokevirtual 68) := by decide +kernel
theorem f_Alm_officeOn_48 : fch r_Alm_officeOn.2.1 48 = some (.ireturn) := by decide +kernel
theorem f_Alm_officeOn_49 : fch r_Alm_officeOn.2.1 49 = some (.iload_n 3) := by decide +kernel
theorem f_Alm_officeOn_50 : fch r_Alm_officeOn.2.1 50 = some (.invokestatic 71) := by decide +kernel
theorem f_Alm_officeOn_53 : fch r_Alm_officeOn.2.1 53 = some (.iconst 2) := by decide +kernel
theorem f_Alm_officeOn_54 : fch r_Alm_officeOn.2.1 54 = some (.if_icmp .ne 17) := by decide +kernel
theorem f_Alm_officeOn_57 : fch r_Alm_officeOn.2.1 57 = some (.aload_n 0) := by decide +kernel
theorem f_Alm_officeOn_58 : fch r_Alm_officeOn.2.1 58 = some (.getfield 21) := by decide +kernel
theorem f_Alm_officeOn_61 : fch r_Alm_officeOn.2.1 61 = some (.iload_n 3) := by decide +kernel
theorem f_Alm_officeOn_62 : fch r_Alm_officeOn.2.1 62 = some (.invokestatic 74) := by decide +kernel
theorem f_Alm_officeOn_65 : fch r_Alm_officeOn.2.1 65 = some (.invokestatic 60) := by decide +kernel
theorem f_Alm_officeOn_68 : fch r_Alm_officeOn.2.1 68 = some (.goto 4) := by decide +kernel
theorem f_Alm_officeOn_71 : fch r_Alm_officeOn.2.1 71 = some (.iload_n 1) := by decide +kernel
theorem f_Alm_officeOn_72 : fch r_Alm_officeOn.2.1 72 = some (.ireturn) := by decide +kernel
theorem f_Alm_officeOn_73 : fch r_Alm_officeOn.2.1 73 = some (.iload_n 3) := by decide +kernel
theorem f_Alm_officeOn_74 : fch r_Alm_officeOn.2.1 74 = some (.iload_n 2) := by decide +kernel
theorem f_Alm_officeOn_75 : fch r_Alm_officeOn.2.1 75 = some (.invokestatic 77) := by decide +kernel
theorem f_Alm_officeOn_78 : fch r_Alm_officeOn.2.1 78 = some (.ireturn) := by decide +kernel
theorem f_Alm_colourIn_0 : fch r_Alm_colourIn.2.1 0 = some (.iload_n 1) := by decide +kernel
theorem f_Alm_colourIn_1 : fch r_Alm_colourIn.2.1 1 = some (.invokestatic 74) := by decide +kernel
theorem f_Alm_colourIn_4 : fch r_Alm_colourIn.2.1 4 = some (.istore_n 3) := by decide +kernel
theorem f_Alm_colourIn_5 : fch r_Alm_colourIn.2.1 5 = some (.iload_n 3) := by decide +kernel
theorem f_Alm_colourIn_6 : fch r_Alm_colourIn.2.1 6 = some (.iconst (-1)) := by decide +kernel
theorem f_Alm_colourIn_7 : fch r_Alm_colourIn.2.1 7 = some (.if_icmp .ne 21) := by decide +kernel
theorem f_Alm_colourIn_10 : fch r_Alm_colourIn.2.1 10 = some (.aload_n 0) := by decide +kernel
theorem f_Alm_colourIn_11 : fch r_Alm_colourIn.2.1 11 = some (.getfield 31) := by decide +kernel
theorem f_Alm_colourIn_14 : fch r_Alm_colourIn.2.1 14 = some (.aload_n 0) := by decide +kernel
theorem f_Alm_colourIn_15 : fch r_Alm_colourIn.2.1 15 = some (.getfield 11) := by decide +kernel
theorem f_Alm_colourIn_18 : fch r_Alm_colourIn.2.1 18 = some (.iload_n 2) := by decide +kernel
theorem f_Alm_colourIn_19 : fch r_Alm_colourIn.2.1 19 = some (.invokestatic 60) := by decide +kernel
theorem f_Alm_colourIn_22 : fch r_Alm_colourIn.2.1 22 = some (.invokevirtual 83) := by decide +kernel
theorem f_Alm_colourIn_25 : fch r_Alm_colourIn.2.1 25 = some (.goto 11) := by decide +kernel
theorem f_Alm_colourIn_28 : fch r_Alm_colourIn.2.1 28 = some (.aload_n 0) := by decide +kernel
theorem f_Alm_colourIn_29 : fch r_Alm_colourIn.2.1 29 = some (.getfield 35) := by decide +kernel
theorem f_Alm_colourIn_32 : fch r_Alm_colourIn.2.1 32 = some (.iload_n 3) := by decide +kernel
theorem f_Alm_colourIn_33 : fch r_Alm_colourIn.2.1 33 = some (.invokevirtual 88) := by decide +kernel
theorem f_Alm_colourIn_36 : fch r_Alm_colourIn.2.1 36 = some (.ireturn) := by decide +kernel
theorem f_Sea_colourOf_0 : fch r_Sea_colourOf.2.1 0 = some (.iload_n 1) := by decide +kernel
theorem f_Sea_colourOf_1 : fch r_Sea_colourOf.2.1 1 = some (.iconst (-1)) := by decide +kernel
theorem f_Sea_colourOf_2 : fch r_Sea_colourOf.2.1 2 = some (.if_icmp .ne 7) := by decide +kernel
theorem f_Sea_colourOf_5 : fch r_Sea_colourOf.2.1 5 = some (.iconst 0) := by decide +kernel
theorem f_Sea_colourOf_6 : fch r_Sea_colourOf.2.1 6 = some (.goto 11) := by decide +kernel
theorem f_Sea_colourOf_9 : fch r_Sea_colourOf.2.1 9 = some (.aload_n 0) := by decide +kernel
theorem f_Sea_colourOf_10 : fch r_Sea_colourOf.2.1 10 = some (.getfield 28) := by decide +kernel
theorem f_Sea_colourOf_13 : fch r_Sea_colourOf.2.1 13 = some (.iload_n 1) := by decide +kernel
theorem f_Sea_colourOf_14 : fch r_Sea_colourOf.2.1 14 = some (.invokestatic 56) := by decide +kernel
theorem f_Sea_colourOf_17 : fch r_Sea_colourOf.2.1 17 = some (.ireturn) := by decide +kernel
theorem f_Fea_colourOf_0 : fch r_Fea_colourOf.2.1 0 = some (.aload_n 0) := by decide +kernel
theorem f_Fea_colourOf_1 : fch r_Fea_colourOf.2.1 1 = some (.getfield 21) := by decide +kernel
theorem f_Fea_colourOf_4 : fch r_Fea_colourOf.2.1 4 = some (.iload_n 1) := by decide +kernel
theorem f_Fea_colourOf_5 : fch r_Fea_colourOf.2.1 5 = some (.invokestatic 62) := by decide +kernel
theorem f_Fea_colourOf_8 : fch r_Fea_colourOf.2.1 8 = some (.ireturn) := by decide +kernel
theorem f_Alm_commemoratedOn_0 : fch r_Alm_commemoratedOn.2.1 0 = some (.iconst 0) := by decide +kernel
theorem f_Alm_commemoratedOn_1 : fch r_Alm_commemoratedOn.2.1 1 = some (.istore_n 2) := by decide +kernel
theorem f_Alm_commemoratedOn_2 : fch r_Alm_commemoratedOn.2.1 2 = some (.iconst 0) := by decide +kernel
theorem f_Alm_commemoratedOn_3 : fch r_Alm_commemoratedOn.2.1 3 = some (.istore_n 3) := by decide +kernel
theorem f_Alm_commemoratedOn_4 : fch r_Alm_commemoratedOn.2.1 4 = some (.iload_n 3) := by decide +kernel
theorem f_Alm_commemoratedOn_5 : fch r_Alm_commemoratedOn.2.1 5 = some (.iconst 3) := by decide +kernel
theorem f_Alm_commemoratedOn_6 : fch r_Alm_commemoratedOn.2.1 6 = some (.if_icmp .ge 28) := by decide +kernel
theorem f_Alm_commemoratedOn_9 : fch r_Alm_commemoratedOn.2.1 9 = some (.aload_n 0) := by decide +kernel
theorem f_Alm_commemoratedOn_10 : fch r_Alm_commemoratedOn.2.1 10 = some (.getfield 18) := by decide +kernel
theorem f_Alm_commemoratedOn_13 : fch r_Alm_commemoratedOn.2.1 13 = some (.iload_n 1) := by decide +kernel
theorem f_Alm_commemoratedOn_14 : fch r_Alm_commemoratedOn.2.1 14 = some (.iconst 3) := by decide +kernel
theorem f_Alm_commemoratedOn_15 : fch r_Alm_commemoratedOn.2.1 15 = some (.imul) := by decide +kernel
theorem f_Alm_commemoratedOn_16 : fch r_Alm_commemoratedOn.2.1 16 = some (.iload_n 3) := by decide +kernel
theorem f_Alm_commemoratedOn_17 : fch r_Alm_commemoratedOn.2.1 17 = some (.iadd) := by decide +kernel
theorem f_Alm_commemoratedOn_18 : fch r_Alm_commemoratedOn.2.1 18 = some (.invokestatic 60) := by decide +kernel
theorem f_Alm_commemoratedOn_21 : fch r_Alm_commemoratedOn.2.1 21 = some (.iconst (-1)) := by decide +kernel
theorem f_Alm_commemoratedOn_22 : fch r_Alm_commemoratedOn.2.1 22 = some (.if_icmp .eq 6) := by decide +kernel
theorem f_Alm_commemoratedOn_25 : fch r_Alm_commemoratedOn.2.1 25 = some (.iinc 2 1) := by decide +kernel
theorem f_Alm_commemoratedOn_28 : fch r_Alm_commemoratedOn.2.1 28 = some (.iinc 3 1) := by decide +kernel
theorem f_Alm_commemoratedOn_31 : fch r_Alm_commemoratedOn.2.1 31 = some (.goto (-27)) := by decide +kernel
theorem f_Alm_commemoratedOn_34 : fch r_Alm_commemoratedOn.2.1 34 = some (.iload_n 2) := by decide +kernel
theorem f_Alm_commemoratedOn_35 : fch r_Alm_commemoratedOn.2.1 35 = some (.ireturn) := by decide +kernel
theorem f_Alm_partOf_0 : fch r_Alm_partOf.2.1 0 = some (.iload_n 1) := by decide +kernel
theorem f_Alm_partOf_1 : fch r_Alm_partOf.2.1 1 = some (.tableswitch 42 0 2 #[27, 32, 37]) := by decide +kernel
theorem f_Alm_partOf_28 : fch r_Alm_partOf.2.1 28 = some (.iload_n 0) := by decide +kernel
theorem f_Alm_partOf_29 : fch r_Alm_partOf.2.1 29 = some (.invokestatic 71) := by decide +kernel
theorem f_Alm_partOf_32 : fch r_Alm_partOf.2.1 32 = some (.ireturn) := by decide +kernel
theorem f_Alm_partOf_33 : fch r_Alm_partOf.2.1 33 = some (.iload_n 0) := by decide +kernel
theorem f_Alm_partOf_34 : fch r_Alm_partOf.2.1 34 = some (.invokestatic 74) := by decide +kernel
theorem f_Alm_partOf_37 : fch r_Alm_partOf.2.1 37 = some (.ireturn) := by decide +kernel
theorem f_Alm_partOf_38 : fch r_Alm_partOf.2.1 38 = some (.iload_n 0) := by decide +kernel
theorem f_Alm_partOf_39 : fch r_Alm_partOf.2.1 39 = some (.invokestatic 80) := by decide +kernel
theorem f_Alm_partOf_42 : fch r_Alm_partOf.2.1 42 = some (.ireturn) := by decide +kernel
theorem f_Alm_partOf_43 : fch r_Alm_partOf.2.1 43 = some (.iconst (-1)) := by decide +kernel
theorem f_Alm_partOf_44 : fch r_Alm_partOf.2.1 44 = some (.ireturn) := by decide +kernel
theorem f_Bk_also_0 : fch r_Bk_also.2.1 0 = some (.aload_n 0) := by decide +kernel
theorem f_Bk_also_1 : fch r_Bk_also.2.1 1 = some (.getfield 28) := by decide +kernel
theorem f_Bk_also_4 : fch r_Bk_also.2.1 4 = some (.iload_n 1) := by decide +kernel
theorem f_Bk_also_5 : fch r_Bk_also.2.1 5 = some (.iload_n 2) := by decide +kernel
theorem f_Bk_also_6 : fch r_Bk_also.2.1 6 = some (.invokevirtual 107) := by decide +kernel
theorem f_Bk_also_9 : fch r_Bk_also.2.1 9 = some (.ifCond .eq 17) := by decide +kernel
theorem f_Bk_also_12 : fch r_Bk_also.2.1 12 = some (.aload_n 0) := by decide +kernel
theorem f_Bk_also_13 : fch r_Bk_also.2.1 13 = some (.getfield 28) := by decide +kernel
theorem f_Bk_also_16 : fch r_Bk_also.2.1 16 = some (.iload_n 2) := by decide +kernel
theorem f_Bk_also_17 : fch r_Bk_also.2.1 17 = some (.iload_n 3) := by decide +kernel
theorem f_Bk_also_18 : fch r_Bk_also.2.1 18 = some (.iload 4) := by decide +kernel
theorem f_Bk_also_20 : fch r_Bk_also.2.1 20 = some (.invokevirtual 115) := by decide +kernel
theorem f_Bk_also_23 : fch r_Bk_also.2.1 23 = some (.goto 4) := by decide +kernel
theorem f_Bk_also_26 : fch r_Bk_also.2.1 26 = some (.iconst (-1)) := by decide +kernel
theorem f_Bk_also_27 : fch r_Bk_also.2.1 27 = some (.ireturn) := by decide +kernel
theorem f_Alm_commemoration_0 : fch r_Alm_commemoration.2.1 0 = some (.iload_n 2) := by decide +kernel
theorem f_Alm_commemoration_1 : fch r_Alm_commemoration.2.1 1 = some (.iconst 0) := by decide +kernel
theorem f_Alm_commemoration_2 : fch r_Alm_commemoration.2.1 2 = some (.iconst 2) := by decide +kernel
theorem f_Alm_commemoration_3 : fch r_Alm_commemoration.2.1 3 = some (.invokestatic 53) := by decide +kernel
theorem f_Alm_commemoration_6 : fch r_Alm_commemoration.2.1 6 = some (.ifCond .eq 18) := by decide +kernel
theorem f_Alm_commemoration_9 : fch r_Alm_commemoration.2.1 9 = some (.aload_n 0) := by decide +kernel
theorem f_Alm_commemoration_10 : fch r_Alm_commemoration.2.1 10 = some (.getfield 18) := by decide +kernel
theorem f_Alm_commemoration_13 : fch r_Alm_commemoration.2.1 13 = some (.iload_n 1) := by decide +kernel
theorem f_Alm_commemoration_14 : fch r_Alm_commemoration.2.1 14 = some (.iconst 3) := by decide +kernel
theorem f_Alm_commemoration_15 : fch r_Alm_commemoration.2.1 15 = some (.imul) := by decide +kernel
theorem f_Alm_commemoration_16 : fch r_Alm_commemoration.2.1 16 = some (.iload_n 2) := by decide +kernel
theorem f_Alm_commemoration_17 : fch r_Alm_commemoration.2.1 17 = some (.iadd) := by decide +kernel
theorem f_Alm_commemoration_18 : fch r_Alm_commemoration.2.1 18 = some (.invokestatic 60) := by decide +kernel
theorem f_Alm_commemoration_21 : fch r_Alm_commemoration.2.1 21 = some (.goto 4) := by decide +kernel
theorem f_Alm_commemoration_24 : fch r_Alm_commemoration.2.1 24 = some (.iconst (-1)) := by decide +kernel
theorem f_Alm_commemoration_25 : fch r_Alm_commemoration.2.1 25 = some (.istore 4) := by decide +kernel
theorem f_Alm_commemoration_27 : fch r_Alm_commemoration.2.1 27 = some (.iload 4) := by decide +kernel
theorem f_Alm_commemoration_29 : fch r_Alm_commemoration.2.1 29 = some (.iconst (-1)) := by decide +kernel
theorem f_Alm_commemoration_30 : fch r_Alm_commemoration.2.1 30 = some (.if_icmp .ne 7) := by decide +kernel
theorem f_Alm_commemoration_33 : fch r_Alm_commemoration.2.1 33 = some (.iconst (-1)) := by decide +kernel
theorem f_Alm_commemoration_34 : fch r_Alm_commemoration.2.1 34 = some (.goto 9) := by decide +kernel
theorem f_Alm_commemoration_37 : fch r_Alm_commemoration.2.1 37 = some (.iload 4) := by decide +kernel
theorem f_Alm_commemoration_39 : fch r_Alm_commemoration.2.1 39 = some (.iload_n 3) := by decide +kernel
theorem f_Alm_commemoration_40 : fch r_Alm_commemoration.2.1 40 = some (.invokestatic 77) := by decide +kernel
theorem f_Alm_commemoration_43 : fch r_Alm_commemoration.2.1 43 = some (.ireturn) := by decide +kernel
theorem f_Bk_kept_0 : fch r_Bk_kept.2.1 0 = some (.aload_n 0) := by decide +kernel
theorem f_Bk_kept_1 : fch r_Bk_kept.2.1 1 = some (.getfield 19) := by decide +kernel
theorem f_Bk_kept_4 : fch r_Bk_kept.2.1 4 = some (.iload_n 2) := by decide +kernel
theorem f_Bk_kept_5 : fch r_Bk_kept.2.1 5 = some (.invokevirtual 118) := by decide +kernel
theorem f_Bk_kept_8 : fch r_Bk_kept.2.1 8 = some (.ifCond .eq 25) := by decide +kernel
theorem f_Bk_kept_11 : fch r_Bk_kept.2.1 11 = some (.aload_n 0) := by decide +kernel
theorem f_Bk_kept_12 : fch r_Bk_kept.2.1 12 = some (.getfield 28) := by decide +kernel
theorem f_Bk_kept_15 : fch r_Bk_kept.2.1 15 = some (.iload_n 1) := by decide +kernel
theorem f_Bk_kept_16 : fch r_Bk_kept.2.1 16 = some (.invokevirtual 121) := by decide +kernel
theorem f_Bk_kept_19 : fch r_Bk_kept.2.1 19 = some (.ifCond .eq 14) := by decide +kernel
theorem f_Bk_kept_22 : fch r_Bk_kept.2.1 22 = some (.aload_n 0) := by decide +kernel
theorem f_Bk_kept_23 : fch r_Bk_kept.2.1 23 = some (.getfield 28) := by decide +kernel
theorem f_Bk_kept_26 : fch r_Bk_kept.2.1 26 = some (.iload_n 2) := by decide +kernel
theorem f_Bk_kept_27 : fch r_Bk_kept.2.1 27 = some (.invokevirtual 124) := by decide +kernel
theorem f_Bk_kept_30 : fch r_Bk_kept.2.1 30 = some (.goto 4) := by decide +kernel
theorem f_Bk_kept_33 : fch r_Bk_kept.2.1 33 = some (.iconst (-1)) := by decide +kernel
theorem f_Bk_kept_34 : fch r_Bk_kept.2.1 34 = some (.ireturn) := by decide +kernel
theorem f_Alm_open_0 : fch r_Alm_open.2.1 0 = some (.iload_n 1) := by decide +kernel
theorem f_Alm_open_1 : fch r_Alm_open.2.1 1 = some (.invokestatic 39) := by decide +kernel
theorem f_Alm_open_4 : fch r_Alm_open.2.1 4 = some (.ifCond .ne 5) := by decide +kernel
theorem f_Alm_open_7 : fch r_Alm_open.2.1 7 = some (.iconst 0) := by decide +kernel
theorem f_Alm_open_8 : fch r_Alm_open.2.1 8 = some (.ireturn) := by decide +kernel
theorem f_Alm_open_9 : fch r_Alm_open.2.1 9 = some (.aload_n 0) := by decide +kernel
theorem f_Alm_open_10 : fch r_Alm_open.2.1 10 = some (.getfield 27) := by decide +kernel
theorem f_Alm_open_13 : fch r_Alm_open.2.1 13 = some (.iload_n 1) := by decide +kernel
theorem f_Alm_open_14 : fch r_Alm_open.2.1 14 = some (.if_icmp .eq 8) := by decide +kernel
theorem f_Alm_open_17 : fch r_Alm_open.2.1 17 = some (.aload_n 0) := by decide +kernel
theorem f_Alm_open_18 : fch r_Alm_open.2.1 18 = some (.iload_n 1) := by decide +kernel
theorem f_Alm_open_19 : fch r_Alm_open.2.1 19 = some (.invokevirtual 45) := by decide +kernel
theorem f_Alm_open_22 : fch r_Alm_open.2.1 22 = some (.iconst 1) := by decide +kernel
theorem f_Alm_open_23 : fch r_Alm_open.2.1 23 = some (.ireturn) := by decide +kernel
theorem f_Alm_fateOf_0 : fch r_Alm_fateOf.2.1 0 = some (.aload_n 0) := by decide +kernel
theorem f_Alm_fateOf_1 : fch r_Alm_fateOf.2.1 1 = some (.getfield 24) := by decide +kernel
theorem f_Alm_fateOf_4 : fch r_Alm_fateOf.2.1 4 = some (.iload_n 1) := by decide +kernel
theorem f_Alm_fateOf_5 : fch r_Alm_fateOf.2.1 5 = some (.invokestatic 60) := by decide +kernel
theorem f_Alm_fateOf_8 : fch r_Alm_fateOf.2.1 8 = some (.ireturn) := by decide +kernel
theorem f_Bk_tally_0 : fch r_Bk_tally.2.1 0 = some (.aload_n 0) := by decide +kernel
theorem f_Bk_tally_1 : fch r_Bk_tally.2.1 1 = some (.getfield 28) := by decide +kernel
theorem f_Bk_tally_4 : fch r_Bk_tally.2.1 4 = some (.iload_n 1) := by decide +kernel
theorem f_Bk_tally_5 : fch r_Bk_tally.2.1 5 = some (.invokevirtual 121) := by decide +kernel
theorem f_Bk_tally_8 : fch r_Bk_tally.2.1 8 = some (.ifCond .ne 5) := by decide +kernel
theorem f_Bk_tally_11 : fch r_Bk_tally.2.1 11 = some (.iconst (-1)) := by decide +kernel
theorem f_Bk_tally_12 : fch r_Bk_tally.2.1 12 = some (.ireturn) := by decide +kernel
theorem f_Bk_tally_13 : fch r_Bk_tally.2.1 13 = some (.iload_n 2) := by decide +kernel
theorem f_Bk_tally_14 : fch r_Bk_tally.2.1 14 = some (.tableswitch 142 0 6 #[42, 52, 62, 72, 88, 106, 124]) := by decide +kernel
theorem f_Bk_tally_56 : fch r_Bk_tally.2.1 56 = some (.aload_n 0) := by decide +kernel
theorem f_Bk_tally_57 : fch r_Bk_tally.2.1 57 = some (.getfield 28) := by decide +kernel
theorem f_Bk_tally_60 : fch r_Bk_tally.2.1 60 = some (.iconst 0) := by decide +kernel
theorem f_Bk_tally_61 : fch r_Bk_tally.2.1 61 = some (.iload_n 3) := by decide +kernel
theorem f_Bk_tally_62 : fch r_Bk_tally.2.1 62 = some (.invokevirtual 127) := by decide +kernel
theorem f_Bk_tally_65 : fch r_Bk_tally.2.1 65 = some (.ireturn) := by decide +kernel
theorem f_Bk_tally_66 : fch r_Bk_tally.2.1 66 = some (.aload_n 0) := by decide +kernel
theorem f_Bk_tally_67 : fch r_Bk_tally.2.1 67 = some (.getfield 28) := by decide +kernel
theorem f_Bk_tally_70 : fch r_Bk_tally.2.1 70 = some (.iconst 2) := by decide +kernel
theorem f_Bk_tally_71 : fch r_Bk_tally.2.1 71 = some (.iload_n 3) := by decide +kernel
theorem f_Bk_tally_72 : fch r_Bk_tally.2.1 72 = some (.invokevirtual 127) := by decide +kernel
theorem f_Bk_tally_75 : fch r_Bk_tally.2.1 75 = some (.ireturn) := by decide +kernel
theorem f_Bk_tally_76 : fch r_Bk_tally.2.1 76 = some (.aload_n 0) := by decide +kernel
theorem f_Bk_tally_77 : fch r_Bk_tally.2.1 77 = some (.getfield 28) := by decide +kernel
theorem f_Bk_tally_80 : fch r_Bk_tally.2.1 80 = some (.iconst 3) := by decide +kernel
theorem f_Bk_tally_81 : fch r_Bk_tally.2.1 81 = some (.iload_n 3) := by decide +kernel
theorem f_Bk_tally_82 : fch r_Bk_tally.2.1 82 = some (.invokevirtual 127) := by decide +kernel
theorem f_Bk_tally_85 : fch r_Bk_tally.2.1 85 = some (.ireturn) := by decide +kernel
theorem f_Bk_tally_86 : fch r_Bk_tally.2.1 86 = some (.iload_n 3) := by decide +kernel
theorem f_Bk_tally_87 : fch r_Bk_tally.2.1 87 = some (.ifCond .ne 13) := by decide +kernel
theorem f_Bk_tally_90 : fch r_Bk_tally.2.1 90 = some (.aload_n 0) := by decide +kernel
theorem f_Bk_tally_91 : fch r_Bk_tally.2.1 91 = some (.getfield 28) := by decide +kernel
theorem f_Bk_tally_94 : fch r_Bk_tally.2.1 94 = some (.invokevirtual 130) := by decide +kernel
theorem f_Bk_tally_97 : fch r_Bk_tally.2.1 97 = some (.goto 4) := by decide +kernel
theorem f_Bk_tally_100 : fch r_Bk_tally.2.1 100 = some (.iconst (-1)) := by decide +kernel
theorem f_Bk_tally_101 : fch r_Bk_tally.2.1 101 = some (.ireturn) := by decide +kernel
theorem f_Bk_tally_102 : fch r_Bk_tally.2.1 102 = some (.iload_n 3) := by decide +kernel
theorem f_Bk_tally_103 : fch r_Bk_tally.2.1 103 = some (.ifCond .ne 15) := by decide +kernel
theorem f_Bk_tally_106 : fch r_Bk_tally.2.1 106 = some (.aload_n 0) := by decide +kernel
theorem f_Bk_tally_107 : fch r_Bk_tally.2.1 107 = some (.getfield 28) := by decide +kernel
theorem f_Bk_tally_110 : fch r_Bk_tally.2.1 110 = some (.bipush (-4)) := by decide +kernel
theorem f_Bk_tally_112 : fch r_Bk_tally.2.1 112 = some (.invokevirtual 134) := by decide +kernel
theorem f_Bk_tally_115 : fch r_Bk_tally.2.1 115 = some (.goto 4) := by decide +kernel
theorem f_Bk_tally_118 : fch r_Bk_tally.2.1 118 = some (.iconst (-1)) := by decide +kernel
theorem f_Bk_tally_119 : fch r_Bk_tally.2.1 119 = some (.ireturn) := by decide +kernel
theorem f_Bk_tally_120 : fch r_Bk_tally.2.1 120 = some (.iload_n 3) := by decide +kernel
theorem f_Bk_tally_121 : fch r_Bk_tally.2.1 121 = some (.ifCond .ne 15) := by decide +kernel
theorem f_Bk_tally_124 : fch r_Bk_tally.2.1 124 = some (.aload_n 0) := by decide +kernel
theorem f_Bk_tally_125 : fch r_Bk_tally.2.1 125 = some (.getfield 28) := by decide +kernel
theorem f_Bk_tally_128 : fch r_Bk_tally.2.1 128 = some (.bipush (-2)) := by decide +kernel
theorem f_Bk_tally_130 : fch r_Bk_tally.2.1 130 = some (.invokevirtual 134) := by decide +kernel
theorem f_Bk_tally_133 : fch r_Bk_tally.2.1 133 = some (.goto 4) := by decide +kernel
theorem f_Bk_tally_136 : fch r_Bk_tally.2.1 136 = some (.iconst (-1)) := by decide +kernel
theorem f_Bk_tally_137 : fch r_Bk_tally.2.1 137 = some (.ireturn) := by decide +kernel
theorem f_Bk_tally_138 : fch r_Bk_tally.2.1 138 = some (.iload_n 3) := by decide +kernel
theorem f_Bk_tally_139 : fch r_Bk_tally.2.1 139 = some (.ifCond .ne 15) := by decide +kernel
theorem f_Bk_tally_142 : fch r_Bk_tally.2.1 142 = some (.aload_n 0) := by decide +kernel
theorem f_Bk_tally_143 : fch r_Bk_tally.2.1 143 = some (.getfield 28) := by decide +kernel
theorem f_Bk_tally_146 : fch r_Bk_tally.2.1 146 = some (.bipush (-3)) := by decide +kernel
theorem f_Bk_tally_148 : fch r_Bk_tally.2.1 148 = some (.invokevirtual 134) := by decide +kernel
theorem f_Bk_tally_151 : fch r_Bk_tally.2.1 151 = some (.goto 4) := by decide +kernel
theorem f_Bk_tally_154 : fch r_Bk_tally.2.1 154 = some (.iconst (-1)) := by decide +kernel
theorem f_Bk_tally_155 : fch r_Bk_tally.2.1 155 = some (.ireturn) := by decide +kernel
theorem f_Bk_tally_156 : fch r_Bk_tally.2.1 156 = some (.iconst (-1)) := by decide +kernel
theorem f_Bk_tally_157 : fch r_Bk_tally.2.1 157 = some (.ireturn) := by decide +kernel
theorem f_Alm_daysWith_0 : fch r_Alm_daysWith.2.1 0 = some (.iconst 0) := by decide +kernel
theorem f_Alm_daysWith_1 : fch r_Alm_daysWith.2.1 1 = some (.istore_n 3) := by decide +kernel
theorem f_Alm_daysWith_2 : fch r_Alm_daysWith.2.1 2 = some (.iconst 0) := by decide +kernel
theorem f_Alm_daysWith_3 : fch r_Alm_daysWith.2.1 3 = some (.istore 4) := by decide +kernel
theorem f_Alm_daysWith_5 : fch r_Alm_daysWith.2.1 5 = some (.iload 4) := by decide +kernel
theorem f_Alm_daysWith_7 : fch r_Alm_daysWith.2.1 7 = some (.aload_n 0) := by decide +kernel
theorem f_Alm_daysWith_8 : fch r_Alm_daysWith.2.1 8 = some (.getfield 91) := by decide +kernel
theorem f_Alm_daysWith_11 : fch r_Alm_daysWith.2.1 11 = some (.if_icmp .ge 23) := by decide +kernel
theorem f_Alm_daysWith_14 : fch r_Alm_daysWith.2.1 14 = some (.aload_n 0) := by decide +kernel
theorem f_Alm_daysWith_15 : fch r_Alm_daysWith.2.1 15 = some (.iload 4) := by decide +kernel
theorem f_Alm_daysWith_17 : fch r_Alm_daysWith.2.1 17 = some (.iload_n 1) := by decide +kernel
theorem f_Alm_daysWith_18 : fch r_Alm_daysWith.2.1 18 = some (.invokevirtual 94) := by decide +kernel
theorem f_Alm_daysWith_21 : fch r_Alm_daysWith.2.1 21 = some (.iload_n 2) := by decide +kernel
theorem f_Alm_daysWith_22 : fch r_Alm_daysWith.2.1 22 = some (.if_icmp .ne 6) := by decide +kernel
theorem f_Alm_daysWith_25 : fch r_Alm_daysWith.2.1 25 = some (.iinc 3 1) := by decide +kernel
theorem f_Alm_daysWith_28 : fch r_Alm_daysWith.2.1 28 = some (.iinc 4 1) := by decide +kernel
theorem f_Alm_daysWith_31 : fch r_Alm_daysWith.2.1 31 = some (.goto (-26)) := by decide +kernel
theorem f_Alm_daysWith_34 : fch r_Alm_daysWith.2.1 34 = some (.iload_n 3) := by decide +kernel
theorem f_Alm_daysWith_35 : fch r_Alm_daysWith.2.1 35 = some (.ireturn) := by decide +kernel
theorem f_Alm_movedFeasts_0 : fch r_Alm_movedFeasts.2.1 0 = some (.iconst 0) := by decide +kernel
theorem f_Alm_movedFeasts_1 : fch r_Alm_movedFeasts.2.1 1 = some (.istore_n 1) := by decide +kernel
theorem f_Alm_movedFeasts_2 : fch r_Alm_movedFeasts.2.1 2 = some (.iconst 0) := by decide +kernel
theorem f_Alm_movedFeasts_3 : fch r_Alm_movedFeasts.2.1 3 = some (.istore_n 2) := by decide +kernel
theorem f_Alm_movedFeasts_4 : fch r_Alm_movedFeasts.2.1 4 = some (.iload_n 2) := by decide +kernel
theorem f_Alm_movedFeasts_5 : fch r_Alm_movedFeasts.2.1 5 = some (.aload_n 0) := by decide +kernel
theorem f_Alm_movedFeasts_6 : fch r_Alm_movedFeasts.2.1 6 = some (.getfield 35) := by decide +kernel
theorem f_Alm_movedFeasts_9 : fch r_Alm_movedFeasts.2.1 9 = some (.invokevirtual 97) := by decide +kernel
theorem f_Alm_movedFeasts_12 : fch r_Alm_movedFeasts.2.1 12 = some (.if_icmp .ge 37) := by decide +kernel
theorem f_Alm_movedFeasts_15 : fch r_Alm_movedFeasts.2.1 15 = some (.aload_n 0) := by decide +kernel
theorem f_Alm_movedFeasts_16 : fch r_Alm_movedFeasts.2.1 16 = some (.getfield 24) := by decide +kernel
theorem f_Alm_movedFeasts_19 : fch r_Alm_movedFeasts.2.1 19 = some (.iload_n 2) := by decide +kernel
theorem f_Alm_movedFeasts_20 : fch r_Alm_movedFeasts.2.1 20 = some (.invokestatic 60) := by decide +kernel
theorem f_Alm_movedFeasts_23 : fch r_Alm_movedFeasts.2.1 23 = some (.istore_n 3) := by decide +kernel
theorem f_Alm_movedFeasts_24 : fch r_Alm_movedFeasts.2.1 24 = some (.iload_n 3) := by decide +kernel
theorem f_Alm_movedFeasts_25 : fch r_Alm_movedFeasts.2.1 25 = some (.ifCond .lt 18) := by decide +kernel
theorem f_Alm_movedFeasts_28 : fch r_Alm_movedFeasts.2.1 28 = some (.iload_n 3) := by decide +kernel
theorem f_Alm_movedFeasts_29 : fch r_Alm_movedFeasts.2.1 29 = some (.aload_n 0) := by decide +kernel
theorem f_Alm_movedFeasts_30 : fch r_Alm_movedFeasts.2.1 30 = some (.getfield 21) := by decide +kernel
theorem f_Alm_movedFeasts_33 : fch r_Alm_movedFeasts.2.1 33 = some (.iload_n 2) := by decide +kernel
theorem f_Alm_movedFeasts_34 : fch r_Alm_movedFeasts.2.1 34 = some (.invokestatic 60) := by decide +kernel
theorem f_Alm_movedFeasts_37 : fch r_Alm_movedFeasts.2.1 37 = some (.if_icmp .eq 6) := by decide +kernel
theorem f_Alm_movedFeasts_40 : fch r_Alm_movedFeasts.2.1 40 = some (.iinc 1 1) := by decide +kernel
theorem f_Alm_movedFeasts_43 : fch r_Alm_movedFeasts.2.1 43 = some (.iinc 2 1) := by decide +kernel
theorem f_Alm_movedFeasts_46 : fch r_Alm_movedFeasts.2.1 46 = some (.goto (-42)) := by decide +kernel
theorem f_Alm_movedFeasts_49 : fch r_Alm_movedFeasts.2.1 49 = some (.iload_n 1) := by decide +kernel
theorem f_Alm_movedFeasts_50 : fch r_Alm_movedFeasts.2.1 50 = some (.ireturn) := by decide +kernel
theorem f_Alm_feastsOfFate_0 : fch r_Alm_feastsOfFate.2.1 0 = some (.iconst 0) := by decide +kernel
theorem f_Alm_feastsOfFate_1 : fch r_Alm_feastsOfFate.2.1 1 = some (.istore_n 2) := by decide +kernel
theorem f_Alm_feastsOfFate_2 : fch r_Alm_feastsOfFate.2.1 2 = some (.iconst 0) := by decide +kernel
theorem f_Alm_feastsOfFate_3 : fch r_Alm_feastsOfFate.2.1 3 = some (.istore_n 3) := by decide +kernel
theorem f_Alm_feastsOfFate_4 : fch r_Alm_feastsOfFate.2.1 4 = some (.iload_n 3) := by decide +kernel
theorem f_Alm_feastsOfFate_5 : fch r_Alm_feastsOfFate.2.1 5 = some (.aload_n 0) := by decide +kernel
theorem f_Alm_feastsOfFate_6 : fch r_Alm_feastsOfFate.2.1 6 = some (.getfield 35) := by decide +kernel
theorem f_Alm_feastsOfFate_9 : fch r_Alm_feastsOfFate.2.1 9 = some (.invokevirtual 97) := by decide +kernel
theorem f_Alm_feastsOfFate_12 : fch r_Alm_feastsOfFate.2.1 12 = some (.if_icmp .ge 24) := by decide +kernel
theorem f_Alm_feastsOfFate_15 : fch r_Alm_feastsOfFate.2.1 15 = some (.aload_n 0) := by decide +kernel
theorem f_Alm_feastsOfFate_16 : fch r_Alm_feastsOfFate.2.1 16 = some (.getfield 24) := by decide +kernel
theorem f_Alm_feastsOfFate_19 : fch r_Alm_feastsOfFate.2.1 19 = some (.iload_n 3) := by decide +kernel
theorem f_Alm_feastsOfFate_20 : fch r_Alm_feastsOfFate.2.1 20 = some (.invokestatic 60) := by decide +kernel
theorem f_Alm_feastsOfFate_23 : fch r_Alm_feastsOfFate.2.1 23 = some (.iload_n 1) := by decide +kernel
theorem f_Alm_feastsOfFate_24 : fch r_Alm_feastsOfFate.2.1 24 = some (.if_icmp .ne 6) := by decide +kernel
theorem f_Alm_feastsOfFate_27 : fch r_Alm_feastsOfFate.2.1 27 = some (.iinc 2 1) := by decide +kernel
theorem f_Alm_feastsOfFate_30 : fch r_Alm_feastsOfFate.2.1 30 = some (.iinc 3 1) := by decide +kernel
theorem f_Alm_feastsOfFate_33 : fch r_Alm_feastsOfFate.2.1 33 = some (.goto (-29)) := by decide +kernel
theorem f_Alm_feastsOfFate_36 : fch r_Alm_feastsOfFate.2.1 36 = some (.iload_n 2) := by decide +kernel
theorem f_Alm_feastsOfFate_37 : fch r_Alm_feastsOfFate.2.1 37 = some (.ireturn) := by decide +kernel
theorem f_Bk_verses_0 : fch r_Bk_verses.2.1 0 = some (.aload_n 0) := by decide +kernel
theorem f_Bk_verses_1 : fch r_Bk_verses.2.1 1 = some (.getfield 35) := by decide +kernel
theorem f_Bk_verses_4 : fch r_Bk_verses.2.1 4 = some (.iload_n 1) := by decide +kernel
theorem f_Bk_verses_5 : fch r_Bk_verses.2.1 5 = some (.iload_n 2) := by decide +kernel
theorem f_Bk_verses_6 : fch r_Bk_verses.2.1 6 = some (.invokevirtual 137) := by decide +kernel
theorem f_Bk_verses_9 : fch r_Bk_verses.2.1 9 = some (.ireturn) := by decide +kernel
theorem f_Psa_setVerses_0 : fch r_Psa_setVerses.2.1 0 = some (.aload_n 0) := by decide +kernel
theorem f_Psa_setVerses_1 : fch r_Psa_setVerses.2.1 1 = some (.iload_n 1) := by decide +kernel
theorem f_Psa_setVerses_2 : fch r_Psa_setVerses.2.1 2 = some (.invokevirtual 44) := by decide +kernel
theorem f_Psa_setVerses_5 : fch r_Psa_setVerses.2.1 5 = some (.ifCond .eq 14) := by decide +kernel
theorem f_Psa_setVerses_8 : fch r_Psa_setVerses.2.1 8 = some (.iload_n 2) := by decide +kernel
theorem f_Psa_setVerses_9 : fch r_Psa_setVerses.2.1 9 = some (.iconst 1) := by decide +kernel
theorem f_Psa_setVerses_10 : fch r_Psa_setVerses.2.1 10 = some (.sipush 200) := by decide +kernel
theorem f_Psa_setVerses_13 : fch r_Psa_setVerses.2.1 13 = some (.invokestatic 40) := by decide +kernel
theorem f_Psa_setVerses_16 : fch r_Psa_setVerses.2.1 16 = some (.ifCond .ne 5) := by decide +kernel
theorem f_Psa_setVerses_19 : fch r_Psa_setVerses.2.1 19 = some (.iconst (-1)) := by decide +kernel
theorem f_Psa_setVerses_20 : fch r_Psa_setVerses.2.1 20 = some (.ireturn) := by decide +kernel
theorem f_Psa_setVerses_21 : fch r_Psa_setVerses.2.1 21 = some (.aload_n 0) := by decide +kernel
theorem f_Psa_setVerses_22 : fch r_Psa_setVerses.2.1 22 = some (.getfield 11) := by decide +kernel
theorem f_Psa_setVerses_25 : fch r_Psa_setVerses.2.1 25 = some (.iload_n 1) := by decide +kernel
theorem f_Psa_setVerses_26 : fch r_Psa_setVerses.2.1 26 = some (.invokestatic 48) := by decide +kernel
theorem f_Psa_setVerses_29 : fch r_Psa_setVerses.2.1 29 = some (.istore_n 3) := by decide +kernel
theorem f_Psa_setVerses_30 : fch r_Psa_setVerses.2.1 30 = some (.aload_n 0) := by decide +kernel
theorem f_Psa_setVerses_31 : fch r_Psa_setVerses.2.1 31 = some (.getfield 11) := by decide +kernel
theorem f_Psa_setVerses_34 : fch r_Psa_setVerses.2.1 34 = some (.iload_n 1) := by decide +kernel
theorem f_Psa_setVerses_35 : fch r_Psa_setVerses.2.1 35 = some (.iload_n 2) := by decide +kernel
theorem f_Psa_setVerses_36 : fch r_Psa_setVerses.2.1 36 = some (.invokestatic 52) := by decide +kernel
theorem f_Psa_setVerses_39 : fch r_Psa_setVerses.2.1 39 = some (.aload_n 0) := by decide +kernel
theorem f_Psa_setVerses_40 : fch r_Psa_setVerses.2.1 40 = some (.iconst 0) := by decide +kernel
theorem f_Psa_setVerses_41 : fch r_Psa_setVerses.2.1 41 = some (.putfield 56) := by decide +kernel
theorem f_Psa_setVerses_44 : fch r_Psa_setVerses.2.1 44 = some (.iload_n 3) := by decide +kernel
theorem f_Psa_setVerses_45 : fch r_Psa_setVerses.2.1 45 = some (.ireturn) := by decide +kernel
theorem f_Psa_hasPsalm_0 : fch r_Psa_hasPsalm.2.1 0 = some (.iload_n 1) := by decide +kernel
theorem f_Psa_hasPsalm_1 : fch r_Psa_hasPsalm.2.1 1 = some (.iconst 1) := by decide +kernel
theorem f_Psa_hasPsalm_2 : fch r_Psa_hasPsalm.2.1 2 = some (.sipush 150) := by decide +kernel
theorem f_Psa_hasPsalm_5 : fch r_Psa_hasPsalm.2.1 5 = some (.invokestatic 40) := by decide +kernel
theorem f_Psa_hasPsalm_8 : fch r_Psa_hasPsalm.2.1 8 = some (.ireturn) := by decide +kernel
theorem f_Bk_hours_0 : fch r_Bk_hours.2.1 0 = some (.aload_n 0) := by decide +kernel
theorem f_Bk_hours_1 : fch r_Bk_hours.2.1 1 = some (.getfield 35) := by decide +kernel
theorem f_Bk_hours_4 : fch r_Bk_hours.2.1 4 = some (.iload_n 1) := by decide +kernel
theorem f_Bk_hours_5 : fch r_Bk_hours.2.1 5 = some (.invokevirtual 140) := by decide +kernel
theorem f_Bk_hours_8 : fch r_Bk_hours.2.1 8 = some (.ireturn) := by decide +kernel
theorem f_Psa_setHours_0 : fch r_Psa_setHours.2.1 0 = some (.iload_n 1) := by decide +kernel
theorem f_Psa_setHours_1 : fch r_Psa_setHours.2.1 1 = some (.iconst 1) := by decide +kernel
theorem f_Psa_setHours_2 : fch r_Psa_setHours.2.1 2 = some (.bipush 8) := by decide +kernel
theorem f_Psa_setHours_4 : fch r_Psa_setHours.2.1 4 = some (.invokestatic 40) := by decide +kernel
theorem f_Psa_setHours_7 : fch r_Psa_setHours.2.1 7 = some (.ifCond .eq 11) := by decide +kernel
theorem f_Psa_setHours_10 : fch r_Psa_setHours.2.1 10 = some (.aload_n 0) := by decide +kernel
theorem f_Psa_setHours_11 : fch r_Psa_setHours.2.1 11 = some (.iload_n 1) := by decide +kernel
theorem f_Psa_setHours_12 : fch r_Psa_setHours.2.1 12 = some (.invokevirtual 60) := by decide +kernel
theorem f_Psa_setHours_15 : fch r_Psa_setHours.2.1 15 = some (.ifCond .eq 5) := by decide +kernel
theorem f_Psa_setHours_18 : fch r_Psa_setHours.2.1 18 = some (.iconst (-1)) := by decide +kernel
theorem f_Psa_setHours_19 : fch r_Psa_setHours.2.1 19 = some (.ireturn) := by decide +kernel
theorem f_Psa_setHours_20 : fch r_Psa_setHours.2.1 20 = some (.aload_n 0) := by decide +kernel
theorem f_Psa_setHours_21 : fch r_Psa_setHours.2.1 21 = some (.getfield 33) := by decide +kernel
theorem f_Psa_setHours_24 : fch r_Psa_setHours.2.1 24 = some (.istore_n 2) := by decide +kernel
theorem f_Psa_setHours_25 : fch r_Psa_setHours.2.1 25 = some (.aload_n 0) := by decide +kernel
theorem f_Psa_setHours_26 : fch r_Psa_setHours.2.1 26 = some (.iload_n 1) := by decide +kernel
theorem f_Psa_setHours_27 : fch r_Psa_setHours.2.1 27 = some (.putfield 33) := by decide +kernel
theorem f_Psa_setHours_30 : fch r_Psa_setHours.2.1 30 = some (.aload_n 0) := by decide +kernel
theorem f_Psa_setHours_31 : fch r_Psa_setHours.2.1 31 = some (.iconst 0) := by decide +kernel
theorem f_Psa_setHours_32 : fch r_Psa_setHours.2.1 32 = some (.putfield 56) := by decide +kernel
theorem f_Psa_setHours_35 : fch r_Psa_setHours.2.1 35 = some (.iload_n 2) := by decide +kernel
theorem f_Psa_setHours_36 : fch r_Psa_setHours.2.1 36 = some (.ireturn) := by decide +kernel
theorem f_Psa_isUsedFrom_0 : fch r_Psa_isUsedFrom.2.1 0 = some (.iconst 1) := by decide +kernel
theorem f_Psa_isUsedFrom_1 : fch r_Psa_isUsedFrom.2.1 1 = some (.istore_n 2) := by decide +kernel
theorem f_Psa_isUsedFrom_2 : fch r_Psa_isUsedFrom.2.1 2 = some (.iload_n 2) := by decide +kernel
theorem f_Psa_isUsedFrom_3 : fch r_Psa_isUsedFrom.2.1 3 = some (.sipush 150) := by decide +kernel
theorem f_Psa_isUsedFrom_6 : fch r_Psa_isUsedFrom.2.1 6 = some (.if_icmp .gt 23) := by decide +kernel
theorem f_Psa_isUsedFrom_9 : fch r_Psa_isUsedFrom.2.1 9 = some (.aload_n 0) := by decide +kernel
theorem f_Psa_isUsedFrom_10 : fch r_Psa_isUsedFrom.2.1 10 = some (.getfield 15) := by decide +kernel
theorem f_Psa_isUsedFrom_13 : fch r_Psa_isUsedFrom.2.1 13 = some (.iload_n 2) := by decide +kernel
theorem f_Psa_isUsedFrom_14 : fch r_Psa_isUsedFrom.2.1 14 = some (.invokestatic 48) := by decide +kernel
theorem f_Psa_isUsedFrom_17 : fch r_Psa_isUsedFrom.2.1 17 = some (.iload_n 1) := by decide +kernel
theorem f_Psa_isUsedFrom_18 : fch r_Psa_isUsedFrom.2.1 18 = some (.if_icmp .lt 5) := by decide +kernel
theorem f_Psa_isUsedFrom_21 : fch r_Psa_isUsedFrom.2.1 21 = some (.iconst 1) := by decide +kernel
theorem f_Psa_isUsedFrom_22 : fch r_Psa_isUsedFrom.2.1 22 = some (.ireturn) := by decide +kernel
theorem f_Psa_isUsedFrom_23 : fch r_Psa_isUsedFrom.2.1 23 = some (.iinc 2 1) := by decide +kernel
theorem f_Psa_isUsedFrom_26 : fch r_Psa_isUsedFrom.2.1 26 = some (.goto (-24)) := by decide +kernel
theorem f_Psa_isUsedFrom_29 : fch r_Psa_isUsedFrom.2.1 29 = some (.iload_n 1) := by decide +kernel
theorem f_Psa_isUsedFrom_30 : fch r_Psa_isUsedFrom.2.1 30 = some (.istore_n 2) := by decide +kernel
theorem f_Psa_isUsedFrom_31 : fch r_Psa_isUsedFrom.2.1 31 = some (.iload_n 2) := by decide +kernel
theorem f_Psa_isUsedFrom_32 : fch r_Psa_isUsedFrom.2.1 32 = some (.bipush 8) := by decide +kernel
theorem f_Psa_isUsedFrom_34 : fch r_Psa_isUsedFrom.2.1 34 = some (.if_icmp .ge 22) := by decide +kernel
theorem f_Psa_isUsedFrom_37 : fch r_Psa_isUsedFrom.2.1 37 = some (.aload_n 0) := by decide +kernel
theorem f_Psa_isUsedFrom_38 : fch r_Psa_isUsedFrom.2.1 38 = some (.getfield 21) := by decide +kernel
theorem f_Psa_isUsedFrom_41 : fch r_Psa_isUsedFrom.2.1 41 = some (.iload_n 2) := by decide +kernel
theorem f_Psa_isUsedFrom_42 : fch r_Psa_isUsedFrom.2.1 42 = some (.invokestatic 48) := by decide +kernel
theorem f_Psa_isUsedFrom_45 : fch r_Psa_isUsedFrom.2.1 45 = some (.ifCond .le 5) := by decide +kernel
theorem f_Psa_isUsedFrom_48 : fch r_Psa_isUsedFrom.2.1 48 = some (.iconst 1) := by decide +kernel
theorem f_Psa_isUsedFrom_49 : fch r_Psa_isUsedFrom.2.1 49 = some (.ireturn) := by decide +kernel
theorem f_Psa_isUsedFrom_50 : fch r_Psa_isUsedFrom.2.1 50 = some (.iinc 2 1) := by decide +kernel
theorem f_Psa_isUsedFrom_53 : fch r_Psa_isUsedFrom.2.1 53 = some (.goto (-22)) := by decide +kernel
theorem f_Psa_isUsedFrom_56 : fch r_Psa_isUsedFrom.2.1 56 = some (.iconst 0) := by decide +kernel
theorem f_Psa_isUsedFrom_57 : fch r_Psa_isUsedFrom.2.1 57 = some (.ireturn) := by decide +kernel
theorem f_Bk_fix_0 : fch r_Bk_fix.2.1 0 = some (.aload_n 0) := by decide +kernel
theorem f_Bk_fix_1 : fch r_Bk_fix.2.1 1 = some (.getfield 35) := by decide +kernel
theorem f_Bk_fix_4 : fch r_Bk_fix.2.1 4 = some (.iload_n 1) := by decide +kernel
theorem f_Bk_fix_5 : fch r_Bk_fix.2.1 5 = some (.iload_n 2) := by decide +kernel
theorem f_Bk_fix_6 : fch r_Bk_fix.2.1 6 = some (.invokevirtual 143) := by decide +kernel
theorem f_Bk_fix_9 : fch r_Bk_fix.2.1 9 = some (.ireturn) := by decide +kernel
theorem f_Psa_setFixed_0 : fch r_Psa_setFixed.2.1 0 = some (.aload_n 0) := by decide +kernel
theorem f_Psa_setFixed_1 : fch r_Psa_setFixed.2.1 1 = some (.iload_n 1) := by decide +kernel
theorem f_Psa_setFixed_2 : fch r_Psa_setFixed.2.1 2 = some (.invokevirtual 44) := by decide +kernel
theorem f_Psa_setFixed_5 : fch r_Psa_setFixed.2.1 5 = some (.ifCond .eq 16) := by decide +kernel
theorem f_Psa_setFixed_8 : fch r_Psa_setFixed.2.1 8 = some (.iload_n 2) := by decide +kernel
theorem f_Psa_setFixed_9 : fch r_Psa_setFixed.2.1 9 = some (.iconst (-1)) := by decide +kernel
theorem f_Psa_setFixed_10 : fch r_Psa_setFixed.2.1 10 = some (.if_icmp .eq 14) := by decide +kernel
theorem f_Psa_setFixed_13 : fch r_Psa_setFixed.2.1 13 = some (.aload_n 0) := by decide +kernel
theorem f_Psa_setFixed_14 : fch r_Psa_setFixed.2.1 14 = some (.iload_n 2) := by decide +kernel
theorem f_Psa_setFixed_15 : fch r_Psa_setFixed.2.1 15 = some (.invokevirtual 63) := by decide +kernel
theorem f_Psa_setFixed_18 : fch r_Psa_setFixed.2.1 18 = some (.ifCond .ne 6) := by decide +kernel
theorem f_Psa_setFixed_21 : fch r_Psa_setFixed.2.1 21 = some (.bipush (-2)) := by decide +kernel
theorem f_Psa_setFixed_23 : fch r_Psa_setFixed.2.1 23 = some (.ireturn) := by decide +kernel
theorem f_Psa_setFixed_24 : fch r_Psa_setFixed.2.1 24 = some (.aload_n 0) := by decide +kernel
theorem f_Psa_setFixed_25 : fch r_Psa_setFixed.2.1 25 = some (.getfield 15) := by decide +kernel
theorem f_Psa_setFixed_28 : fch r_Psa_setFixed.2.1 28 = some (.iload_n 1) := by decide +kernel
theorem f_Psa_setFixed_29 : fch r_Psa_setFixed.2.1 29 = some (.invokestatic 48) := by decide +kernel
theorem f_Psa_setFixed_32 : fch r_Psa_setFixed.2.1 32 = some (.istore_n 3) := by decide +kernel
theorem f_Psa_setFixed_33 : fch r_Psa_setFixed.2.1 33 = some (.aload_n 0) := by decide +kernel
theorem f_Psa_setFixed_34 : fch r_Psa_setFixed.2.1 34 = some (.getfield 15) := by decide +kernel
theorem f_Psa_setFixed_37 : fch r_Psa_setFixed.2.1 37 = some (.iload_n 1) := by decide +kernel
theorem f_Psa_setFixed_38 : fch r_Psa_setFixed.2.1 38 = some (.iload_n 2) := by decide +kernel
theorem f_Psa_setFixed_39 : fch r_Psa_setFixed.2.1 39 = some (.invokestatic 52) := by decide +kernel
theorem f_Psa_setFixed_42 : fch r_Psa_setFixed.2.1 42 = some (.aload_n 0) := by decide +kernel
theorem f_Psa_setFixed_43 : fch r_Psa_setFixed.2.1 43 = some (.iconst 0) := by decide +kernel
theorem f_Psa_setFixed_44 : fch r_Psa_setFixed.2.1 44 = some (.putfield 56) := by decide +kernel
theorem f_Psa_setFixed_47 : fch r_Psa_setFixed.2.1 47 = some (.iload_n 3) := by decide +kernel
theorem f_Psa_setFixed_48 : fch r_Psa_setFixed.2.1 48 = some (.ireturn) := by decide +kernel
theorem f_Psa_hasHour_0 : fch r_Psa_hasHour.2.1 0 = some (.iload_n 1) := by decide +kernel
theorem f_Psa_hasHour_1 : fch r_Psa_hasHour.2.1 1 = some (.ifCond .lt 15) := by decide +kernel
theorem f_Psa_hasHour_4 : fch r_Psa_hasHour.2.1 4 = some (.iload_n 1) := by decide +kernel
theorem f_Psa_hasHour_5 : fch r_Psa_hasHour.2.1 5 = some (.aload_n 0) := by decide +kernel
theorem f_Psa_hasHour_6 : fch r_Psa_hasHour.2.1 6 = some (.getfield 33) := by decide +kernel
theorem f_Psa_hasHour_9 : fch r_Psa_hasHour.2.1 9 = some (.if_icmp .ge 7) := by decide +kernel
theorem f_Psa_hasHour_12 : fch r_Psa_hasHour.2.1 12 = some (.iconst 1) := by decide +kernel
theorem f_Psa_hasHour_13 : fch r_Psa_hasHour.2.1 13 = some (.goto 4) := by decide +kernel
theorem f_Psa_hasHour_16 : fch r_Psa_hasHour.2.1 16 = some (.iconst 0) := by decide +kernel
theorem f_Psa_hasHour_17 : fch r_Psa_hasHour.2.1 17 = some (.ireturn) := by decide +kernel
theorem f_Bk_festal_0 : fch r_Bk_festal.2.1 0 = some (.aload_n 0) := by decide +kernel
theorem f_Bk_festal_1 : fch r_Bk_festal.2.1 1 = some (.getfield 35) := by decide +kernel
theorem f_Bk_festal_4 : fch r_Bk_festal.2.1 4 = some (.iload_n 1) := by decide +kernel
theorem f_Bk_festal_5 : fch r_Bk_festal.2.1 5 = some (.iload_n 2) := by decide +kernel
theorem f_Bk_festal_6 : fch r_Bk_festal.2.1 6 = some (.invokevirtual 146) := by decide +kernel
theorem f_Bk_festal_9 : fch r_Bk_festal.2.1 9 = some (.ireturn) := by decide +kernel
theorem f_Psa_addFestal_0 : fch r_Psa_addFestal.2.1 0 = some (.aload_n 0) := by decide +kernel
theorem f_Psa_addFestal_1 : fch r_Psa_addFestal.2.1 1 = some (.iload_n 1) := by decide +kernel
theorem f_Psa_addFestal_2 : fch r_Psa_addFestal.2.1 2 = some (.invokevirtual 63) := by decide +kernel
theorem f_Psa_addFestal_5 : fch r_Psa_addFestal.2.1 5 = some (.ifCond .eq 24) := by decide +kernel
theorem f_Psa_addFestal_8 : fch r_Psa_addFestal.2.1 8 = some (.aload_n 0) := by decide +kernel
theorem f_Psa_addFestal_9 : fch r_Psa_addFestal.2.1 9 = some (.iload_n 2) := by decide +kernel
theorem f_Psa_addFestal_10 : fch r_Psa_addFestal.2.1 10 = some (.invokevirtual 44) := by decide +kernel
theorem f_Psa_addFestal_13 : fch r_Psa_addFestal.2.1 13 = some (.ifCond .eq 16) := by decide +kernel
theorem f_Psa_addFestal_16 : fch r_Psa_addFestal.2.1 16 = some (.aload_n 0) := by decide +kernel
theorem f_Psa_addFestal_17 : fch r_Psa_addFestal.2.1 17 = some (.getfield 21) := by decide +kernel
theorem f_Psa_addFestal_20 : fch r_Psa_addFestal.2.1 20 = some (.iload_n 1) := by decide +kernel
theorem f_Psa_addFestal_21 : fch r_Psa_addFestal.2.1 21 = some (.invokestatic 48) := by decide +kernel
theorem f_Psa_addFestal_24 : fch r_Psa_addFestal.2.1 24 = some (.bipush 6) := by decide +kernel
theorem f_Psa_addFestal_26 : fch r_Psa_addFestal.2.1 26 = some (.if_icmp .lt 5) := by decide +kernel
theorem f_Psa_addFestal_29 : fch r_Psa_addFestal.2.1 29 = some (.iconst (-1)) := by decide +kernel
theorem f_Psa_addFestal_30 : fch r_Psa_addFestal.2.1 30 = some (.ireturn) := by decide +kernel
theorem f_Psa_addFestal_31 : fch r_Psa_addFestal.2.1 31 = some (.aload_n 0) := by decide +kernel
theorem f_Psa_addFestal_32 : fch r_Psa_addFestal.2.1 32 = some (.getfield 21) := by decide +kernel
theorem f_Psa_addFestal_35 : fch r_Psa_addFestal.2.1 35 = some (.iload_n 1) := by decide +kernel
theorem f_Psa_addFestal_36 : fch r_Psa_addFestal.2.1 36 = some (.invokestatic 48) := by decide +kernel
theorem f_Psa_addFestal_39 : fch r_Psa_addFestal.2.1 39 = some (.istore_n 3) := by decide +kernel
theorem f_Psa_addFestal_40 : fch r_Psa_addFestal.2.1 40 = some (.aload_n 0) := by decide +kernel
theorem f_Psa_addFestal_41 : fch r_Psa_addFestal.2.1 41 = some (.getfield 18) := by decide +kernel
theorem f_Psa_addFestal_44 : fch r_Psa_addFestal.2.1 44 = some (.iload_n 1) := by decide +kernel
theorem f_Psa_addFestal_45 : fch r_Psa_addFestal.2.1 45 = some (.bipush 6) := by decide +kernel
theorem f_Psa_addFestal_47 : fch r_Psa_addFestal.2.1 47 = some (.imul) := by decide +kernel
theorem f_Psa_addFestal_48 : fch r_Psa_addFestal.2.1 48 = some (.iload_n 3) := by decide +kernel
theorem f_Psa_addFestal_49 : fch r_Psa_addFestal.2.1 49 = some (.iadd) := by decide +kernel
theorem f_Psa_addFestal_50 : fch r_Psa_addFestal.2.1 50 = some (.iload_n 2) := by decide +kernel
theorem f_Psa_addFestal_51 : fch r_Psa_addFestal.2.1 51 = some (.invokestatic 52) := by decide +kernel
theorem f_Psa_addFestal_54 : fch r_Psa_addFestal.2.1 54 = some (.aload_n 0) := by decide +kernel
theorem f_Psa_addFestal_55 : fch r_Psa_addFestal.2.1 55 = some (.getfield 21) := by decide +kernel
theorem f_Psa_addFestal_58 : fch r_Psa_addFestal.2.1 58 = some (.iload_n 1) := by decide +kernel
theorem f_Psa_addFestal_59 : fch r_Psa_addFestal.2.1 59 = some (.iload_n 3) := by decide +kernel
theorem f_Psa_addFestal_60 : fch r_Psa_addFestal.2.1 60 = some (.iconst 1) := by decide +kernel
theorem f_Psa_addFestal_61 : fch r_Psa_addFestal.2.1 61 = some (.iadd) := by decide +kernel
theorem f_Psa_addFestal_62 : fch r_Psa_addFestal.2.1 62 = some (.invokestatic 52) := by decide +kernel
theorem f_Psa_addFestal_65 : fch r_Psa_addFestal.2.1 65 = some (.iload_n 3) := by decide +kernel
theorem f_Psa_addFestal_66 : fch r_Psa_addFestal.2.1 66 = some (.iconst 1) := by decide +kernel
theorem f_Psa_addFestal_67 : fch r_Psa_addFestal.2.1 67 = some (.iadd) := by decide +kernel
theorem f_Psa_addFestal_68 : fch r_Psa_addFestal.2.1 68 = some (.ireturn) := by decide +kernel
theorem f_Bk_limit_0 : fch r_Bk_limit.2.1 0 = some (.aload_n 0) := by decide +kernel
theorem f_Bk_limit_1 : fch r_Bk_limit.2.1 1 = some (.getfield 35) := by decide +kernel
theorem f_Bk_limit_4 : fch r_Bk_limit.2.1 4 = some (.iload_n 1) := by decide +kernel
theorem f_Bk_limit_5 : fch r_Bk_limit.2.1 5 = some (.invokevirtual 149) := by decide +kernel
theorem f_Bk_limit_8 : fch r_Bk_limit.2.1 8 = some (.ireturn) := by decide +kernel
theorem f_Psa_setFeastRank_0 : fch r_Psa_setFeastRank.2.1 0 = some (.iload_n 1) := by decide +kernel
theorem f_Psa_setFeastRank_1 : fch r_Psa_setFeastRank.2.1 1 = some (.iconst 1) := by decide +kernel
theorem f_Psa_setFeastRank_2 : fch r_Psa_setFeastRank.2.1 2 = some (.bipush 10) := by decide +kernel
theorem f_Psa_setFeastRank_4 : fch r_Psa_setFeastRank.2.1 4 = some (.invokestatic 40) := by decide +kernel
theorem f_Psa_setFeastRank_7 : fch r_Psa_setFeastRank.2.1 7 = some (.ifCond .ne 5) := by decide +kernel
theorem f_Psa_setFeastRank_10 : fch r_Psa_setFeastRank.2.1 10 = some (.iconst (-1)) := by decide +kernel
theorem f_Psa_setFeastRank_11 : fch r_Psa_setFeastRank.2.1 11 = some (.ireturn) := by decide +kernel
theorem f_Psa_setFeastRank_12 : fch r_Psa_setFeastRank.2.1 12 = some (.aload_n 0) := by decide +kernel
theorem f_Psa_setFeastRank_13 : fch r_Psa_setFeastRank.2.1 13 = some (.getfield 37) := by decide +kernel
theorem f_Psa_setFeastRank_16 : fch r_Psa_setFeastRank.2.1 16 = some (.istore_n 2) := by decide +kernel
theorem f_Psa_setFeastRank_17 : fch r_Psa_setFeastRank.2.1 17 = some (.aload_n 0) := by decide +kernel
theorem f_Psa_setFeastRank_18 : fch r_Psa_setFeastRank.2.1 18 = some (.iload_n 1) := by decide +kernel
theorem f_Psa_setFeastRank_19 : fch r_Psa_setFeastRank.2.1 19 = some (.putfield 37) := by decide +kernel
theorem f_Psa_setFeastRank_22 : fch r_Psa_setFeastRank.2.1 22 = some (.iload_n 2) := by decide +kernel
theorem f_Psa_setFeastRank_23 : fch r_Psa_setFeastRank.2.1 23 = some (.ireturn) := by decide +kernel
theorem f_Bk_dealt_0 : fch r_Bk_dealt.2.1 0 = some (.iload_n 3) := by decide +kernel
theorem f_Bk_dealt_1 : fch r_Bk_dealt.2.1 1 = some (.iconst 3) := by decide +kernel
theorem f_Bk_dealt_2 : fch r_Bk_dealt.2.1 2 = some (.if_icmp .ne 11) := by decide +kernel
theorem f_Bk_dealt_5 : fch r_Bk_dealt.2.1 5 = some (.aload_n 0) := by decide +kernel
theorem f_Bk_dealt_6 : fch r_Bk_dealt.2.1 6 = some (.getfield 35) := by decide +kernel
theorem f_Bk_dealt_9 : fch r_Bk_dealt.2.1 9 = some (.invokevirtual 152) := by decide +kernel
theorem f_Bk_dealt_12 : fch r_Bk_dealt.2.1 12 = some (.ireturn) := by decide +kernel
theorem f_Bk_dealt_13 : fch r_Bk_dealt.2.1 13 = some (.iload_n 1) := by decide +kernel
theorem f_Bk_dealt_14 : fch r_Bk_dealt.2.1 14 = some (.iconst 0) := by decide +kernel
theorem f_Bk_dealt_15 : fch r_Bk_dealt.2.1 15 = some (.bipush 6) := by decide +kernel
theorem f_Bk_dealt_17 : fch r_Bk_dealt.2.1 17 = some (.invokestatic 155) := by decide +kernel
theorem f_Bk_dealt_20 : fch r_Bk_dealt.2.1 20 = some (.ifCond .eq 14) := by decide +kernel
theorem f_Bk_dealt_23 : fch r_Bk_dealt.2.1 23 = some (.aload_n 0) := by decide +kernel
theorem f_Bk_dealt_24 : fch r_Bk_dealt.2.1 24 = some (.getfield 35) := by decide +kernel
theorem f_Bk_dealt_27 : fch r_Bk_dealt.2.1 27 = some (.iload_n 2) := by decide +kernel
theorem f_Bk_dealt_28 : fch r_Bk_dealt.2.1 28 = some (.invokevirtual 159) := by decide +kernel
theorem f_Bk_dealt_31 : fch r_Bk_dealt.2.1 31 = some (.ifCond .ne 5) := by decide +kernel
theorem f_Bk_dealt_34 : fch r_Bk_dealt.2.1 34 = some (.iconst (-1)) := by decide +kernel
theorem f_Bk_dealt_35 : fch r_Bk_dealt.2.1 35 = some (.ireturn) := by decide +kernel
theorem f_Bk_dealt_36 : fch r_Bk_dealt.2.1 36 = some (.iload_n 3) := by decide +kernel
theorem f_Bk_dealt_37 : fch r_Bk_dealt.2.1 37 = some (.tableswitch 57 0 2 #[27, 37, 47]) := by decide +kernel
theorem f_Bk_dealt_64 : fch r_Bk_dealt.2.1 64 = some (.aload_n 0) := by decide +kernel
theorem f_Bk_dealt_65 : fch r_Bk_dealt.2.1 65 = some (.getfield 35) := by decide +kernel
theorem f_Bk_dealt_68 : fch r_Bk_dealt.2.1 68 = some (.iload_n 1) := by decide +kernel
theorem f_Bk_dealt_69 : fch r_Bk_dealt.2.1 69 = some (.iload_n 2) := by decide +kernel
theorem f_Bk_dealt_70 : fch r_Bk_dealt.2.1 70 = some (.invokevirtual 162) := by decide +kernel
theorem f_Bk_dealt_73 : fch r_Bk_dealt.2.1 73 = some (.ireturn) := by decide +kernel
theorem f_Bk_dealt_74 : fch r_Bk_dealt.2.1 74 = some (.aload_n 0) := by decide +kernel
theorem f_Bk_dealt_75 : fch r_Bk_dealt.2.1 75 = some (.getfield 35) := by decide +kernel
theorem f_Bk_dealt_78 : fch r_Bk_dealt.2.1 78 = some (.iload_n 1) := by decide +kernel
theorem f_Bk_dealt_79 : fch r_Bk_dealt.2.1 79 = some (.iload_n 2) := by decide +kernel
theorem f_Bk_dealt_80 : fch r_Bk_dealt.2.1 80 = some (.invokevirtual 165) := by decide +kernel
theorem f_Bk_dealt_83 : fch r_Bk_dealt.2.1 83 = some (.ireturn) := by decide +kernel
theorem f_Bk_dealt_84 : fch r_Bk_dealt.2.1 84 = some (.aload_n 0) := by decide +kernel
theorem f_Bk_dealt_85 : fch r_Bk_dealt.2.1 85 = some (.getfield 35) := by decide +kernel
theorem f_Bk_dealt_88 : fch r_Bk_dealt.2.1 88 = some (.iload_n 1) := by decide +kernel
theorem f_Bk_dealt_89 : fch r_Bk_dealt.2.1 89 = some (.iload_n 2) := by decide +kernel
theorem f_Bk_dealt_90 : fch r_Bk_dealt.2.1 90 = some (.invokevirtual 168) := by decide +kernel
theorem f_Bk_dealt_93 : fch r_Bk_dealt.2.1 93 = some (.ireturn) := by decide +kernel
theorem f_Bk_dealt_94 : fch r_Bk_dealt.2.1 94 = some (.iconst (-1)) := by decide +kernel
theorem f_Bk_dealt_95 : fch r_Bk_dealt.2.1 95 = some (.ireturn) := by decide +kernel
theorem f_Psa_leastLimit_0 : fch r_Psa_leastLimit.2.1 0 = some (.aload_n 0) := by decide +kernel
theorem f_Psa_leastLimit_1 : fch r_Psa_leastLimit.2.1 1 = some (.invokevirtual 66) := by decide +kernel
theorem f_Psa_leastLimit_4 : fch r_Psa_leastLimit.2.1 4 = some (.aload_n 0) := by decide +kernel
theorem f_Psa_leastLimit_5 : fch r_Psa_leastLimit.2.1 5 = some (.getfield 69) := by decide +kernel
theorem f_Psa_leastLimit_8 : fch r_Psa_leastLimit.2.1 8 = some (.ireturn) := by decide +kernel
theorem f_Psa_deal_0 : fch r_Psa_deal.2.1 0 = some (.aload_n 0) := by decide +kernel
theorem f_Psa_deal_1 : fch r_Psa_deal.2.1 1 = some (.getfield 56) := by decide +kernel
theorem f_Psa_deal_4 : fch r_Psa_deal.2.1 4 = some (.ifCond .eq 4) := by decide +kernel
theorem f_Psa_deal_7 : fch r_Psa_deal.2.1 7 = some (.return_) := by decide +kernel
theorem f_Psa_deal_8 : fch r_Psa_deal.2.1 8 = some (.aload_n 0) := by decide +kernel
theorem f_Psa_deal_9 : fch r_Psa_deal.2.1 9 = some (.iconst 1) := by decide +kernel
theorem f_Psa_deal_10 : fch r_Psa_deal.2.1 10 = some (.putfield 56) := by decide +kernel
theorem f_Psa_deal_13 : fch r_Psa_deal.2.1 13 = some (.aload_n 0) := by decide +kernel
theorem f_Psa_deal_14 : fch r_Psa_deal.2.1 14 = some (.invokevirtual 90) := by decide +kernel
theorem f_Psa_deal_17 : fch r_Psa_deal.2.1 17 = some (.aload_n 0) := by decide +kernel
theorem f_Psa_deal_18 : fch r_Psa_deal.2.1 18 = some (.invokevirtual 93) := by decide +kernel
theorem f_Psa_deal_21 : fch r_Psa_deal.2.1 21 = some (.iconst 0) := by decide +kernel
theorem f_Psa_deal_22 : fch r_Psa_deal.2.1 22 = some (.istore_n 1) := by decide +kernel
theorem f_Psa_deal_23 : fch r_Psa_deal.2.1 23 = some (.iconst 0) := by decide +kernel
theorem f_Psa_deal_24 : fch r_Psa_deal.2.1 24 = some (.istore_n 2) := by decide +kernel
theorem f_Psa_deal_25 : fch r_Psa_deal.2.1 25 = some (.iload_n 2) := by decide +kernel
theorem f_Psa_deal_26 : fch r_Psa_deal.2.1 26 = some (.bipush 7) := by decide +kernel
theorem f_Psa_deal_28 : fch r_Psa_deal.2.1 28 = some (.aload_n 0) := by decide +kernel
theorem f_Psa_deal_29 : fch r_Psa_deal.2.1 29 = some (.getfield 33) := by decide +kernel
theorem f_Psa_deal_32 : fch r_Psa_deal.2.1 32 = some (.imul) := by decide +kernel
theorem f_Psa_deal_33 : fch r_Psa_deal.2.1 33 = some (.if_icmp .ge 39) := by decide +kernel
theorem f_Psa_deal_36 : fch r_Psa_deal.2.1 36 = some (.aload_n 0) := by decide +kernel
theorem f_Psa_deal_37 : fch r_Psa_deal.2.1 37 = some (.iload_n 1) := by decide +kernel
theorem f_Psa_deal_38 : fch r_Psa_deal.2.1 38 = some (.aload_n 0) := by decide +kernel
theorem f_Psa_deal_39 : fch r_Psa_deal.2.1 39 = some (.getfield 69) := by decide +kernel
theorem f_Psa_deal_42 : fch r_Psa_deal.2.1 42 = some (.invokevirtual 96) := by decide +kernel
theorem f_Psa_deal_45 : fch r_Psa_deal.2.1 45 = some (.istore_n 3) := by decide +kernel
theorem f_Psa_deal_46 : fch r_Psa_deal.2.1 46 = some (.aload_n 0) := by decide +kernel
theorem f_Psa_deal_47 : fch r_Psa_deal.2.1 47 = some (.getfield 27) := by decide +kernel
theorem f_Psa_deal_50 : fch r_Psa_deal.2.1 50 = some (.iload_n 2) := by decide +kernel
theorem f_Psa_deal_51 : fch r_Psa_deal.2.1 51 = some (.iconst 1) := by decide +kernel
theorem f_Psa_deal_52 : fch r_Psa_deal.2.1 52 = some (.iadd) := by decide +kernel
theorem f_Psa_deal_53 : fch r_Psa_deal.2.1 53 = some (.iload_n 3) := by decide +kernel
theorem f_Psa_deal_54 : fch r_Psa_deal.2.1 54 = some (.invokestatic 52) := by decide +kernel
theorem f_Psa_deal_57 : fch r_Psa_deal.2.1 57 = some (.aload_n 0) := by decide +kernel
theorem f_Psa_deal_58 : fch r_Psa_deal.2.1 58 = some (.iload_n 2) := by decide +kernel
theorem f_Psa_deal_59 : fch r_Psa_deal.2.1 59 = some (.iload_n 1) := by decide +kernel
theorem f_Psa_deal_60 : fch r_Psa_deal.2.1 60 = some (.iload_n 3) := by decide +kernel
theorem f_Psa_deal_61 : fch r_Psa_deal.2.1 61 = some (.invokevirtual 99) := by decide +kernel
theorem f_Psa_deal_64 : fch r_Psa_deal.2.1 64 = some (.iload_n 3) := by decide +kernel
theorem f_Psa_deal_65 : fch r_Psa_deal.2.1 65 = some (.istore_n 1) := by decide +kernel
theorem f_Psa_deal_66 : fch r_Psa_deal.2.1 66 = some (.iinc 2 1) := by decide +kernel
theorem f_Psa_deal_69 : fch r_Psa_deal.2.1 69 = some (.goto (-44)) := by decide +kernel
theorem f_Psa_deal_72 : fch r_Psa_deal.2.1 72 = some (.return_) := by decide +kernel
theorem f_Psa_lineUp_0 : fch r_Psa_lineUp.2.1 0 = some (.aload_n 0) := by decide +kernel
theorem f_Psa_lineUp_1 : fch r_Psa_lineUp.2.1 1 = some (.iconst 0) := by decide +kernel
theorem f_Psa_lineUp_2 : fch r_Psa_lineUp.2.1 2 = some (.putfield 103) := by decide +kernel
theorem f_Psa_lineUp_5 : fch r_Psa_lineUp.2.1 5 = some (.iconst 1) := by decide +kernel
theorem f_Psa_lineUp_6 : fch r_Psa_lineUp.2.1 6 = some (.istore_n 1) := by decide +kernel
theorem f_Psa_lineUp_7 : fch r_Psa_lineUp.2.1 7 = some (.iload_n 1) := by decide +kernel
theorem f_Psa_lineUp_8 : fch r_Psa_lineUp.2.1 8 = some (.sipush 150) := by decide +kernel
theorem f_Psa_lineUp_11 : fch r_Psa_lineUp.2.1 11 = some (.if_icmp .gt 52) := by decide +kernel
theorem f_Psa_lineUp_14 : fch r_Psa_lineUp.2.1 14 = some (.aload_n 0) := by decide +kernel
theorem f_Psa_lineUp_15 : fch r_Psa_lineUp.2.1 15 = some (.getfield 30) := by decide +kernel
theorem f_Psa_lineUp_18 : fch r_Psa_lineUp.2.1 18 = some (.iload_n 1) := by decide +kernel
theorem f_Psa_lineUp_19 : fch r_Psa_lineUp.2.1 19 = some (.iconst (-1)) := by decide +kernel
theorem f_Psa_lineUp_20 : fch r_Psa_lineUp.2.1 20 = some (.invokestatic 52) := by decide +kernel
theorem f_Psa_lineUp_23 : fch r_Psa_lineUp.2.1 23 = some (.aload_n 0) := by decide +kernel
theorem f_Psa_lineUp_24 : fch r_Psa_lineUp.2.1 24 = some (.getfield 15) := by decide +kernel
theorem f_Psa_lineUp_27 : fch r_Psa_lineUp.2.1 27 = some (.iload_n 1) := by decide +kernel
theorem f_Psa_lineUp_28 : fch r_Psa_lineUp.2.1 28 = some (.invokestatic 48) := by decide +kernel
theorem f_Psa_lineUp_31 : fch r_Psa_lineUp.2.1 31 = some (.iconst (-1)) := by decide +kernel
theorem f_Psa_lineUp_32 : fch r_Psa_lineUp.2.1 32 = some (.if_icmp .ne 25) := by decide +kernel
theorem f_Psa_lineUp_35 : fch r_Psa_lineUp.2.1 35 = some (.aload_n 0) := by decide +kernel
theorem f_Psa_lineUp_36 : fch r_Psa_lineUp.2.1 36 = some (.getfield 24) := by decide +kernel
theorem f_Psa_lineUp_39 : fch r_Psa_lineUp.2.1 39 = some (.aload_n 0) := by decide +kernel
theorem f_Psa_lineUp_40 : fch r_Psa_lineUp.2.1 40 = some (.getfield 103) := by decide +kernel
theorem f_Psa_lineUp_43 : fch r_Psa_lineUp.2.1 43 = some (.iload_n 1) := by decide +kernel
theorem f_Psa_lineUp_44 : fch r_Psa_lineUp.2.1 44 = some (.invokestatic 52) := by decide +kernel
theorem f_Psa_lineUp_47 : fch r_Psa_lineUp.2.1 47 = some (.aload_n 0) := by decide +kernel
theorem f_Psa_lineUp_48 : fch r_Psa_lineUp.2.1 48 = some (.dup) := by decide +kernel
theorem f_Psa_lineUp_49 : fch r_Psa_lineUp.2.1 49 = some (.getfield 103) := by decide +kernel
theorem f_Psa_lineUp_52 : fch r_Psa_lineUp.2.1 52 = some (.iconst 1) := by decide +kernel
theorem f_Psa_lineUp_53 : fch r_Psa_lineUp.2.1 53 = some (.iadd) := by decide +kernel
theorem f_Psa_lineUp_54 : fch r_Psa_lineUp.2.1 54 = some (.putfield 103) := by decide +kernel
theorem f_Psa_lineUp_57 : fch r_Psa_lineUp.2.1 57 = some (.iinc 1 1) := by decide +kernel
theorem f_Psa_lineUp_60 : fch r_Psa_lineUp.2.1 60 = some (.goto (-53)) := by decide +kernel
theorem f_Psa_lineUp_63 : fch r_Psa_lineUp.2.1 63 = some (.return_) := by decide +kernel
theorem f_Psa_findLimit_0 : fch r_Psa_findLimit.2.1 0 = some (.iconst 0) := by decide +kernel
theorem f_Psa_findLimit_1 : fch r_Psa_findLimit.2.1 1 = some (.istore_n 1) := by decide +kernel
theorem f_Psa_findLimit_2 : fch r_Psa_findLimit.2.1 2 = some (.iconst 0) := by decide +kernel
theorem f_Psa_findLimit_3 : fch r_Psa_findLimit.2.1 3 = some (.istore_n 2) := by decide +kernel
theorem f_Psa_findLimit_4 : fch r_Psa_findLimit.2.1 4 = some (.iconst 0) := by decide +kernel
theorem f_Psa_findLimit_5 : fch r_Psa_findLimit.2.1 5 = some (.istore_n 3) := by decide +kernel
theorem f_Psa_findLimit_6 : fch r_Psa_findLimit.2.1 6 = some (.iload_n 3) := by decide +kernel
theorem f_Psa_findLimit_7 : fch r_Psa_findLimit.2.1 7 = some (.aload_n 0) := by decide +kernel
theorem f_Psa_findLimit_8 : fch r_Psa_findLimit.2.1 8 = some (.getfield 103) := by decide +kernel
theorem f_Psa_findLimit_11 : fch r_Psa_findLimit.2.1 11 = some (.if_icmp .ge 38) := by decide +kernel
theorem f_Psa_findLimit_14 : fch r_Psa_findLimit.2.1 14 = some (.aload_n 0) := by decide +kernel
theorem f_Psa_findLimit_15 : fch r_Psa_findLimit.2.1 15 = some (.getfield 11) := by decide +kernel
theorem f_Psa_findLimit_18 : fch r_Psa_findLimit.2.1 18 = some (.aload_n 0) := by decide +kernel
theorem f_Psa_findLimit_19 : fch r_Psa_findLimit.2.1 19 = some (.getfield 24) := by decide +kernel
theorem f_Psa_findLimit_22 : fch r_Psa_findLimit.2.1 22 = some (.iload_n 3) := by decide +kernel
theorem f_Psa_findLimit_23 : fch r_Psa_findLimit.2.1 23 = some (.invokestatic 48) := by decide +kernel
theorem f_Psa_findLimit_26 : fch r_Psa_findLimit.2.1 26 = some (.invokestatic 48) := by decide +kernel
theorem f_Psa_findLimit_29 : fch r_Psa_findLimit.2.1 29 = some (.istore 4) := by decide +kernel
theorem f_Psa_findLimit_31 : fch r_Psa_findLimit.2.1 31 = some (.iload_n 1) := by decide +kernel
theorem f_Psa_findLimit_32 : fch r_Psa_findLimit.2.1 32 = some (.iload 4) := by decide +kernel
theorem f_Psa_findLimit_34 : fch r_Psa_findLimit.2.1 34 = some (.invokestatic 106) := by decide +kernel
theorem f_Psa_findLimit_37 : fch r_Psa_findLimit.2.1 37 = some (.istore_n 1) := by decide +kernel
theorem f_Psa_findLimit_38 : fch r_Psa_findLimit.2.1 38 = some (.iload_n 2) := by decide +kernel
theorem f_Psa_findLimit_39 : fch r_Psa_findLimit.2.1 39 = some (.iload 4) := by decide +kernel
theorem f_Psa_findLimit_41 : fch r_Psa_findLimit.2.1 41 = some (.iadd) := by decide +kernel
theorem f_Psa_findLimit_42 : fch r_Psa_findLimit.2.1 42 = some (.istore_n 2) := by decide +kernel
theorem f_Psa_findLimit_43 : fch r_Psa_findLimit.2.1 43 = some (.iinc 3 1) := by decide +kernel
theorem f_Psa_findLimit_46 : fch r_Psa_findLimit.2.1 46 = some (.goto (-40)) := by decide +kernel
theorem f_Psa_findLimit_49 : fch r_Psa_findLimit.2.1 49 = some (.iconst 0) := by decide +kernel
theorem f_Psa_findLimit_50 : fch r_Psa_findLimit.2.1 50 = some (.istore_n 3) := by decide +kernel
theorem f_Psa_findLimit_51 : fch r_Psa_findLimit.2.1 51 = some (.iload_n 3) := by decide +kernel
theorem f_Psa_findLimit_52 : fch r_Psa_findLimit.2.1 52 = some (.bipush 40) := by decide +kernel
theorem f_Psa_findLimit_54 : fch r_Psa_findLimit.2.1 54 = some (.if_icmp .ge 43) := by decide +kernel
theorem f_Psa_findLimit_57 : fch r_Psa_findLimit.2.1 57 = some (.iload_n 1) := by decide +kernel
theorem f_Psa_findLimit_58 : fch r_Psa_findLimit.2.1 58 = some (.iload_n 2) := by decide +kernel
theorem f_Psa_findLimit_59 : fch r_Psa_findLimit.2.1 59 = some (.if_icmp .ge 38) := by decide +kernel
theorem f_Psa_findLimit_62 : fch r_Psa_findLimit.2.1 62 = some (.iload_n 1) := by decide +kernel
theorem f_Psa_findLimit_63 : fch r_Psa_findLimit.2.1 63 = some (.iload_n 2) := by decide +kernel
theorem f_Psa_findLimit_64 : fch r_Psa_findLimit.2.1 64 = some (.iload_n 1) := by decide +kernel
theorem f_Psa_findLimit_65 : fch r_Psa_findLimit.2.1 65 = some (.isub) := by decide +kernel
theorem f_Psa_findLimit_66 : fch r_Psa_findLimit.2.1 66 = some (.iconst 2) := by decide +kernel
theorem f_Psa_findLimit_67 : fch r_Psa_findLimit.2.1 67 = some (.idiv) := by decide +kernel
theorem f_Psa_findLimit_68 : fch r_Psa_findLimit.2.1 68 = some (.iadd) := by decide +kernel
theorem f_Psa_findLimit_69 : fch r_Psa_findLimit.2.1 69 = some (.istore 4) := by decide +kernel
theorem f_Psa_findLimit_71 : fch r_Psa_findLimit.2.1 71 = some (.aload_n 0) := by decide +kernel
theorem f_Psa_findLimit_72 : fch r_Psa_findLimit.2.1 72 = some (.iload 4) := by decide +kernel
theorem f_Psa_findLimit_74 : fch r_Psa_findLimit.2.1 74 = some (.invokevirtual 111) := by decide +kernel
theorem f_Psa_findLimit_77 : fch r_Psa_findLimit.2.1 77 = some (.ifCond .eq 9) := by decide +kernel
theorem f_Psa_findLimit_80 : fch r_Psa_findLimit.2.1 80 = some (.iload 4) := by decide +kernel
theorem f_Psa_findLimit_82 : fch r_Psa_findLimit.2.1 82 = some (.istore_n 2) := by decide +kernel
theorem f_Psa_findLimit_83 : fch r_Psa_findLimit.2.1 83 = some (.goto 8) := by decide +kernel
theorem f_Psa_findLimit_86 : fch r_Psa_findLimit.2.1 86 = some (.iload 4) := by decide +kernel
theorem f_Psa_findLimit_88 : fch r_Psa_findLimit.2.1 88 = some (.iconst 1) := by decide +kernel
theorem f_Psa_findLimit_89 : fch r_Psa_findLimit.2.1 89 = some (.iadd) := by decide +kernel
theorem f_Psa_findLimit_90 : fch r_Psa_findLimit.2.1 90 = some (.istore_n 1) := by decide +kernel
theorem f_Psa_findLimit_91 : fch r_Psa_findLimit.2.1 91 = some (.iinc 3 1) := by decide +kernel
theorem f_Psa_findLimit_94 : fch r_Psa_findLimit.2.1 94 = some (.goto (-43)) := by decide +kernel
theorem f_Psa_findLimit_97 : fch r_Psa_findLimit.2.1 97 = some (.aload_n 0) := by decide +kernel
theorem f_Psa_findLimit_98 : fch r_Psa_findLimit.2.1 98 = some (.iload_n 1) := by decide +kernel
theorem f_Psa_findLimit_99 : fch r_Psa_findLimit.2.1 99 = some (.putfield 69) := by decide +kernel
theorem f_Psa_findLimit_102 : fch r_Psa_findLimit.2.1 102 = some (.return_) := by decide +kernel
theorem f_Psa_isEnough_0 : fch r_Psa_isEnough.2.1 0 = some (.iconst 0) := by decide +kernel
theorem f_Psa_isEnough_1 : fch r_Psa_isEnough.2.1 1 = some (.istore_n 2) := by decide +kernel
theorem f_Psa_isEnough_2 : fch r_Psa_isEnough.2.1 2 = some (.iconst 0) := by decide +kernel
theorem f_Psa_isEnough_3 : fch r_Psa_isEnough.2.1 3 = some (.istore_n 3) := by decide +kernel
theorem f_Psa_isEnough_4 : fch r_Psa_isEnough.2.1 4 = some (.iload_n 3) := by decide +kernel
theorem f_Psa_isEnough_5 : fch r_Psa_isEnough.2.1 5 = some (.bipush 7) := by decide +kernel
theorem f_Psa_isEnough_7 : fch r_Psa_isEnough.2.1 7 = some (.aload_n 0) := by decide +kernel
theorem f_Psa_isEnough_8 : fch r_Psa_isEnough.2.1 8 = some (.getfield 33) := by decide +kernel
theorem f_Psa_isEnough_11 : fch r_Psa_isEnough.2.1 11 = some (.imul) := by decide +kernel
theorem f_Psa_isEnough_12 : fch r_Psa_isEnough.2.1 12 = some (.if_icmp .ge 16) := by decide +kernel
theorem f_Psa_isEnough_15 : fch r_Psa_isEnough.2.1 15 = some (.aload_n 0) := by decide +kernel
theorem f_Psa_isEnough_16 : fch r_Psa_isEnough.2.1 16 = some (.iload_n 2) := by decide +kernel
theorem f_Psa_isEnough_17 : fch r_Psa_isEnough.2.1 17 = some (.iload_n 1) := by decide +kernel
theorem f_Psa_isEnough_18 : fch r_Psa_isEnough.2.1 18 = some (.invokevirtual 96) := by decide +kernel
theorem f_Psa_isEnough_21 : fch r_Psa_isEnough.2.1 21 = some (.istore_n 2) := by decide +kernel
theorem f_Psa_isEnough_22 : fch r_Psa_isEnough.2.1 22 = some (.iinc 3 1) := by decide +kernel
theorem f_Psa_isEnough_25 : fch r_Psa_isEnough.2.1 25 = some (.goto (-21)) := by decide +kernel
theorem f_Psa_isEnough_28 : fch r_Psa_isEnough.2.1 28 = some (.iload_n 2) := by decide +kernel
theorem f_Psa_isEnough_29 : fch r_Psa_isEnough.2.1 29 = some (.aload_n 0) := by decide +kernel
theorem f_Psa_isEnough_30 : fch r_Psa_isEnough.2.1 30 = some (.getfield 103) := by decide +kernel
theorem f_Psa_isEnough_33 : fch r_Psa_isEnough.2.1 33 = some (.if_icmp .lt 7) := by decide +kernel
theorem f_Psa_isEnough_36 : fch r_Psa_isEnough.2.1 36 = some (.iconst 1) := by decide +kernel
theorem f_Psa_isEnough_37 : fch r_Psa_isEnough.2.1 37 = some (.goto 4) := by decide +kernel
theorem f_Psa_isEnough_40 : fch r_Psa_isEnough.2.1 40 = some (.iconst 0) := by decide +kernel
theorem f_Psa_isEnough_41 : fch r_Psa_isEnough.2.1 41 = some (.ireturn) := by decide +kernel
theorem f_Psa_endOfHour_0 : fch r_Psa_endOfHour.2.1 0 = some (.iconst 0) := by decide +kernel
theorem f_Psa_endOfHour_1 : fch r_Psa_endOfHour.2.1 1 = some (.istore_n 3) := by decide +kernel
theorem f_Psa_endOfHour_2 : fch r_Psa_endOfHour.2.1 2 = some (.iload_n 1) := by decide +kernel
theorem f_Psa_endOfHour_3 : fch r_Psa_endOfHour.2.1 3 = some (.istore 4) := by decide +kernel
theorem f_Psa_endOfHour_5 : fch r_Psa_endOfHour.2.1 5 = some (.iload 4) := by decide +kernel
theorem f_Psa_endOfHour_7 : fch r_Psa_endOfHour.2.1 7 = some (.aload_n 0) := by decide +kernel
theorem f_Psa_endOfHour_8 : fch r_Psa_endOfHour.2.1 8 = some (.getfield 103) := by decide +kernel
theorem f_Psa_endOfHour_11 : fch r_Psa_endOfHour.2.1 11 = some (.if_icmp .ge 36) := by decide +kernel
theorem f_Psa_endOfHour_14 : fch r_Psa_endOfHour.2.1 14 = some (.iload_n 3) := by decide +kernel
theorem f_Psa_endOfHour_15 : fch r_Psa_endOfHour.2.1 15 = some (.aload_n 0) := by decide +kernel
theorem f_Psa_endOfHour_16 : fch r_Psa_endOfHour.2.1 16 = some (.getfield 11) := by decide +kernel
theorem f_Psa_endOfHour_19 : fch r_Psa_endOfHour.2.1 19 = some (.aload_n 0) := by decide +kernel
theorem f_Psa_endOfHour_20 : fch r_Psa_endOfHour.2.1 20 = some (.getfield 24) := by decide +kernel
theorem f_Psa_endOfHour_23 : fch r_Psa_endOfHour.2.1 23 = some (.iload 4) := by decide +kernel
theorem f_Psa_endOfHour_25 : fch r_Psa_endOfHour.2.1 25 = some (.invokestatic 48) := by decide +kernel
theorem f_Psa_endOfHour_28 : fch r_Psa_endOfHour.2.1 28 = some (.invokestatic 48) := by decide +kernel
theorem f_Psa_endOfHour_31 : fch r_Psa_endOfHour.2.1 31 = some (.iadd) := by decide +kernel
theorem f_Psa_endOfHour_32 : fch r_Psa_endOfHour.2.1 32 = some (.istore_n 3) := by decide +kernel
theorem f_Psa_endOfHour_33 : fch r_Psa_endOfHour.2.1 33 = some (.iload_n 3) := by decide +kernel
theorem f_Psa_endOfHour_34 : fch r_Psa_endOfHour.2.1 34 = some (.iload_n 2) := by decide +kernel
theorem f_Psa_endOfHour_35 : fch r_Psa_endOfHour.2.1 35 = some (.if_icmp .le 6) := by decide +kernel
theorem f_Psa_endOfHour_38 : fch r_Psa_endOfHour.2.1 38 = some (.iload 4) := by decide +kernel
theorem f_Psa_endOfHour_40 : fch r_Psa_endOfHour.2.1 40 = some (.ireturn) := by decide +kernel
theorem f_Psa_endOfHour_41 : fch r_Psa_endOfHour.2.1 41 = some (.iinc 4 1) := by decide +kernel
theorem f_Psa_endOfHour_44 : fch r_Psa_endOfHour.2.1 44 = some (.goto (-39)) := by decide +kernel
theorem f_Psa_endOfHour_47 : fch r_Psa_endOfHour.2.1 47 = some (.aload_n 0) := by decide +kernel
theorem f_Psa_endOfHour_48 : fch r_Psa_endOfHour.2.1 48 = some (.getfield 103) := by decide +kernel
theorem f_Psa_endOfHour_51 : fch r_Psa_endOfHour.2.1 51 = some (.ireturn) := by decide +kernel
theorem f_Psa_markSlot_0 : fch r_Psa_markSlot.2.1 0 = some (.iload_n 2) := by decide +kernel
theorem f_Psa_markSlot_1 : fch r_Psa_markSlot.2.1 1 = some (.istore 4) := by decide +kernel
theorem f_Psa_markSlot_3 : fch r_Psa_markSlot.2.1 3 = some (.iload 4) := by decide +kernel
theorem f_Psa_markSlot_5 : fch r_Psa_markSlot.2.1 5 = some (.iload_n 3) := by decide +kernel
theorem f_Psa_markSlot_6 : fch r_Psa_markSlot.2.1 6 = some (.if_icmp .ge 26) := by decide +kernel
theorem f_Psa_markSlot_9 : fch r_Psa_markSlot.2.1 9 = some (.aload_n 0) := by decide +kernel
theorem f_Psa_markSlot_10 : fch r_Psa_markSlot.2.1 10 = some (.getfield 30) := by decide +kernel
theorem f_Psa_markSlot_13 : fch r_Psa_markSlot.2.1 13 = some (.aload_n 0) := by decide +kernel
theorem f_Psa_markSlot_14 : fch r_Psa_markSlot.2.1 14 = some (.getfield 24) := by decide +kernel
theorem f_Psa_markSlot_17 : fch r_Psa_markSlot.2.1 17 = some (.iload 4) := by decide +kernel
theorem f_Psa_markSlot_19 : fch r_Psa_markSlot.2.1 19 = some (.invokestatic 48) := by decide +kernel
theorem f_Psa_markSlot_22 : fch r_Psa_markSlot.2.1 22 = some (.iload_n 1) := by decide +kernel
theorem f_Psa_markSlot_23 : fch r_Psa_markSlot.2.1 23 = some (.invokestatic 52) := by decide +kernel
theorem f_Psa_markSlot_26 : fch r_Psa_markSlot.2.1 26 = some (.iinc 4 1) := by decide +kernel
theorem f_Psa_markSlot_29 : fch r_Psa_markSlot.2.1 29 = some (.goto (-26)) := by decide +kernel
theorem f_Psa_markSlot_32 : fch r_Psa_markSlot.2.1 32 = some (.return_) := by decide +kernel
theorem f_Psa_firstDealt_0 : fch r_Psa_firstDealt.2.1 0 = some (.aload_n 0) := by decide +kernel
theorem f_Psa_firstDealt_1 : fch r_Psa_firstDealt.2.1 1 = some (.invokevirtual 66) := by decide +kernel
theorem f_Psa_firstDealt_4 : fch r_Psa_firstDealt.2.1 4 = some (.aload_n 0) := by decide +kernel
theorem f_Psa_firstDealt_5 : fch r_Psa_firstDealt.2.1 5 = some (.iload_n 1) := by decide +kernel
theorem f_Psa_firstDealt_6 : fch r_Psa_firstDealt.2.1 6 = some (.iload_n 2) := by decide +kernel
theorem f_Psa_firstDealt_7 : fch r_Psa_firstDealt.2.1 7 = some (.iconst 0) := by decide +kernel
theorem f_Psa_firstDealt_8 : fch r_Psa_firstDealt.2.1 8 = some (.invokevirtual 72) := by decide +kernel
theorem f_Psa_firstDealt_11 : fch r_Psa_firstDealt.2.1 11 = some (.ireturn) := by decide +kernel
theorem f_Psa_dealtPsalm_0 : fch r_Psa_dealtPsalm.2.1 0 = some (.iload_n 3) := by decide +kernel
theorem f_Psa_dealtPsalm_1 : fch r_Psa_dealtPsalm.2.1 1 = some (.aload_n 0) := by decide +kernel
theorem f_Psa_dealtPsalm_2 : fch r_Psa_dealtPsalm.2.1 2 = some (.iload_n 1) := by decide +kernel
theorem f_Psa_dealtPsalm_3 : fch r_Psa_dealtPsalm.2.1 3 = some (.iload_n 2) := by decide +kernel
theorem f_Psa_dealtPsalm_4 : fch r_Psa_dealtPsalm.2.1 4 = some (.invokevirtual 76) := by decide +kernel
theorem f_Psa_dealtPsalm_7 : fch r_Psa_dealtPsalm.2.1 7 = some (.if_icmp .ge 30) := by decide +kernel
theorem f_Psa_dealtPsalm_10 : fch r_Psa_dealtPsalm.2.1 10 = some (.aload_n 0) := by decide +kernel
theorem f_Psa_dealtPsalm_11 : fch r_Psa_dealtPsalm.2.1 11 = some (.getfield 24) := by decide +kernel
theorem f_Psa_dealtPsalm_14 : fch r_Psa_dealtPsalm.2.1 14 = some (.aload_n 0) := by decide +kernel
theorem f_Psa_dealtPsalm_15 : fch r_Psa_dealtPsalm.2.1 15 = some (.getfield 27) := by decide +kernel
theorem f_Psa_dealtPsalm_18 : fch r_Psa_dealtPsalm.2.1 18 = some (.iload_n 1) := by decide +kernel
theorem f_Psa_dealtPsalm_19 : fch r_Psa_dealtPsalm.2.1 19 = some (.aload_n 0) := by decide +kernel
theorem f_Psa_dealtPsalm_20 : fch r_Psa_dealtPsalm.2.1 20 = some (.getfield 33) := by decide +kernel
theorem f_Psa_dealtPsalm_23 : fch r_Psa_dealtPsalm.2.1 23 = some (.imul) := by decide +kernel
theorem f_Psa_dealtPsalm_24 : fch r_Psa_dealtPsalm.2.1 24 = some (.iload_n 2) := by decide +kernel
theorem f_Psa_dealtPsalm_25 : fch r_Psa_dealtPsalm.2.1 25 = some (.iadd) := by decide +kernel
theorem f_Psa_dealtPsalm_26 : fch r_Psa_dealtPsalm.2.1 26 = some (.invokestatic 48) := by decide +kernel
theorem f_Psa_dealtPsalm_29 : fch r_Psa_dealtPsalm.2.1 29 = some (.iload_n 3) := by decide +kernel
theorem f_Psa_dealtPsalm_30 : fch r_Psa_dealtPsalm.2.1 30 = some (.iadd) := by decide +kernel
theorem f_Psa_dealtPsalm_31 : fch r_Psa_dealtPsalm.2.1 31 = some (.invokestatic 48) := by decide +kernel
theorem f_Psa_dealtPsalm_34 : fch r_Psa_dealtPsalm.2.1 34 = some (.goto 4) := by decide +kernel
theorem f_Psa_dealtPsalm_37 : fch r_Psa_dealtPsalm.2.1 37 = some (.iconst (-1)) := by decide +kernel
theorem f_Psa_dealtPsalm_38 : fch r_Psa_dealtPsalm.2.1 38 = some (.ireturn) := by decide +kernel
theorem f_Psa_countDealt_0 : fch r_Psa_countDealt.2.1 0 = some (.iload_n 1) := by decide +kernel
theorem f_Psa_countDealt_1 : fch r_Psa_countDealt.2.1 1 = some (.aload_n 0) := by decide +kernel
theorem f_Psa_countDealt_2 : fch r_Psa_countDealt.2.1 2 = some (.getfield 33) := by decide +kernel
theorem f_Psa_countDealt_5 : fch r_Psa_countDealt.2.1 5 = some (.imul) := by decide +kernel
theorem f_Psa_countDealt_6 : fch r_Psa_countDealt.2.1 6 = some (.iload_n 2) := by decide +kernel
theorem f_Psa_countDealt_7 : fch r_Psa_countDealt.2.1 7 = some (.iadd) := by decide +kernel
theorem f_Psa_countDealt_8 : fch r_Psa_countDealt.2.1 8 = some (.istore_n 3) := by decide +kernel
theorem f_Psa_countDealt_9 : fch r_Psa_countDealt.2.1 9 = some (.aload_n 0) := by decide +kernel
theorem f_Psa_countDealt_10 : fch r_Psa_countDealt.2.1 10 = some (.getfield 27) := by decide +kernel
theorem f_Psa_countDealt_13 : fch r_Psa_countDealt.2.1 13 = some (.iload_n 3) := by decide +kernel
theorem f_Psa_countDealt_14 : fch r_Psa_countDealt.2.1 14 = some (.iconst 1) := by decide +kernel
theorem f_Psa_countDealt_15 : fch r_Psa_countDealt.2.1 15 = some (.iadd) := by decide +kernel
theorem f_Psa_countDealt_16 : fch r_Psa_countDealt.2.1 16 = some (.invokestatic 48) := by decide +kernel
theorem f_Psa_countDealt_19 : fch r_Psa_countDealt.2.1 19 = some (.aload_n 0) := by decide +kernel
theorem f_Psa_countDealt_20 : fch r_Psa_countDealt.2.1 20 = some (.getfield 27) := by decide +kernel
theorem f_Psa_countDealt_23 : fch r_Psa_countDealt.2.1 23 = some (.iload_n 3) := by decide +kernel
theorem f_Psa_countDealt_24 : fch r_Psa_countDealt.2.1 24 = some (.invokestatic 48) := by decide +kernel
theorem f_Psa_countDealt_27 : fch r_Psa_countDealt.2.1 27 = some (.isub) := by decide +kernel
theorem f_Psa_countDealt_28 : fch r_Psa_countDealt.2.1 28 = some (.ireturn) := by decide +kernel
theorem f_Psa_manyDealt_0 : fch r_Psa_manyDealt.2.1 0 = some (.aload_n 0) := by decide +kernel
theorem f_Psa_manyDealt_1 : fch r_Psa_manyDealt.2.1 1 = some (.invokevirtual 66) := by decide +kernel
theorem f_Psa_manyDealt_4 : fch r_Psa_manyDealt.2.1 4 = some (.aload_n 0) := by decide +kernel
theorem f_Psa_manyDealt_5 : fch r_Psa_manyDealt.2.1 5 = some (.iload_n 1) := by decide +kernel
theorem f_Psa_manyDealt_6 : fch r_Psa_manyDealt.2.1 6 = some (.iload_n 2) := by decide +kernel
theorem f_Psa_manyDealt_7 : fch r_Psa_manyDealt.2.1 7 = some (.invokevirtual 76) := by decide +kernel
theorem f_Psa_manyDealt_10 : fch r_Psa_manyDealt.2.1 10 = some (.ireturn) := by decide +kernel
theorem f_Psa_versesDealt_0 : fch r_Psa_versesDealt.2.1 0 = some (.aload_n 0) := by decide +kernel
theorem f_Psa_versesDealt_1 : fch r_Psa_versesDealt.2.1 1 = some (.invokevirtual 66) := by decide +kernel
theorem f_Psa_versesDealt_4 : fch r_Psa_versesDealt.2.1 4 = some (.iconst 0) := by decide +kernel
theorem f_Psa_versesDealt_5 : fch r_Psa_versesDealt.2.1 5 = some (.istore_n 3) := by decide +kernel
theorem f_Psa_versesDealt_6 : fch r_Psa_versesDealt.2.1 6 = some (.aload_n 0) := by decide +kernel
theorem f_Psa_versesDealt_7 : fch r_Psa_versesDealt.2.1 7 = some (.iload_n 1) := by decide +kernel
theorem f_Psa_versesDealt_8 : fch r_Psa_versesDealt.2.1 8 = some (.iload_n 2) := by decide +kernel
theorem f_Psa_versesDealt_9 : fch r_Psa_versesDealt.2.1 9 = some (.invokevirtual 76) := by decide +kernel
theorem f_Psa_versesDealt_12 : fch r_Psa_versesDealt.2.1 12 = some (.istore 4) := by decide +kernel
theorem f_Psa_versesDealt_14 : fch r_Psa_versesDealt.2.1 14 = some (.iconst 0) := by decide +kernel
theorem f_Psa_versesDealt_15 : fch r_Psa_versesDealt.2.1 15 = some (.istore 5) := by decide +kernel
theorem f_Psa_versesDealt_17 : fch r_Psa_versesDealt.2.1 17 = some (.iload 5) := by decide +kernel
theorem f_Psa_versesDealt_19 : fch r_Psa_versesDealt.2.1 19 = some (.iload 4) := by decide +kernel
theorem f_Psa_versesDealt_21 : fch r_Psa_versesDealt.2.1 21 = some (.if_icmp .ge 27) := by decide +kernel
theorem f_Psa_versesDealt_24 : fch r_Psa_versesDealt.2.1 24 = some (.iload_n 3) := by decide +kernel
theorem f_Psa_versesDealt_25 : fch r_Psa_versesDealt.2.1 25 = some (.aload_n 0) := by decide +kernel
theorem f_Psa_versesDealt_26 : fch r_Psa_versesDealt.2.1 26 = some (.getfield 11) := by decide +kernel
theorem f_Psa_versesDealt_29 : fch r_Psa_versesDealt.2.1 29 = some (.aload_n 0) := by decide +kernel
theorem f_Psa_versesDealt_30 : fch r_Psa_versesDealt.2.1 30 = some (.iload_n 1) := by decide +kernel
theorem f_Psa_versesDealt_31 : fch r_Psa_versesDealt.2.1 31 = some (.iload_n 2) := by decide +kernel
theorem f_Psa_versesDealt_32 : fch r_Psa_versesDealt.2.1 32 = some (.iload 5) := by decide +kernel
theorem f_Psa_versesDealt_34 : fch r_Psa_versesDealt.2.1 34 = some (.invokevirtual 72) := by decide +kernel
theorem f_Psa_versesDealt_37 : fch r_Psa_versesDealt.2.1 37 = some (.invokestatic 48) := by decide +kernel
theorem f_Psa_versesDealt_40 : fch r_Psa_versesDealt.2.1 40 = some (.iadd) := by decide +kernel
theorem f_Psa_versesDealt_41 : fch r_Psa_versesDealt.2.1 41 = some (.istore_n 3) := by decide +kernel
theorem f_Psa_versesDealt_42 : fch r_Psa_versesDealt.2.1 42 = some (.iinc 5 1) := by decide +kernel
theorem f_Psa_versesDealt_45 : fch r_Psa_versesDealt.2.1 45 = some (.goto (-28)) := by decide +kernel
theorem f_Psa_versesDealt_48 : fch r_Psa_versesDealt.2.1 48 = some (.iload_n 3) := by decide +kernel
theorem f_Psa_versesDealt_49 : fch r_Psa_versesDealt.2.1 49 = some (.ireturn) := by decide +kernel
theorem f_Bk_sung_0 : fch r_Bk_sung.2.1 0 = some (.aload_n 0) := by decide +kernel
theorem f_Bk_sung_1 : fch r_Bk_sung.2.1 1 = some (.getfield 35) := by decide +kernel
theorem f_Bk_sung_4 : fch r_Bk_sung.2.1 4 = some (.iload_n 3) := by decide +kernel
theorem f_Bk_sung_5 : fch r_Bk_sung.2.1 5 = some (.invokevirtual 159) := by decide +kernel
theorem f_Bk_sung_8 : fch r_Bk_sung.2.1 8 = some (.ifCond .eq 15) := by decide +kernel
theorem f_Bk_sung_11 : fch r_Bk_sung.2.1 11 = some (.aload_n 0) := by decide +kernel
theorem f_Bk_sung_12 : fch r_Bk_sung.2.1 12 = some (.getfield 28) := by decide +kernel
theorem f_Bk_sung_15 : fch r_Bk_sung.2.1 15 = some (.iload_n 1) := by decide +kernel
theorem f_Bk_sung_16 : fch r_Bk_sung.2.1 16 = some (.iload_n 2) := by decide +kernel
theorem f_Bk_sung_17 : fch r_Bk_sung.2.1 17 = some (.invokevirtual 107) := by decide +kernel
theorem f_Bk_sung_20 : fch r_Bk_sung.2.1 20 = some (.ifCond .ne 5) := by decide +kernel
theorem f_Bk_sung_23 : fch r_Bk_sung.2.1 23 = some (.iconst (-1)) := by decide +kernel
theorem f_Bk_sung_24 : fch r_Bk_sung.2.1 24 = some (.ireturn) := by decide +kernel
theorem f_Bk_sung_25 : fch r_Bk_sung.2.1 25 = some (.aload_n 0) := by decide +kernel
theorem f_Bk_sung_26 : fch r_Bk_sung.2.1 26 = some (.getfield 35) := by decide +kernel
theorem f_Bk_sung_29 : fch r_Bk_sung.2.1 29 = some (.aload_n 0) := by decide +kernel
theorem f_Bk_sung_30 : fch r_Bk_sung.2.1 30 = some (.getfield 28) := by decide +kernel
theorem f_Bk_sung_33 : fch r_Bk_sung.2.1 33 = some (.iload_n 2) := by decide +kernel
theorem f_Bk_sung_34 : fch r_Bk_sung.2.1 34 = some (.invokevirtual 171) := by decide +kernel
theorem f_Bk_sung_37 : fch r_Bk_sung.2.1 37 = some (.iload_n 3) := by decide +kernel
theorem f_Bk_sung_38 : fch r_Bk_sung.2.1 38 = some (.aload_n 0) := by decide +kernel
theorem f_Bk_sung_39 : fch r_Bk_sung.2.1 39 = some (.getfield 28) := by decide +kernel
theorem f_Bk_sung_42 : fch r_Bk_sung.2.1 42 = some (.iload_n 2) := by decide +kernel
theorem f_Bk_sung_43 : fch r_Bk_sung.2.1 43 = some (.invokevirtual 174) := by decide +kernel
theorem f_Bk_sung_46 : fch r_Bk_sung.2.1 46 = some (.iload 4) := by decide +kernel
theorem f_Bk_sung_48 : fch r_Bk_sung.2.1 48 = some (.invokevirtual 177) := by decide +kernel
theorem f_Bk_sung_51 : fch r_Bk_sung.2.1 51 = some (.ireturn) := by decide +kernel
theorem f_Alm_rankOn_0 : fch r_Alm_rankOn.2.1 0 = some (.aload_n 0) := by decide +kernel
theorem f_Alm_rankOn_1 : fch r_Alm_rankOn.2.1 1 = some (.getfield 15) := by decide +kernel
theorem f_Alm_rankOn_4 : fch r_Alm_rankOn.2.1 4 = some (.iload_n 1) := by decide +kernel
theorem f_Alm_rankOn_5 : fch r_Alm_rankOn.2.1 5 = some (.invokestatic 60) := by decide +kernel
theorem f_Alm_rankOn_8 : fch r_Alm_rankOn.2.1 8 = some (.invokestatic 80) := by decide +kernel
theorem f_Alm_rankOn_11 : fch r_Alm_rankOn.2.1 11 = some (.ireturn) := by decide +kernel
theorem f_Psa_psalmSung_0 : fch r_Psa_psalmSung.2.1 0 = some (.aload_n 0) := by decide +kernel
theorem f_Psa_psalmSung_1 : fch r_Psa_psalmSung.2.1 1 = some (.invokevirtual 66) := by decide +kernel
theorem f_Psa_psalmSung_4 : fch r_Psa_psalmSung.2.1 4 = some (.iload 4) := by decide +kernel
theorem f_Psa_psalmSung_6 : fch r_Psa_psalmSung.2.1 6 = some (.ifCond .ge 5) := by decide +kernel
theorem f_Psa_psalmSung_9 : fch r_Psa_psalmSung.2.1 9 = some (.iconst (-1)) := by decide +kernel
theorem f_Psa_psalmSung_10 : fch r_Psa_psalmSung.2.1 10 = some (.ireturn) := by decide +kernel
theorem f_Psa_psalmSung_11 : fch r_Psa_psalmSung.2.1 11 = some (.aload_n 0) := by decide +kernel
theorem f_Psa_psalmSung_12 : fch r_Psa_psalmSung.2.1 12 = some (.iload_n 2) := by decide +kernel
theorem f_Psa_psalmSung_13 : fch r_Psa_psalmSung.2.1 13 = some (.iload_n 3) := by decide +kernel
theorem f_Psa_psalmSung_14 : fch r_Psa_psalmSung.2.1 14 = some (.invokevirtual 80) := by decide +kernel
theorem f_Psa_psalmSung_17 : fch r_Psa_psalmSung.2.1 17 = some (.istore 5) := by decide +kernel
theorem f_Psa_psalmSung_19 : fch r_Psa_psalmSung.2.1 19 = some (.iload 5) := by decide +kernel
theorem f_Psa_psalmSung_21 : fch r_Psa_psalmSung.2.1 21 = some (.ifCond .eq 14) := by decide +kernel
theorem f_Psa_psalmSung_24 : fch r_Psa_psalmSung.2.1 24 = some (.aload_n 0) := by decide +kernel
theorem f_Psa_psalmSung_25 : fch r_Psa_psalmSung.2.1 25 = some (.getfield 21) := by decide +kernel
theorem f_Psa_psalmSung_28 : fch r_Psa_psalmSung.2.1 28 = some (.iload_n 2) := by decide +kernel
theorem f_Psa_psalmSung_29 : fch r_Psa_psalmSung.2.1 29 = some (.invokestatic 48) := by decide +kernel
theorem f_Psa_psalmSung_32 : fch r_Psa_psalmSung.2.1 32 = some (.goto 9) := by decide +kernel
theorem f_Psa_psalmSung_35 : fch r_Psa_psalmSung.2.1 35 = some (.aload_n 0) := by decide +kernel
theorem f_Psa_psalmSung_36 : fch r_Psa_psalmSung.2.1 36 = some (.iload_n 1) := by decide +kernel
theorem f_Psa_psalmSung_37 : fch r_Psa_psalmSung.2.1 37 = some (.iload_n 2) := by decide +kernel
theorem f_Psa_psalmSung_38 : fch r_Psa_psalmSung.2.1 38 = some (.invokevirtual 76) := by decide +kernel
theorem f_Psa_psalmSung_41 : fch r_Psa_psalmSung.2.1 41 = some (.istore 6) := by decide +kernel
theorem f_Psa_psalmSung_43 : fch r_Psa_psalmSung.2.1 43 = some (.iload 4) := by decide +kernel
theorem f_Psa_psalmSung_45 : fch r_Psa_psalmSung.2.1 45 = some (.iload 6) := by decide +kernel
theorem f_Psa_psalmSung_47 : fch r_Psa_psalmSung.2.1 47 = some (.if_icmp .ge 34) := by decide +kernel
theorem f_Psa_psalmSung_50 : fch r_Psa_psalmSung.2.1 50 = some (.iload 5) := by decide +kernel
theorem f_Psa_psalmSung_52 : fch r_Psa_psalmSung.2.1 52 = some (.ifCond .eq 20) := by decide +kernel
theorem f_Psa_psalmSung_55 : fch r_Psa_psalmSung.2.1 55 = some (.aload_n 0) := by decide +kernel
theorem f_Psa_psalmSung_56 : fch r_Psa_psalmSung.2.1 56 = some (.getfield 18) := by decide +kernel
theorem f_Psa_psalmSung_59 : fch r_Psa_psalmSung.2.1 59 = some (.iload_n 2) := by decide +kernel
theorem f_Psa_psalmSung_60 : fch r_Psa_psalmSung.2.1 60 = some (.bipush 6) := by decide +kernel
theorem f_Psa_psalmSung_62 : fch r_Psa_psalmSung.2.1 62 = some (.imul) := by decide +kernel
theorem f_Psa_psalmSung_63 : fch r_Psa_psalmSung.2.1 63 = some (.iload 4) := by decide +kernel
theorem f_Psa_psalmSung_65 : fch r_Psa_psalmSung.2.1 65 = some (.iadd) := by decide +kernel
theorem f_Psa_psalmSung_66 : fch r_Psa_psalmSung.2.1 66 = some (.invokestatic 48) := by decide +kernel
theorem f_Psa_psalmSung_69 : fch r_Psa_psalmSung.2.1 69 = some (.goto 11) := by decide +kernel
theorem f_Psa_psalmSung_72 : fch r_Psa_psalmSung.2.1 72 = some (.aload_n 0) := by decide +kernel
theorem f_Psa_psalmSung_73 : fch r_Psa_psalmSung.2.1 73 = some (.iload_n 1) := by decide +kernel
theorem f_Psa_psalmSung_74 : fch r_Psa_psalmSung.2.1 74 = some (.iload_n 2) := by decide +kernel
theorem f_Psa_psalmSung_75 : fch r_Psa_psalmSung.2.1 75 = some (.iload 4) := by decide +kernel
theorem f_Psa_psalmSung_77 : fch r_Psa_psalmSung.2.1 77 = some (.invokevirtual 72) := by decide +kernel
theorem f_Psa_psalmSung_80 : fch r_Psa_psalmSung.2.1 80 = some (.ireturn) := by decide +kernel
theorem f_Psa_psalmSung_81 : fch r_Psa_psalmSung.2.1 81 = some (.aload_n 0) := by decide +kernel
theorem f_Psa_psalmSung_82 : fch r_Psa_psalmSung.2.1 82 = some (.iload_n 2) := by decide +kernel
theorem f_Psa_psalmSung_83 : fch r_Psa_psalmSung.2.1 83 = some (.iload 4) := by decide +kernel
theorem f_Psa_psalmSung_85 : fch r_Psa_psalmSung.2.1 85 = some (.iload 6) := by decide +kernel
theorem f_Psa_psalmSung_87 : fch r_Psa_psalmSung.2.1 87 = some (.isub) := by decide +kernel
theorem f_Psa_psalmSung_88 : fch r_Psa_psalmSung.2.1 88 = some (.invokevirtual 84) := by decide +kernel
theorem f_Psa_psalmSung_91 : fch r_Psa_psalmSung.2.1 91 = some (.ireturn) := by decide +kernel
theorem f_Psa_isFestive_0 : fch r_Psa_isFestive.2.1 0 = some (.iload_n 2) := by decide +kernel
theorem f_Psa_isFestive_1 : fch r_Psa_isFestive.2.1 1 = some (.aload_n 0) := by decide +kernel
theorem f_Psa_isFestive_2 : fch r_Psa_isFestive.2.1 2 = some (.getfield 37) := by decide +kernel
theorem f_Psa_isFestive_5 : fch r_Psa_isFestive.2.1 5 = some (.if_icmp .lt 18) := by decide +kernel
theorem f_Psa_isFestive_8 : fch r_Psa_isFestive.2.1 8 = some (.aload_n 0) := by decide +kernel
theorem f_Psa_isFestive_9 : fch r_Psa_isFestive.2.1 9 = some (.getfield 21) := by decide +kernel
theorem f_Psa_isFestive_12 : fch r_Psa_isFestive.2.1 12 = some (.iload_n 1) := by decide +kernel
theorem f_Psa_isFestive_13 : fch r_Psa_isFestive.2.1 13 = some (.invokestatic 48) := by decide +kernel
theorem f_Psa_isFestive_16 : fch r_Psa_isFestive.2.1 16 = some (.ifCond .le 7) := by decide +kernel
theorem f_Psa_isFestive_19 : fch r_Psa_isFestive.2.1 19 = some (.iconst 1) := by decide +kernel
theorem f_Psa_isFestive_20 : fch r_Psa_isFestive.2.1 20 = some (.goto 4) := by decide +kernel
theorem f_Psa_isFestive_23 : fch r_Psa_isFestive.2.1 23 = some (.iconst 0) := by decide +kernel
theorem f_Psa_isFestive_24 : fch r_Psa_isFestive.2.1 24 = some (.ireturn) := by decide +kernel
theorem f_Psa_fixedPsalm_0 : fch r_Psa_fixedPsalm.2.1 0 = some (.iload_n 2) := by decide +kernel
theorem f_Psa_fixedPsalm_1 : fch r_Psa_fixedPsalm.2.1 1 = some (.istore_n 3) := by decide +kernel
theorem f_Psa_fixedPsalm_2 : fch r_Psa_fixedPsalm.2.1 2 = some (.iconst 1) := by decide +kernel
theorem f_Psa_fixedPsalm_3 : fch r_Psa_fixedPsalm.2.1 3 = some (.istore 4) := by decide +kernel
theorem f_Psa_fixedPsalm_5 : fch r_Psa_fixedPsalm.2.1 5 = some (.iload 4) := by decide +kernel
theorem f_Psa_fixedPsalm_7 : fch r_Psa_fixedPsalm.2.1 7 = some (.sipush 150) := by decide +kernel
theorem f_Psa_fixedPsalm_10 : fch r_Psa_fixedPsalm.2.1 10 = some (.if_icmp .gt 32) := by decide +kernel
theorem f_Psa_fixedPsalm_13 : fch r_Psa_fixedPsalm.2.1 13 = some (.aload_n 0) := by decide +kernel
theorem f_Psa_fixedPsalm_14 : fch r_Psa_fixedPsalm.2.1 14 = some (.getfield 15) := by decide +kernel
theorem f_Psa_fixedPsalm_17 : fch r_Psa_fixedPsalm.2.1 17 = some (.iload 4) := by decide +kernel
theorem f_Psa_fixedPsalm_19 : fch r_Psa_fixedPsalm.2.1 19 = some (.invokestatic 48) := by decide +kernel
theorem f_Psa_fixedPsalm_22 : fch r_Psa_fixedPsalm.2.1 22 = some (.iload_n 1) := by decide +kernel
theorem f_Psa_fixedPsalm_23 : fch r_Psa_fixedPsalm.2.1 23 = some (.if_icmp .ne 13) := by decide +kernel
theorem f_Psa_fixedPsalm_26 : fch r_Psa_fixedPsalm.2.1 26 = some (.iload_n 3) := by decide +kernel
theorem f_Psa_fixedPsalm_27 : fch r_Psa_fixedPsalm.2.1 27 = some (.ifCond .ne 6) := by decide +kernel
theorem f_Psa_fixedPsalm_30 : fch r_Psa_fixedPsalm.2.1 30 = some (.iload 4) := by decide +kernel
theorem f_Psa_fixedPsalm_32 : fch r_Psa_fixedPsalm.2.1 32 = some (.ireturn) := by decide +kernel
theorem f_Psa_fixedPsalm_33 : fch r_Psa_fixedPsalm.2.1 33 = some (.iinc 3 (-1)) := by decide +kernel
theorem f_Psa_fixedPsalm_36 : fch r_Psa_fixedPsalm.2.1 36 = some (.iinc 4 1) := by decide +kernel
theorem f_Psa_fixedPsalm_39 : fch r_Psa_fixedPsalm.2.1 39 = some (.goto (-34)) := by decide +kernel
theorem f_Psa_fixedPsalm_42 : fch r_Psa_fixedPsalm.2.1 42 = some (.iconst (-1)) := by decide +kernel
theorem f_Psa_fixedPsalm_43 : fch r_Psa_fixedPsalm.2.1 43 = some (.ireturn) := by decide +kernel
theorem f_Bk_times_0 : fch r_Bk_times.2.1 0 = some (.aload_n 0) := by decide +kernel
theorem f_Bk_times_1 : fch r_Bk_times.2.1 1 = some (.getfield 35) := by decide +kernel
theorem f_Bk_times_4 : fch r_Bk_times.2.1 4 = some (.iload 4) := by decide +kernel
theorem f_Bk_times_6 : fch r_Bk_times.2.1 6 = some (.invokevirtual 181) := by decide +kernel
theorem f_Bk_times_9 : fch r_Bk_times.2.1 9 = some (.ifCond .eq 32) := by decide +kernel
theorem f_Bk_times_12 : fch r_Bk_times.2.1 12 = some (.aload_n 0) := by decide +kernel
theorem f_Bk_times_13 : fch r_Bk_times.2.1 13 = some (.getfield 28) := by decide +kernel
theorem f_Bk_times_16 : fch r_Bk_times.2.1 16 = some (.iload_n 1) := by decide +kernel
theorem f_Bk_times_17 : fch r_Bk_times.2.1 17 = some (.iload_n 2) := by decide +kernel
theorem f_Bk_times_18 : fch r_Bk_times.2.1 18 = some (.invokevirtual 107) := by decide +kernel
theorem f_Bk_times_21 : fch r_Bk_times.2.1 21 = some (.ifCond .eq 20) := by decide +kernel
theorem f_Bk_times_24 : fch r_Bk_times.2.1 24 = some (.aload_n 0) := by decide +kernel
theorem f_Bk_times_25 : fch r_Bk_times.2.1 25 = some (.getfield 28) := by decide +kernel
theorem f_Bk_times_28 : fch r_Bk_times.2.1 28 = some (.iload_n 1) := by decide +kernel
theorem f_Bk_times_29 : fch r_Bk_times.2.1 29 = some (.iload_n 3) := by decide +kernel
theorem f_Bk_times_30 : fch r_Bk_times.2.1 30 = some (.invokevirtual 107) := by decide +kernel
theorem f_Bk_times_33 : fch r_Bk_times.2.1 33 = some (.ifCond .eq 8) := by decide +kernel
theorem f_Bk_times_36 : fch r_Bk_times.2.1 36 = some (.iload_n 2) := by decide +kernel
theorem f_Bk_times_37 : fch r_Bk_times.2.1 37 = some (.iload_n 3) := by decide +kernel
theorem f_Bk_times_38 : fch r_Bk_times.2.1 38 = some (.if_icmp .le 5) := by decide +kernel
theorem f_Bk_times_41 : fch r_Bk_times.2.1 41 = some (.iconst (-1)) := by decide +kernel
theorem f_Bk_times_42 : fch r_Bk_times.2.1 42 = some (.ireturn) := by decide +kernel
theorem f_Bk_times_43 : fch r_Bk_times.2.1 43 = some (.iconst 0) := by decide +kernel
theorem f_Bk_times_44 : fch r_Bk_times.2.1 44 = some (.istore 5) := by decide +kernel
theorem f_Bk_times_46 : fch r_Bk_times.2.1 46 = some (.iload_n 2) := by decide +kernel
theorem f_Bk_times_47 : fch r_Bk_times.2.1 47 = some (.istore 6) := by decide +kernel
theorem f_Bk_times_49 : fch r_Bk_times.2.1 49 = some (.iload 6) := by decide +kernel
theorem f_Bk_times_51 : fch r_Bk_times.2.1 51 = some (.iload_n 3) := by decide +kernel
theorem f_Bk_times_52 : fch r_Bk_times.2.1 52 = some (.if_icmp .gt 41) := by decide +kernel
theorem f_Bk_times_55 : fch r_Bk_times.2.1 55 = some (.iload 5) := by decide +kernel
theorem f_Bk_times_57 : fch r_Bk_times.2.1 57 = some (.aload_n 0) := by decide +kernel
theorem f_Bk_times_58 : fch r_Bk_times.2.1 58 = some (.getfield 35) := by decide +kernel
theorem f_Bk_times_61 : fch r_Bk_times.2.1 61 = some (.aload_n 0) := by decide +kernel
theorem f_Bk_times_62 : fch r_Bk_times.2.1 62 = some (.getfield 28) := by decide +kernel
theorem f_Bk_times_65 : fch r_Bk_times.2.1 65 = some (.iload 6) := by decide +kernel
theorem f_Bk_times_67 : fch r_Bk_times.2.1 67 = some (.invokevirtual 171) := by decide +kernel
theorem f_Bk_times_70 : fch r_Bk_times.2.1 70 = some (.aload_n 0) := by decide +kernel
theorem f_Bk_times_71 : fch r_Bk_times.2.1 71 = some (.getfield 28) := by decide +kernel
theorem f_Bk_times_74 : fch r_Bk_times.2.1 74 = some (.iload 6) := by decide +kernel
theorem f_Bk_times_76 : fch r_Bk_times.2.1 76 = some (.invokevirtual 174) := by decide +kernel
theorem f_Bk_times_79 : fch r_Bk_times.2.1 79 = some (.iload 4) := by decide +kernel
theorem f_Bk_times_81 : fch r_Bk_times.2.1 81 = some (.invokevirtual 184) := by decide +kernel
theorem f_Bk_times_84 : fch r_Bk_times.2.1 84 = some (.iadd) := by decide +kernel
theorem f_Bk_times_85 : fch r_Bk_times.2.1 85 = some (.istore 5) := by decide +kernel
theorem f_Bk_times_87 : fch r_Bk_times.2.1 87 = some (.iinc 6 1) := by decide +kernel
theorem f_Bk_times_90 : fch r_Bk_times.2.1 90 = some (.goto (-41)) := by decide +kernel
theorem f_Bk_times_93 : fch r_Bk_times.2.1 93 = some (.iload 5) := by decide +kernel
theorem f_Bk_times_95 : fch r_Bk_times.2.1 95 = some (.ireturn) := by decide +kernel
theorem f_Psa_timesSung_0 : fch r_Psa_timesSung.2.1 0 = some (.aload_n 0) := by decide +kernel
theorem f_Psa_timesSung_1 : fch r_Psa_timesSung.2.1 1 = some (.invokevirtual 66) := by decide +kernel
theorem f_Psa_timesSung_4 : fch r_Psa_timesSung.2.1 4 = some (.aload_n 0) := by decide +kernel
theorem f_Psa_timesSung_5 : fch r_Psa_timesSung.2.1 5 = some (.getfield 15) := by decide +kernel
theorem f_Psa_timesSung_8 : fch r_Psa_timesSung.2.1 8 = some (.iload_n 3) := by decide +kernel
theorem f_Psa_timesSung_9 : fch r_Psa_timesSung.2.1 9 = some (.invokestatic 48) := by decide +kernel
theorem f_Psa_timesSung_12 : fch r_Psa_timesSung.2.1 12 = some (.iconst (-1)) := by decide +kernel
theorem f_Psa_timesSung_13 : fch r_Psa_timesSung.2.1 13 = some (.if_icmp .ne 7) := by decide +kernel
theorem f_Psa_timesSung_16 : fch r_Psa_timesSung.2.1 16 = some (.iconst 0) := by decide +kernel
theorem f_Psa_timesSung_17 : fch r_Psa_timesSung.2.1 17 = some (.goto 4) := by decide +kernel
theorem f_Psa_timesSung_20 : fch r_Psa_timesSung.2.1 20 = some (.iconst 1) := by decide +kernel
theorem f_Psa_timesSung_21 : fch r_Psa_timesSung.2.1 21 = some (.istore 4) := by decide +kernel
theorem f_Psa_timesSung_23 : fch r_Psa_timesSung.2.1 23 = some (.iconst 0) := by decide +kernel
theorem f_Psa_timesSung_24 : fch r_Psa_timesSung.2.1 24 = some (.istore 5) := by decide +kernel
theorem f_Psa_timesSung_26 : fch r_Psa_timesSung.2.1 26 = some (.iload 5) := by decide +kernel
theorem f_Psa_timesSung_28 : fch r_Psa_timesSung.2.1 28 = some (.aload_n 0) := by decide +kernel
theorem f_Psa_timesSung_29 : fch r_Psa_timesSung.2.1 29 = some (.getfield 33) := by decide +kernel
theorem f_Psa_timesSung_32 : fch r_Psa_timesSung.2.1 32 = some (.if_icmp .ge 57) := by decide +kernel
theorem f_Psa_timesSung_35 : fch r_Psa_timesSung.2.1 35 = some (.aload_n 0) := by decide +kernel
theorem f_Psa_timesSung_36 : fch r_Psa_timesSung.2.1 36 = some (.iload 5) := by decide +kernel
theorem f_Psa_timesSung_38 : fch r_Psa_timesSung.2.1 38 = some (.iload_n 2) := by decide +kernel
theorem f_Psa_timesSung_39 : fch r_Psa_timesSung.2.1 39 = some (.invokevirtual 80) := by decide +kernel
theorem f_Psa_timesSung_42 : fch r_Psa_timesSung.2.1 42 = some (.ifCond .eq 18) := by decide +kernel
theorem f_Psa_timesSung_45 : fch r_Psa_timesSung.2.1 45 = some (.iload 4) := by decide +kernel
theorem f_Psa_timesSung_47 : fch r_Psa_timesSung.2.1 47 = some (.aload_n 0) := by decide +kernel
theorem f_Psa_timesSung_48 : fch r_Psa_timesSung.2.1 48 = some (.iload 5) := by decide +kernel
theorem f_Psa_timesSung_50 : fch r_Psa_timesSung.2.1 50 = some (.iload_n 3) := by decide +kernel
theorem f_Psa_timesSung_51 : fch r_Psa_timesSung.2.1 51 = some (.invokevirtual 87) := by decide +kernel
theorem f_Psa_timesSung_54 : fch r_Psa_timesSung.2.1 54 = some (.iadd) := by decide +kernel
theorem f_Psa_timesSung_55 : fch r_Psa_timesSung.2.1 55 = some (.istore 4) := by decide +kernel
theorem f_Psa_timesSung_57 : fch r_Psa_timesSung.2.1 57 = some (.goto 26) := by decide +kernel
theorem f_Psa_timesSung_60 : fch r_Psa_timesSung.2.1 60 = some (.aload_n 0) := by decide +kernel
theorem f_Psa_timesSung_61 : fch r_Psa_timesSung.2.1 61 = some (.getfield 30) := by decide +kernel
theorem f_Psa_timesSung_64 : fch r_Psa_timesSung.2.1 64 = some (.iload_n 3) := by decide +kernel
theorem f_Psa_timesSung_65 : fch r_Psa_timesSung.2.1 65 = some (.invokestatic 48) := by decide +kernel
theorem f_Psa_timesSung_68 : fch r_Psa_timesSung.2.1 68 = some (.iload_n 1) := by decide +kernel
theorem f_Psa_timesSung_69 : fch r_Psa_timesSung.2.1 69 = some (.aload_n 0) := by decide +kernel
theorem f_Psa_timesSung_70 : fch r_Psa_timesSung.2.1 70 = some (.getfield 33) := by decide +kernel
theorem f_Psa_timesSung_73 : fch r_Psa_timesSung.2.1 73 = some (.imul) := by decide +kernel
theorem f_Psa_timesSung_74 : fch r_Psa_timesSung.2.1 74 = some (.iload 5) := by decide +kernel
theorem f_Psa_timesSung_76 : fch r_Psa_timesSung.2.1 76 = some (.iadd) := by decide +kernel
theorem f_Psa_timesSung_77 : fch r_Psa_timesSung.2.1 77 = some (.if_icmp .ne 6) := by decide +kernel
theorem f_Psa_timesSung_80 : fch r_Psa_timesSung.2.1 80 = some (.iinc 4 1) := by decide +kernel
theorem f_Psa_timesSung_83 : fch r_Psa_timesSung.2.1 83 = some (.iinc 5 1) := by decide +kernel
theorem f_Psa_timesSung_86 : fch r_Psa_timesSung.2.1 86 = some (.goto (-60)) := by decide +kernel
theorem f_Psa_timesSung_89 : fch r_Psa_timesSung.2.1 89 = some (.iload 4) := by decide +kernel
theorem f_Psa_timesSung_91 : fch r_Psa_timesSung.2.1 91 = some (.ireturn) := by decide +kernel
theorem f_Psa_countFestal_0 : fch r_Psa_countFestal.2.1 0 = some (.iconst 0) := by decide +kernel
theorem f_Psa_countFestal_1 : fch r_Psa_countFestal.2.1 1 = some (.istore_n 3) := by decide +kernel
theorem f_Psa_countFestal_2 : fch r_Psa_countFestal.2.1 2 = some (.aload_n 0) := by decide +kernel
theorem f_Psa_countFestal_3 : fch r_Psa_countFestal.2.1 3 = some (.getfield 21) := by decide +kernel
theorem f_Psa_countFestal_6 : fch r_Psa_countFestal.2.1 6 = some (.iload_n 1) := by decide +kernel
theorem f_Psa_countFestal_7 : fch r_Psa_countFestal.2.1 7 = some (.invokestatic 48) := by decide +kernel
theorem f_Psa_countFestal_10 : fch r_Psa_countFestal.2.1 10 = some (.istore 4) := by decide +kernel
theorem f_Psa_countFestal_12 : fch r_Psa_countFestal.2.1 12 = some (.iconst 0) := by decide +kernel
theorem f_Psa_countFestal_13 : fch r_Psa_countFestal.2.1 13 = some (.istore 5) := by decide +kernel
theorem f_Psa_countFestal_15 : fch r_Psa_countFestal.2.1 15 = some (.iload 5) := by decide +kernel
theorem f_Psa_countFestal_17 : fch r_Psa_countFestal.2.1 17 = some (.iload 4) := by decide +kernel
theorem f_Psa_countFestal_19 : fch r_Psa_countFestal.2.1 19 = some (.if_icmp .ge 30) := by decide +kernel
theorem f_Psa_countFestal_22 : fch r_Psa_countFestal.2.1 22 = some (.aload_n 0) := by decide +kernel
theorem f_Psa_countFestal_23 : fch r_Psa_countFestal.2.1 23 = some (.getfield 18) := by decide +kernel
theorem f_Psa_countFestal_26 : fch r_Psa_countFestal.2.1 26 = some (.iload_n 1) := by decide +kernel
theorem f_Psa_countFestal_27 : fch r_Psa_countFestal.2.1 27 = some (.bipush 6) := by decide +kernel
theorem f_Psa_countFestal_29 : fch r_Psa_countFestal.2.1 29 = some (.imul) := by decide +kernel
theorem f_Psa_countFestal_30 : fch r_Psa_countFestal.2.1 30 = some (.iload 5) := by decide +kernel
theorem f_Psa_countFestal_32 : fch r_Psa_countFestal.2.1 32 = some (.iadd) := by decide +kernel
theorem f_Psa_countFestal_33 : fch r_Psa_countFestal.2.1 33 = some (.invokestatic 48) := by decide +kernel
theorem f_Psa_countFestal_36 : fch r_Psa_countFestal.2.1 36 = some (.iload_n 2) := by decide +kernel
theorem f_Psa_countFestal_37 : fch r_Psa_countFestal.2.1 37 = some (.if_icmp .ne 6) := by decide +kernel
theorem f_Psa_countFestal_40 : fch r_Psa_countFestal.2.1 40 = some (.iinc 3 1) := by decide +kernel
theorem f_Psa_countFestal_43 : fch r_Psa_countFestal.2.1 43 = some (.iinc 5 1) := by decide +kernel
theorem f_Psa_countFestal_46 : fch r_Psa_countFestal.2.1 46 = some (.goto (-31)) := by decide +kernel
theorem f_Psa_countFestal_49 : fch r_Psa_countFestal.2.1 49 = some (.iload_n 3) := by decide +kernel
theorem f_Psa_countFestal_50 : fch r_Psa_countFestal.2.1 50 = some (.ireturn) := by decide +kernel
theorem f_Bk_tenor_0 : fch r_Bk_tenor.2.1 0 = some (.aload_n 0) := by decide +kernel
theorem f_Bk_tenor_1 : fch r_Bk_tenor.2.1 1 = some (.iload_n 1) := by decide +kernel
theorem f_Bk_tenor_2 : fch r_Bk_tenor.2.1 2 = some (.invokevirtual 187) := by decide +kernel
theorem f_Bk_tenor_5 : fch r_Bk_tenor.2.1 5 = some (.astore_n 3) := by decide +kernel
theorem f_Bk_tenor_6 : fch r_Bk_tenor.2.1 6 = some (.aload_n 3) := by decide +kernel
theorem f_Bk_tenor_7 : fch r_Bk_tenor.2.1 7 = some (.ifnonnull 7) := by decide +kernel
theorem f_Bk_tenor_10 : fch r_Bk_tenor.2.1 10 = some (.iconst (-1)) := by decide +kernel
theorem f_Bk_tenor_11 : fch r_Bk_tenor.2.1 11 = some (.goto 8) := by decide +kernel
theorem f_Bk_tenor_14 : fch r_Bk_tenor.2.1 14 = some (.aload_n 3) := by decide +kernel
theorem f_Bk_tenor_15 : fch r_Bk_tenor.2.1 15 = some (.iload_n 2) := by decide +kernel
theorem f_Bk_tenor_16 : fch r_Bk_tenor.2.1 16 = some (.invokevirtual 191) := by decide +kernel
theorem f_Bk_tenor_19 : fch r_Bk_tenor.2.1 19 = some (.ireturn) := by decide +kernel
theorem f_Bk_toneOf_0 : fch r_Bk_toneOf.2.1 0 = some (.iload_n 1) := by decide +kernel
theorem f_Bk_toneOf_1 : fch r_Bk_toneOf.2.1 1 = some (.ifCond .lt 21) := by decide +kernel
theorem f_Bk_toneOf_4 : fch r_Bk_toneOf.2.1 4 = some (.iload_n 1) := by decide +kernel
theorem f_Bk_toneOf_5 : fch r_Bk_toneOf.2.1 5 = some (.aload_n 0) := by decide +kernel
theorem f_Bk_toneOf_6 : fch r_Bk_toneOf.2.1 6 = some (.getfield 41) := by decide +kernel
theorem f_Bk_toneOf_9 : fch r_Bk_toneOf.2.1 9 = some (.arraylength) := by decide +kernel
theorem f_Bk_toneOf_10 : fch r_Bk_toneOf.2.1 10 = some (.if_icmp .ge 12) := by decide +kernel
theorem f_Bk_toneOf_13 : fch r_Bk_toneOf.2.1 13 = some (.aload_n 0) := by decide +kernel
theorem f_Bk_toneOf_14 : fch r_Bk_toneOf.2.1 14 = some (.getfield 41) := by decide +kernel
theorem f_Bk_toneOf_17 : fch r_Bk_toneOf.2.1 17 = some (.iload_n 1) := by decide +kernel
theorem f_Bk_toneOf_18 : fch r_Bk_toneOf.2.1 18 = some (.aaload) := by decide +kernel
theorem f_Bk_toneOf_19 : fch r_Bk_toneOf.2.1 19 = some (.goto 4) := by decide +kernel
theorem f_Bk_toneOf_22 : fch r_Bk_toneOf.2.1 22 = some (.aconst_null) := by decide +kernel
theorem f_Bk_toneOf_23 : fch r_Bk_toneOf.2.1 23 = some (.areturn) := by decide +kernel
theorem f_Ton_setTenor_0 : fch r_Ton_setTenor.2.1 0 = some (.iload_n 1) := by decide +kernel
theorem f_Ton_setTenor_1 : fch r_Ton_setTenor.2.1 1 = some (.invokestatic 29) := by decide +kernel
theorem f_Ton_setTenor_4 : fch r_Ton_setTenor.2.1 4 = some (.ifCond .ne 5) := by decide +kernel
theorem f_Ton_setTenor_7 : fch r_Ton_setTenor.2.1 7 = some (.iconst (-1)) := by decide +kernel
theorem f_Ton_setTenor_8 : fch r_Ton_setTenor.2.1 8 = some (.ireturn) := by decide +kernel
theorem f_Ton_setTenor_9 : fch r_Ton_setTenor.2.1 9 = some (.aload_n 0) := by decide +kernel
theorem f_Ton_setTenor_10 : fch r_Ton_setTenor.2.1 10 = some (.iload_n 1) := by decide +kernel
theorem f_Ton_setTenor_11 : fch r_Ton_setTenor.2.1 11 = some (.putfield 33) := by decide +kernel
theorem f_Ton_setTenor_14 : fch r_Ton_setTenor.2.1 14 = some (.iconst 0) := by decide +kernel
theorem f_Ton_setTenor_15 : fch r_Ton_setTenor.2.1 15 = some (.ireturn) := by decide +kernel
theorem f_Ton_isNote_0 : fch r_Ton_isNote.2.1 0 = some (.iload_n 0) := by decide +kernel
theorem f_Ton_isNote_1 : fch r_Ton_isNote.2.1 1 = some (.iconst 0) := by decide +kernel
theorem f_Ton_isNote_2 : fch r_Ton_isNote.2.1 2 = some (.bipush 30) := by decide +kernel
theorem f_Ton_isNote_4 : fch r_Ton_isNote.2.1 4 = some (.invokestatic 25) := by decide +kernel
theorem f_Ton_isNote_7 : fch r_Ton_isNote.2.1 7 = some (.ireturn) := by decide +kernel
theorem f_Bk_note_0 : fch r_Bk_note.2.1 0 = some (.aload_n 0) := by decide +kernel
theorem f_Bk_note_1 : fch r_Bk_note.2.1 1 = some (.iload_n 1) := by decide +kernel
theorem f_Bk_note_2 : fch r_Bk_note.2.1 2 = some (.invokevirtual 187) := by decide +kernel
theorem f_Bk_note_5 : fch r_Bk_note.2.1 5 = some (.astore 4) := by decide +kernel
theorem f_Bk_note_7 : fch r_Bk_note.2.1 7 = some (.aload 4) := by decide +kernel
theorem f_Bk_note_9 : fch r_Bk_note.2.1 9 = some (.ifnonnull 7) := by decide +kernel
theorem f_Bk_note_12 : fch r_Bk_note.2.1 12 = some (.iconst (-1)) := by decide +kernel
theorem f_Bk_note_13 : fch r_Bk_note.2.1 13 = some (.goto 10) := by decide +kernel
theorem f_Bk_note_16 : fch r_Bk_note.2.1 16 = some (.aload 4) := by decide +kernel
theorem f_Bk_note_18 : fch r_Bk_note.2.1 18 = some (.iload_n 2) := by decide +kernel
theorem f_Bk_note_19 : fch r_Bk_note.2.1 19 = some (.iload_n 3) := by decide +kernel
theorem f_Bk_note_20 : fch r_Bk_note.2.1 20 = some (.invokevirtual 194) := by decide +kernel
theorem f_Bk_note_23 : fch r_Bk_note.2.1 23 = some (.ireturn) := by decide +kernel
theorem f_Ton_addNote_0 : fch r_Ton_addNote.2.1 0 = some (.iload_n 2) := by decide +kernel
theorem f_Ton_addNote_1 : fch r_Ton_addNote.2.1 1 = some (.invokestatic 29) := by decide +kernel
theorem f_Ton_addNote_4 : fch r_Ton_addNote.2.1 4 = some (.ifCond .ne 5) := by decide +kernel
theorem f_Ton_addNote_7 : fch r_Ton_addNote.2.1 7 = some (.iconst (-1)) := by decide +kernel
theorem f_Ton_addNote_8 : fch r_Ton_addNote.2.1 8 = some (.ireturn) := by decide +kernel
theorem f_Ton_addNote_9 : fch r_Ton_addNote.2.1 9 = some (.iload_n 1) := by decide +kernel
theorem f_Ton_addNote_10 : fch r_Ton_addNote.2.1 10 = some (.tableswitch 50 0 2 #[26, 32, 41]) := by decide +kernel
theorem f_Ton_addNote_36 : fch r_Ton_addNote.2.1 36 = some (.aload_n 0) := by decide +kernel
theorem f_Ton_addNote_37 : fch r_Ton_addNote.2.1 37 = some (.iload_n 2) := by decide +kernel
theorem f_Ton_addNote_38 : fch r_Ton_addNote.2.1 38 = some (.invokevirtual 37) := by decide +kernel
theorem f_Ton_addNote_41 : fch r_Ton_addNote.2.1 41 = some (.ireturn) := by decide +kernel
theorem f_Ton_addNote_42 : fch r_Ton_addNote.2.1 42 = some (.aload_n 0) := by decide +kernel
theorem f_Ton_addNote_43 : fch r_Ton_addNote.2.1 43 = some (.getfield 18) := by decide +kernel
theorem f_Ton_addNote_46 : fch r_Ton_addNote.2.1 46 = some (.iload_n 2) := by decide +kernel
theorem f_Ton_addNote_47 : fch r_Ton_addNote.2.1 47 = some (.invokevirtual 41) := by decide +kernel
theorem f_Ton_addNote_50 : fch r_Ton_addNote.2.1 50 = some (.ireturn) := by decide +kernel
theorem f_Ton_addNote_51 : fch r_Ton_addNote.2.1 51 = some (.aload_n 0) := by decide +kernel
theorem f_Ton_addNote_52 : fch r_Ton_addNote.2.1 52 = some (.getfield 22) := by decide +kernel
theorem f_Ton_addNote_55 : fch r_Ton_addNote.2.1 55 = some (.iload_n 2) := by decide +kernel
theorem f_Ton_addNote_56 : fch r_Ton_addNote.2.1 56 = some (.invokevirtual 41) := by decide +kernel
theorem f_Ton_addNote_59 : fch r_Ton_addNote.2.1 59 = some (.ireturn) := by decide +kernel
theorem f_Ton_addNote_60 : fch r_Ton_addNote.2.1 60 = some (.iconst (-1)) := by decide +kernel
theorem f_Ton_addNote_61 : fch r_Ton_addNote.2.1 61 = some (.ireturn) := by decide +kernel
theorem f_Ton_addIntonation_0 : fch r_Ton_addIntonation.2.1 0 = some (.aload_n 0) := by decide +kernel
theorem f_Ton_addIntonation_1 : fch r_Ton_addIntonation.2.1 1 = some (.getfield 44) := by decide +kernel
theorem f_Ton_addIntonation_4 : fch r_Ton_addIntonation.2.1 4 = some (.iconst 4) := by decide +kernel
theorem f_Ton_addIntonation_5 : fch r_Ton_addIntonation.2.1 5 = some (.if_icmp .lt 5) := by decide +kernel
theorem f_Ton_addIntonation_8 : fch r_Ton_addIntonation.2.1 8 = some (.iconst (-1)) := by decide +kernel
theorem f_Ton_addIntonation_9 : fch r_Ton_addIntonation.2.1 9 = some (.ireturn) := by decide +kernel
theorem f_Ton_addIntonation_10 : fch r_Ton_addIntonation.2.1 10 = some (.aload_n 0) := by decide +kernel
theorem f_Ton_addIntonation_11 : fch r_Ton_addIntonation.2.1 11 = some (.getfield 11) := by decide +kernel
theorem f_Ton_addIntonation_14 : fch r_Ton_addIntonation.2.1 14 = some (.aload_n 0) := by decide +kernel
theorem f_Ton_addIntonation_15 : fch r_Ton_addIntonation.2.1 15 = some (.getfield 44) := by decide +kernel
theorem f_Ton_addIntonation_18 : fch r_Ton_addIntonation.2.1 18 = some (.iload_n 1) := by decide +kernel
theorem f_Ton_addIntonation_19 : fch r_Ton_addIntonation.2.1 19 = some (.invokestatic 47) := by decide +kernel
theorem f_Ton_addIntonation_22 : fch r_Ton_addIntonation.2.1 22 = some (.aload_n 0) := by decide +kernel
theorem f_Ton_addIntonation_23 : fch r_Ton_addIntonation.2.1 23 = some (.dup) := by decide +kernel
theorem f_Ton_addIntonation_24 : fch r_Ton_addIntonation.2.1 24 = some (.getfield 44) := by decide +kernel
theorem f_Ton_addIntonation_27 : fch r_Ton_addIntonation.2.1 27 = some (.iconst 1) := by decide +kernel
theorem f_Ton_addIntonation_28 : fch r_Ton_addIntonation.2.1 28 = some (.iadd) := by decide +kernel
theorem f_Ton_addIntonation_29 : fch r_Ton_addIntonation.2.1 29 = some (.putfield 44) := by decide +kernel
theorem f_Ton_addIntonation_32 : fch r_Ton_addIntonation.2.1 32 = some (.aload_n 0) := by decide +kernel
theorem f_Ton_addIntonation_33 : fch r_Ton_addIntonation.2.1 33 = some (.getfield 44) := by decide +kernel
theorem f_Ton_addIntonation_36 : fch r_Ton_addIntonation.2.1 36 = some (.ireturn) := by decide +kernel
theorem f_Cad_addBefore_0 : fch r_Cad_addBefore.2.1 0 = some (.aload_n 0) := by decide +kernel
theorem f_Cad_addBefore_1 : fch r_Cad_addBefore.2.1 1 = some (.getfield 22) := by decide +kernel
theorem f_Cad_addBefore_4 : fch r_Cad_addBefore.2.1 4 = some (.iconst 3) := by decide +kernel
theorem f_Cad_addBefore_5 : fch r_Cad_addBefore.2.1 5 = some (.if_icmp .lt 5) := by decide +kernel
theorem f_Cad_addBefore_8 : fch r_Cad_addBefore.2.1 8 = some (.iconst (-1)) := by decide +kernel
theorem f_Cad_addBefore_9 : fch r_Cad_addBefore.2.1 9 = some (.ireturn) := by decide +kernel
theorem f_Cad_addBefore_10 : fch r_Cad_addBefore.2.1 10 = some (.aload_n 0) := by decide +kernel
theorem f_Cad_addBefore_11 : fch r_Cad_addBefore.2.1 11 = some (.getfield 11) := by decide +kernel
theorem f_Cad_addBefore_14 : fch r_Cad_addBefore.2.1 14 = some (.aload_n 0) := by decide +kernel
theorem f_Cad_addBefore_15 : fch r_Cad_addBefore.2.1 15 = some (.getfield 22) := by decide +kernel
theorem f_Cad_addBefore_18 : fch r_Cad_addBefore.2.1 18 = some (.iload_n 1) := by decide +kernel
theorem f_Cad_addBefore_19 : fch r_Cad_addBefore.2.1 19 = some (.invokestatic 25) := by decide +kernel
theorem f_Cad_addBefore_22 : fch r_Cad_addBefore.2.1 22 = some (.aload_n 0) := by decide +kernel
theorem f_Cad_addBefore_23 : fch r_Cad_addBefore.2.1 23 = some (.dup) := by decide +kernel
theorem f_Cad_addBefore_24 : fch r_Cad_addBefore.2.1 24 = some (.getfield 22) := by decide +kernel
theorem f_Cad_addBefore_27 : fch r_Cad_addBefore.2.1 27 = some (.iconst 1) := by decide +kernel
theorem f_Cad_addBefore_28 : fch r_Cad_addBefore.2.1 28 = some (.iadd) := by decide +kernel
theorem f_Cad_addBefore_29 : fch r_Cad_addBefore.2.1 29 = some (.putfield 22) := by decide +kernel
theorem f_Cad_addBefore_32 : fch r_Cad_addBefore.2.1 32 = some (.aload_n 0) := by decide +kernel
theorem f_Cad_addBefore_33 : fch r_Cad_addBefore.2.1 33 = some (.getfield 22) := by decide +kernel
theorem f_Cad_addBefore_36 : fch r_Cad_addBefore.2.1 36 = some (.ireturn) := by decide +kernel
theorem f_Bk_accent_0 : fch r_Bk_accent.2.1 0 = some (.aload_n 0) := by decide +kernel
theorem f_Bk_accent_1 : fch r_Bk_accent.2.1 1 = some (.iload_n 1) := by decide +kernel
theorem f_Bk_accent_2 : fch r_Bk_accent.2.1 2 = some (.iload_n 2) := by decide +kernel
theorem f_Bk_accent_3 : fch r_Bk_accent.2.1 3 = some (.invokevirtual 197) := by decide +kernel
theorem f_Bk_accent_6 : fch r_Bk_accent.2.1 6 = some (.astore 7) := by decide +kernel
theorem f_Bk_accent_8 : fch r_Bk_accent.2.1 8 = some (.aload 7) := by decide +kernel
theorem f_Bk_accent_10 : fch r_Bk_accent.2.1 10 = some (.ifnonnull 7) := by decide +kernel
theorem f_Bk_accent_13 : fch r_Bk_accent.2.1 13 = some (.iconst (-1)) := by decide +kernel
theorem f_Bk_accent_14 : fch r_Bk_accent.2.1 14 = some (.goto 15) := by decide +kernel
theorem f_Bk_accent_17 : fch r_Bk_accent.2.1 17 = some (.aload 7) := by decide +kernel
theorem f_Bk_accent_19 : fch r_Bk_accent.2.1 19 = some (.iload_n 3) := by decide +kernel
theorem f_Bk_accent_20 : fch r_Bk_accent.2.1 20 = some (.iload 4) := by decide +kernel
theorem f_Bk_accent_22 : fch r_Bk_accent.2.1 22 = some (.iload 5) := by decide +kernel
theorem f_Bk_accent_24 : fch r_Bk_accent.2.1 24 = some (.iload 6) := by decide +kernel
theorem f_Bk_accent_26 : fch r_Bk_accent.2.1 26 = some (.invokevirtual 201) := by decide +kernel
theorem f_Bk_accent_29 : fch r_Bk_accent.2.1 29 = some (.ireturn) := by decide +kernel
theorem f_Bk_cadenceOf_0 : fch r_Bk_cadenceOf.2.1 0 = some (.aload_n 0) := by decide +kernel
theorem f_Bk_cadenceOf_1 : fch r_Bk_cadenceOf.2.1 1 = some (.iload_n 1) := by decide +kernel
theorem f_Bk_cadenceOf_2 : fch r_Bk_cadenceOf.2.1 2 = some (.invokevirtual 187) := by decide +kernel
theorem f_Bk_cadenceOf_5 : fch r_Bk_cadenceOf.2.1 5 = some (.astore_n 3) := by decide +kernel
theorem f_Bk_cadenceOf_6 : fch r_Bk_cadenceOf.2.1 6 = some (.aload_n 3) := by decide +kernel
theorem f_Bk_cadenceOf_7 : fch r_Bk_cadenceOf.2.1 7 = some (.ifnonnull 7) := by decide +kernel
theorem f_Bk_cadenceOf_10 : fch r_Bk_cadenceOf.2.1 10 = some (.aconst_null) := by decide +kernel
theorem f_Bk_cadenceOf_11 : fch r_Bk_cadenceOf.2.1 11 = some (.goto 8) := by decide +kernel
theorem f_Bk_cadenceOf_14 : fch r_Bk_cadenceOf.2.1 14 = some (.aload_n 3) := by decide +kernel
theorem f_Bk_cadenceOf_15 : fch r_Bk_cadenceOf.2.1 15 = some (.iload_n 2) := by decide +kernel
theorem f_Bk_cadenceOf_16 : fch r_Bk_cadenceOf.2.1 16 = some (.invokevirtual 249) := by decide +kernel
theorem f_Bk_cadenceOf_19 : fch r_Bk_cadenceOf.2.1 19 = some (.areturn) := by decide +kernel
theorem f_Ton_cadenceAt_0 : fch r_Ton_cadenceAt.2.1 0 = some (.iload_n 1) := by decide +kernel
theorem f_Ton_cadenceAt_1 : fch r_Ton_cadenceAt.2.1 1 = some (.lookupswitch 37 #[(0, 27), (1, 32)]) := by decide +kernel
theorem f_Ton_cadenceAt_28 : fch r_Ton_cadenceAt.2.1 28 = some (.aload_n 0) := by decide +kernel
theorem f_Ton_cadenceAt_29 : fch r_Ton_cadenceAt.2.1 29 = some (.getfield 18) := by decide +kernel
theorem f_Ton_cadenceAt_32 : fch r_Ton_cadenceAt.2.1 32 = some (.areturn) := by decide +kernel
theorem f_Ton_cadenceAt_33 : fch r_Ton_cadenceAt.2.1 33 = some (.aload_n 0) := by decide +kernel
theorem f_Ton_cadenceAt_34 : fch r_Ton_cadenceAt.2.1 34 = some (.getfield 22) := by decide +kernel
theorem f_Ton_cadenceAt_37 : fch r_Ton_cadenceAt.2.1 37 = some (.areturn) := by decide +kernel
theorem f_Ton_cadenceAt_38 : fch r_Ton_cadenceAt.2.1 38 = some (.aconst_null) := by decide +kernel
theorem f_Ton_cadenceAt_39 : fch r_Ton_cadenceAt.2.1 39 = some (.areturn) := by decide +kernel
theorem f_Cad_setAccent_0 : fch r_Cad_setAccent.2.1 0 = some (.iload_n 1) := by decide +kernel
theorem f_Cad_setAccent_1 : fch r_Cad_setAccent.2.1 1 = some (.iconst 0) := by decide +kernel
theorem f_Cad_setAccent_2 : fch r_Cad_setAccent.2.1 2 = some (.iconst 1) := by decide +kernel
theorem f_Cad_setAccent_3 : fch r_Cad_setAccent.2.1 3 = some (.invokestatic 29) := by decide +kernel
theorem f_Cad_setAccent_6 : fch r_Cad_setAccent.2.1 6 = some (.ifCond .eq 25) := by decide +kernel
theorem f_Cad_setAccent_9 : fch r_Cad_setAccent.2.1 9 = some (.iload_n 2) := by decide +kernel
theorem f_Cad_setAccent_10 : fch r_Cad_setAccent.2.1 10 = some (.invokestatic 33) := by decide +kernel
theorem f_Cad_setAccent_13 : fch r_Cad_setAccent.2.1 13 = some (.ifCond .eq 18) := by decide +kernel
theorem f_Cad_setAccent_16 : fch r_Cad_setAccent.2.1 16 = some (.iload_n 3) := by decide +kernel
theorem f_Cad_setAccent_17 : fch r_Cad_setAccent.2.1 17 = some (.invokestatic 33) := by decide +kernel
theorem f_Cad_setAccent_20 : fch r_Cad_setAccent.2.1 20 = some (.ifCond .eq 11) := by decide +kernel
theorem f_Cad_setAccent_23 : fch r_Cad_setAccent.2.1 23 = some (.iload 4) := by decide +kernel
theorem f_Cad_setAccent_25 : fch r_Cad_setAccent.2.1 25 = some (.invokestatic 33) := by decide +kernel
theorem f_Cad_setAccent_28 : fch r_Cad_setAccent.2.1 28 = some (.ifCond .ne 5) := by decide +kernel
theorem f_Cad_setAccent_31 : fch r_Cad_setAccent.2.1 31 = some (.iconst (-1)) := by decide +kernel
theorem f_Cad_setAccent_32 : fch r_Cad_setAccent.2.1 32 = some (.ireturn) := by decide +kernel
theorem f_Cad_setAccent_33 : fch r_Cad_setAccent.2.1 33 = some (.aload_n 0) := by decide +kernel
theorem f_Cad_setAccent_34 : fch r_Cad_setAccent.2.1 34 = some (.getfield 15) := by decide +kernel
theorem f_Cad_setAccent_37 : fch r_Cad_setAccent.2.1 37 = some (.iload_n 1) := by decide +kernel
theorem f_Cad_setAccent_38 : fch r_Cad_setAccent.2.1 38 = some (.iconst 3) := by decide +kernel
theorem f_Cad_setAccent_39 : fch r_Cad_setAccent.2.1 39 = some (.imul) := by decide +kernel
theorem f_Cad_setAccent_40 : fch r_Cad_setAccent.2.1 40 = some (.iload_n 2) := by decide +kernel
theorem f_Cad_setAccent_41 : fch r_Cad_setAccent.2.1 41 = some (.invokestatic 25) := by decide +kernel
theorem f_Cad_setAccent_44 : fch r_Cad_setAccent.2.1 44 = some (.aload_n 0) := by decide +kernel
theorem f_Cad_setAccent_45 : fch r_Cad_setAccent.2.1 45 = some (.getfield 15) := by decide +kernel
theorem f_Cad_setAccent_48 : fch r_Cad_setAccent.2.1 48 = some (.iload_n 1) := by decide +kernel
theorem f_Cad_setAccent_49 : fch r_Cad_setAccent.2.1 49 = some (.iconst 3) := by decide +kernel
theorem f_Cad_setAccent_50 : fch r_Cad_setAccent.2.1 50 = some (.imul) := by decide +kernel
theorem f_Cad_setAccent_51 : fch r_Cad_setAccent.2.1 51 = some (.iconst 1) := by decide +kernel
theorem f_Cad_setAccent_52 : fch r_Cad_setAccent.2.1 52 = some (.iadd) := by decide +kernel
theorem f_Cad_setAccent_53 : fch r_Cad_setAccent.2.1 53 = some (.iload_n 3) := by decide +kernel
theorem f_Cad_setAccent_54 : fch r_Cad_setAccent.2.1 54 = some (.invokestatic 25) := by decide +kernel
theorem f_Cad_setAccent_57 : fch r_Cad_setAccent.2.1 57 = some (.aload_n 0) := by decide +kernel
theorem f_Cad_setAccent_58 : fch r_Cad_setAccent.2.1 58 = some (.getfield 15) := by decide +kernel
theorem f_Cad_setAccent_61 : fch r_Cad_setAccent.2.1 61 = some (.iload_n 1) := by decide +kernel
theorem f_Cad_setAccent_62 : fch r_Cad_setAccent.2.1 62 = some (.iconst 3) := by decide +kernel
theorem f_Cad_setAccent_63 : fch r_Cad_setAccent.2.1 63 = some (.imul) := by decide +kernel
theorem f_Cad_setAccent_64 : fch r_Cad_setAccent.2.1 64 = some (.iconst 2) := by decide +kernel
theorem f_Cad_setAccent_65 : fch r_Cad_setAccent.2.1 65 = some (.iadd) := by decide +kernel
theorem f_Cad_setAccent_66 : fch r_Cad_setAccent.2.1 66 = some (.iload 4) := by decide +kernel
theorem f_Cad_setAccent_68 : fch r_Cad_setAccent.2.1 68 = some (.invokestatic 25) := by decide +kernel
theorem f_Cad_setAccent_71 : fch r_Cad_setAccent.2.1 71 = some (.iconst 0) := by decide +kernel
theorem f_Cad_setAccent_72 : fch r_Cad_setAccent.2.1 72 = some (.ireturn) := by decide +kernel
theorem f_Bk_accents_0 : fch r_Bk_accents.2.1 0 = some (.aload_n 0) := by decide +kernel
theorem f_Bk_accents_1 : fch r_Bk_accents.2.1 1 = some (.iload_n 1) := by decide +kernel
theorem f_Bk_accents_2 : fch r_Bk_accents.2.1 2 = some (.iload_n 2) := by decide +kernel
theorem f_Bk_accents_3 : fch r_Bk_accents.2.1 3 = some (.invokevirtual 197) := by decide +kernel
theorem f_Bk_accents_6 : fch r_Bk_accents.2.1 6 = some (.astore 4) := by decide +kernel
theorem f_Bk_accents_8 : fch r_Bk_accents.2.1 8 = some (.aload 4) := by decide +kernel
theorem f_Bk_accents_10 : fch r_Bk_accents.2.1 10 = some (.ifnonnull 7) := by decide +kernel
theorem f_Bk_accents_13 : fch r_Bk_accents.2.1 13 = some (.iconst (-1)) := by decide +kernel
theorem f_Bk_accents_14 : fch r_Bk_accents.2.1 14 = some (.goto 9) := by decide +kernel
theorem f_Bk_accents_17 : fch r_Bk_accents.2.1 17 = some (.aload 4) := by decide +kernel
theorem f_Bk_accents_19 : fch r_Bk_accents.2.1 19 = some (.iload_n 3) := by decide +kernel
theorem f_Bk_accents_20 : fch r_Bk_accents.2.1 20 = some (.invokevirtual 206) := by decide +kernel
theorem f_Bk_accents_23 : fch r_Bk_accents.2.1 23 = some (.ireturn) := by decide +kernel
theorem f_Cad_setMany_0 : fch r_Cad_setMany.2.1 0 = some (.iload_n 1) := by decide +kernel
theorem f_Cad_setMany_1 : fch r_Cad_setMany.2.1 1 = some (.iconst 1) := by decide +kernel
theorem f_Cad_setMany_2 : fch r_Cad_setMany.2.1 2 = some (.iconst 2) := by decide +kernel
theorem f_Cad_setMany_3 : fch r_Cad_setMany.2.1 3 = some (.invokestatic 29) := by decide +kernel
theorem f_Cad_setMany_6 : fch r_Cad_setMany.2.1 6 = some (.ifCond .ne 5) := by decide +kernel
theorem f_Cad_setMany_9 : fch r_Cad_setMany.2.1 9 = some (.iconst (-1)) := by decide +kernel
theorem f_Cad_setMany_10 : fch r_Cad_setMany.2.1 10 = some (.ireturn) := by decide +kernel
theorem f_Cad_setMany_11 : fch r_Cad_setMany.2.1 11 = some (.aload_n 0) := by decide +kernel
theorem f_Cad_setMany_12 : fch r_Cad_setMany.2.1 12 = some (.iload_n 1) := by decide +kernel
theorem f_Cad_setMany_13 : fch r_Cad_setMany.2.1 13 = some (.putfield 18) := by decide +kernel
theorem f_Cad_setMany_16 : fch r_Cad_setMany.2.1 16 = some (.iconst 0) := by decide +kernel
theorem f_Cad_setMany_17 : fch r_Cad_setMany.2.1 17 = some (.ireturn) := by decide +kernel
theorem f_Bk_syllable_0 : fch r_Bk_syllable.2.1 0 = some (.aload_n 0) := by decide +kernel
theorem f_Bk_syllable_1 : fch r_Bk_syllable.2.1 1 = some (.iload_n 1) := by decide +kernel
theorem f_Bk_syllable_2 : fch r_Bk_syllable.2.1 2 = some (.invokevirtual 209) := by decide +kernel
theorem f_Bk_syllable_5 : fch r_Bk_syllable.2.1 5 = some (.astore_n 3) := by decide +kernel
theorem f_Bk_syllable_6 : fch r_Bk_syllable.2.1 6 = some (.aload_n 3) := by decide +kernel
theorem f_Bk_syllable_7 : fch r_Bk_syllable.2.1 7 = some (.ifnonnull 7) := by decide +kernel
theorem f_Bk_syllable_10 : fch r_Bk_syllable.2.1 10 = some (.iconst (-1)) := by decide +kernel
theorem f_Bk_syllable_11 : fch r_Bk_syllable.2.1 11 = some (.goto 8) := by decide +kernel
theorem f_Bk_syllable_14 : fch r_Bk_syllable.2.1 14 = some (.aload_n 3) := by decide +kernel
theorem f_Bk_syllable_15 : fch r_Bk_syllable.2.1 15 = some (.iload_n 2) := by decide +kernel
theorem f_Bk_syllable_16 : fch r_Bk_syllable.2.1 16 = some (.invokevirtual 213) := by decide +kernel
theorem f_Bk_syllable_19 : fch r_Bk_syllable.2.1 19 = some (.ireturn) := by decide +kernel
theorem f_Bk_verseOf_0 : fch r_Bk_verseOf.2.1 0 = some (.iload_n 1) := by decide +kernel
theorem f_Bk_verseOf_1 : fch r_Bk_verseOf.2.1 1 = some (.ifCond .lt 21) := by decide +kernel
theorem f_Bk_verseOf_4 : fch r_Bk_verseOf.2.1 4 = some (.iload_n 1) := by decide +kernel
theorem f_Bk_verseOf_5 : fch r_Bk_verseOf.2.1 5 = some (.aload_n 0) := by decide +kernel
theorem f_Bk_verseOf_6 : fch r_Bk_verseOf.2.1 6 = some (.getfield 48) := by decide +kernel
theorem f_Bk_verseOf_9 : fch r_Bk_verseOf.2.1 9 = some (.arraylength) := by decide +kernel
theorem f_Bk_verseOf_10 : fch r_Bk_verseOf.2.1 10 = some (.if_icmp .ge 12) := by decide +kernel
theorem f_Bk_verseOf_13 : fch r_Bk_verseOf.2.1 13 = some (.aload_n 0) := by decide +kernel
theorem f_Bk_verseOf_14 : fch r_Bk_verseOf.2.1 14 = some (.getfield 48) := by decide +kernel
theorem f_Bk_verseOf_17 : fch r_Bk_verseOf.2.1 17 = some (.iload_n 1) := by decide +kernel
theorem f_Bk_verseOf_18 : fch r_Bk_verseOf.2.1 18 = some (.aaload) := by decide +kernel
theorem f_Bk_verseOf_19 : fch r_Bk_verseOf.2.1 19 = some (.goto 4) := by decide +kernel
theorem f_Bk_verseOf_22 : fch r_Bk_verseOf.2.1 22 = some (.aconst_null) := by decide +kernel
theorem f_Bk_verseOf_23 : fch r_Bk_verseOf.2.1 23 = some (.areturn) := by decide +kernel
theorem f_Ver_addSyllable_0 : fch r_Ver_addSyllable.2.1 0 = some (.aload_n 0) := by decide +kernel
theorem f_Ver_addSyllable_1 : fch r_Ver_addSyllable.2.1 1 = some (.getfield 15) := by decide +kernel
theorem f_Ver_addSyllable_4 : fch r_Ver_addSyllable.2.1 4 = some (.ifCond .lt 15) := by decide +kernel
theorem f_Ver_addSyllable_7 : fch r_Ver_addSyllable.2.1 7 = some (.aload_n 0) := by decide +kernel
theorem f_Ver_addSyllable_8 : fch r_Ver_addSyllable.2.1 8 = some (.getfield 15) := by decide +kernel
theorem f_Ver_addSyllable_11 : fch r_Ver_addSyllable.2.1 11 = some (.aload_n 0) := by decide +kernel
theorem f_Ver_addSyllable_12 : fch r_Ver_addSyllable.2.1 12 = some (.getfield 11) := by decide +kernel
theorem f_Ver_addSyllable_15 : fch r_Ver_addSyllable.2.1 15 = some (.arraylength) := by decide +kernel
theorem f_Ver_addSyllable_16 : fch r_Ver_addSyllable.2.1 16 = some (.if_icmp .lt 5) := by decide +kernel
theorem f_Ver_addSyllable_19 : fch r_Ver_addSyllable.2.1 19 = some (.iconst (-1)) := by decide +kernel
theorem f_Ver_addSyllable_20 : fch r_Ver_addSyllable.2.1 20 = some (.ireturn) := by decide +kernel
theorem f_Ver_addSyllable_21 : fch r_Ver_addSyllable.2.1 21 = some (.aload_n 0) := by decide +kernel
theorem f_Ver_addSyllable_22 : fch r_Ver_addSyllable.2.1 22 = some (.getfield 11) := by decide +kernel
theorem f_Ver_addSyllable_25 : fch r_Ver_addSyllable.2.1 25 = some (.aload_n 0) := by decide +kernel
theorem f_Ver_addSyllable_26 : fch r_Ver_addSyllable.2.1 26 = some (.getfield 15) := by decide +kernel
theorem f_Ver_addSyllable_29 : fch r_Ver_addSyllable.2.1 29 = some (.iload_n 1) := by decide +kernel
theorem f_Ver_addSyllable_30 : fch r_Ver_addSyllable.2.1 30 = some (.bastore) := by decide +kernel
theorem f_Ver_addSyllable_31 : fch r_Ver_addSyllable.2.1 31 = some (.aload_n 0) := by decide +kernel
theorem f_Ver_addSyllable_32 : fch r_Ver_addSyllable.2.1 32 = some (.dup) := by decide +kernel
theorem f_Ver_addSyllable_33 : fch r_Ver_addSyllable.2.1 33 = some (.getfield 15) := by decide +kernel
theorem f_Ver_addSyllable_36 : fch r_Ver_addSyllable.2.1 36 = some (.iconst 1) := by decide +kernel
theorem f_Ver_addSyllable_37 : fch r_Ver_addSyllable.2.1 37 = some (.iadd) := by decide +kernel
theorem f_Ver_addSyllable_38 : fch r_Ver_addSyllable.2.1 38 = some (.putfield 15) := by decide +kernel
theorem f_Ver_addSyllable_41 : fch r_Ver_addSyllable.2.1 41 = some (.aload_n 0) := by decide +kernel
theorem f_Ver_addSyllable_42 : fch r_Ver_addSyllable.2.1 42 = some (.getfield 15) := by decide +kernel
theorem f_Ver_addSyllable_45 : fch r_Ver_addSyllable.2.1 45 = some (.ireturn) := by decide +kernel
theorem f_Bk_part_0 : fch r_Bk_part.2.1 0 = some (.aload_n 0) := by decide +kernel
theorem f_Bk_part_1 : fch r_Bk_part.2.1 1 = some (.iload_n 1) := by decide +kernel
theorem f_Bk_part_2 : fch r_Bk_part.2.1 2 = some (.invokevirtual 209) := by decide +kernel
theorem f_Bk_part_5 : fch r_Bk_part.2.1 5 = some (.astore_n 2) := by decide +kernel
theorem f_Bk_part_6 : fch r_Bk_part.2.1 6 = some (.aload_n 2) := by decide +kernel
theorem f_Bk_part_7 : fch r_Bk_part.2.1 7 = some (.ifnonnull 7) := by decide +kernel
theorem f_Bk_part_10 : fch r_Bk_part.2.1 10 = some (.iconst (-1)) := by decide +kernel
theorem f_Bk_part_11 : fch r_Bk_part.2.1 11 = some (.goto 7) := by decide +kernel
theorem f_Bk_part_14 : fch r_Bk_part.2.1 14 = some (.aload_n 2) := by decide +kernel
theorem f_Bk_part_15 : fch r_Bk_part.2.1 15 = some (.invokevirtual 217) := by decide +kernel
theorem f_Bk_part_18 : fch r_Bk_part.2.1 18 = some (.ireturn) := by decide +kernel
theorem f_Ver_cutHere_0 : fch r_Ver_cutHere.2.1 0 = some (.aload_n 0) := by decide +kernel
theorem f_Ver_cutHere_1 : fch r_Ver_cutHere.2.1 1 = some (.getfield 15) := by decide +kernel
theorem f_Ver_cutHere_4 : fch r_Ver_cutHere.2.1 4 = some (.ifCond .eq 10) := by decide +kernel
theorem f_Ver_cutHere_7 : fch r_Ver_cutHere.2.1 7 = some (.aload_n 0) := by decide +kernel
theorem f_Ver_cutHere_8 : fch r_Ver_cutHere.2.1 8 = some (.getfield 19) := by decide +kernel
theorem f_Ver_cutHere_11 : fch r_Ver_cutHere.2.1 11 = some (.ifCond .le 5) := by decide +kernel
theorem f_Ver_cutHere_14 : fch r_Ver_cutHere.2.1 14 = some (.iconst (-1)) := by decide +kernel
theorem f_Ver_cutHere_15 : fch r_Ver_cutHere.2.1 15 = some (.ireturn) := by decide +kernel
theorem f_Ver_cutHere_16 : fch r_Ver_cutHere.2.1 16 = some (.aload_n 0) := by decide +kernel
theorem f_Ver_cutHere_17 : fch r_Ver_cutHere.2.1 17 = some (.aload_n 0) := by decide +kernel
theorem f_Ver_cutHere_18 : fch r_Ver_cutHere.2.1 18 = some (.getfield 15) := by decide +kernel
theorem f_Ver_cutHere_21 : fch r_Ver_cutHere.2.1 21 = some (.putfield 19) := by decide +kernel
theorem f_Ver_cutHere_24 : fch r_Ver_cutHere.2.1 24 = some (.aload_n 0) := by decide +kernel
theorem f_Ver_cutHere_25 : fch r_Ver_cutHere.2.1 25 = some (.getfield 19) := by decide +kernel
theorem f_Ver_cutHere_28 : fch r_Ver_cutHere.2.1 28 = some (.ireturn) := by decide +kernel
theorem f_Bk_sing_0 : fch r_Bk_sing.2.1 0 = some (.aload_n 0) := by decide +kernel
theorem f_Bk_sing_1 : fch r_Bk_sing.2.1 1 = some (.iload_n 1) := by decide +kernel
theorem f_Bk_sing_2 : fch r_Bk_sing.2.1 2 = some (.invokevirtual 209) := by decide +kernel
theorem f_Bk_sing_5 : fch r_Bk_sing.2.1 5 = some (.astore 4) := by decide +kernel
theorem f_Bk_sing_7 : fch r_Bk_sing.2.1 7 = some (.aload_n 0) := by decide +kernel
theorem f_Bk_sing_8 : fch r_Bk_sing.2.1 8 = some (.iload_n 2) := by decide +kernel
theorem f_Bk_sing_9 : fch r_Bk_sing.2.1 9 = some (.invokevirtual 187) := by decide +kernel
theorem f_Bk_sing_12 : fch r_Bk_sing.2.1 12 = some (.astore 5) := by decide +kernel
theorem f_Bk_sing_14 : fch r_Bk_sing.2.1 14 = some (.aload 4) := by decide +kernel
theorem f_Bk_sing_16 : fch r_Bk_sing.2.1 16 = some (.ifnull 17) := by decide +kernel
theorem f_Bk_sing_19 : fch r_Bk_sing.2.1 19 = some (.aload 5) := by decide +kernel
theorem f_Bk_sing_21 : fch r_Bk_sing.2.1 21 = some (.ifnull 12) := by decide +kernel
theorem f_Bk_sing_24 : fch r_Bk_sing.2.1 24 = some (.aload 4) := by decide +kernel
theorem f_Bk_sing_26 : fch r_Bk_sing.2.1 26 = some (.iload_n 3) := by decide +kernel
theorem f_Bk_sing_27 : fch r_Bk_sing.2.1 27 = some (.invokevirtual 220) := by decide +kernel
theorem f_Bk_sing_30 : fch r_Bk_sing.2.1 30 = some (.ifCond .ne 5) := by decide +kernel
theorem f_Bk_sing_33 : fch r_Bk_sing.2.1 33 = some (.iconst (-1)) := by decide +kernel
theorem f_Bk_sing_34 : fch r_Bk_sing.2.1 34 = some (.ireturn) := by decide +kernel
theorem f_Bk_sing_35 : fch r_Bk_sing.2.1 35 = some (.aload 5) := by decide +kernel
theorem f_Bk_sing_37 : fch r_Bk_sing.2.1 37 = some (.aload 4) := by decide +kernel
theorem f_Bk_sing_39 : fch r_Bk_sing.2.1 39 = some (.iload_n 3) := by decide +kernel
theorem f_Bk_sing_40 : fch r_Bk_sing.2.1 40 = some (.invokevirtual 223) := by decide +kernel
theorem f_Bk_sing_43 : fch r_Bk_sing.2.1 43 = some (.ireturn) := by decide +kernel
theorem f_Ver_isSungAt_0 : fch r_Ver_isSungAt.2.1 0 = some (.iload_n 1) := by decide +kernel
theorem f_Ver_isSungAt_1 : fch r_Ver_isSungAt.2.1 1 = some (.ifCond .lt 26) := by decide +kernel
theorem f_Ver_isSungAt_4 : fch r_Ver_isSungAt.2.1 4 = some (.iload_n 1) := by decide +kernel
theorem f_Ver_isSungAt_5 : fch r_Ver_isSungAt.2.1 5 = some (.aload_n 0) := by decide +kernel
theorem f_Ver_isSungAt_6 : fch r_Ver_isSungAt.2.1 6 = some (.getfield 15) := by decide +kernel
theorem f_Ver_isSungAt_9 : fch r_Ver_isSungAt.2.1 9 = some (.if_icmp .ge 18) := by decide +kernel
theorem f_Ver_isSungAt_12 : fch r_Ver_isSungAt.2.1 12 = some (.aload_n 0) := by decide +kernel
theorem f_Ver_isSungAt_13 : fch r_Ver_isSungAt.2.1 13 = some (.getfield 19) := by decide +kernel
theorem f_Ver_isSungAt_16 : fch r_Ver_isSungAt.2.1 16 = some (.aload_n 0) := by decide +kernel
theorem f_Ver_isSungAt_17 : fch r_Ver_isSungAt.2.1 17 = some (.getfield 15) := by decide +kernel
theorem f_Ver_isSungAt_20 : fch r_Ver_isSungAt.2.1 20 = some (.if_icmp .ge 7) := by decide +kernel
theorem f_Ver_isSungAt_23 : fch r_Ver_isSungAt.2.1 23 = some (.iconst 1) := by decide +kernel
theorem f_Ver_isSungAt_24 : fch r_Ver_isSungAt.2.1 24 = some (.goto 4) := by decide +kernel
theorem f_Ver_isSungAt_27 : fch r_Ver_isSungAt.2.1 27 = some (.iconst 0) := by decide +kernel
theorem f_Ver_isSungAt_28 : fch r_Ver_isSungAt.2.1 28 = some (.ireturn) := by decide +kernel
theorem f_Ton_noteAt_0 : fch r_Ton_noteAt.2.1 0 = some (.aload_n 1) := by decide +kernel
theorem f_Ton_noteAt_1 : fch r_Ton_noteAt.2.1 1 = some (.iload_n 2) := by decide +kernel
theorem f_Ton_noteAt_2 : fch r_Ton_noteAt.2.1 2 = some (.invokevirtual 51) := by decide +kernel
theorem f_Ton_noteAt_5 : fch r_Ton_noteAt.2.1 5 = some (.istore_n 3) := by decide +kernel
theorem f_Ton_noteAt_6 : fch r_Ton_noteAt.2.1 6 = some (.aload_n 1) := by decide +kernel
theorem f_Ton_noteAt_7 : fch r_Ton_noteAt.2.1 7 = some (.iload_n 2) := by decide +kernel
theorem f_Ton_noteAt_8 : fch r_Ton_noteAt.2.1 8 = some (.invokevirtual 56) := by decide +kernel
theorem f_Ton_noteAt_11 : fch r_Ton_noteAt.2.1 11 = some (.istore 4) := by decide +kernel
theorem f_Ton_noteAt_13 : fch r_Ton_noteAt.2.1 13 = some (.aload_n 1) := by decide +kernel
theorem f_Ton_noteAt_14 : fch r_Ton_noteAt.2.1 14 = some (.iload_n 2) := by decide +kernel
theorem f_Ton_noteAt_15 : fch r_Ton_noteAt.2.1 15 = some (.invokevirtual 59) := by decide +kernel
theorem f_Ton_noteAt_18 : fch r_Ton_noteAt.2.1 18 = some (.ifCond .eq 10) := by decide +kernel
theorem f_Ton_noteAt_21 : fch r_Ton_noteAt.2.1 21 = some (.aload_n 0) := by decide +kernel
theorem f_Ton_noteAt_22 : fch r_Ton_noteAt.2.1 22 = some (.getfield 18) := by decide +kernel
theorem f_Ton_noteAt_25 : fch r_Ton_noteAt.2.1 25 = some (.goto 7) := by decide +kernel
theorem f_Ton_noteAt_28 : fch r_Ton_noteAt.2.1 28 = some (.aload_n 0) := by decide +kernel
theorem f_Ton_noteAt_29 : fch r_Ton_noteAt.2.1 29 = some (.getfield 22) := by decide +kernel
theorem f_Ton_noteAt_32 : fch r_Ton_noteAt.2.1 32 = some (.astore 5) := by decide +kernel
theorem f_Ton_noteAt_34 : fch r_Ton_noteAt.2.1 34 = some (.aload_n 1) := by decide +kernel
theorem f_Ton_noteAt_35 : fch r_Ton_noteAt.2.1 35 = some (.iload_n 3) := by decide +kernel
theorem f_Ton_noteAt_36 : fch r_Ton_noteAt.2.1 36 = some (.iload 4) := by decide +kernel
theorem f_Ton_noteAt_38 : fch r_Ton_noteAt.2.1 38 = some (.invokevirtual 62) := by decide +kernel
theorem f_Ton_noteAt_41 : fch r_Ton_noteAt.2.1 41 = some (.istore 6) := by decide +kernel
theorem f_Ton_noteAt_43 : fch r_Ton_noteAt.2.1 43 = some (.aload 5) := by decide +kernel
theorem f_Ton_noteAt_45 : fch r_Ton_noteAt.2.1 45 = some (.invokevirtual 66) := by decide +kernel
theorem f_Ton_noteAt_48 : fch r_Ton_noteAt.2.1 48 = some (.ifCond .eq 13) := by decide +kernel
theorem f_Ton_noteAt_51 : fch r_Ton_noteAt.2.1 51 = some (.aload_n 1) := by decide +kernel
theorem f_Ton_noteAt_52 : fch r_Ton_noteAt.2.1 52 = some (.iload_n 3) := by decide +kernel
theorem f_Ton_noteAt_53 : fch r_Ton_noteAt.2.1 53 = some (.iload 6) := by decide +kernel
theorem f_Ton_noteAt_55 : fch r_Ton_noteAt.2.1 55 = some (.invokevirtual 70) := by decide +kernel
theorem f_Ton_noteAt_58 : fch r_Ton_noteAt.2.1 58 = some (.goto 4) := by decide +kernel
theorem f_Ton_noteAt_61 : fch r_Ton_noteAt.2.1 61 = some (.iconst (-1)) := by decide +kernel
theorem f_Ton_noteAt_62 : fch r_Ton_noteAt.2.1 62 = some (.istore 7) := by decide +kernel
theorem f_Ton_noteAt_64 : fch r_Ton_noteAt.2.1 64 = some (.iload_n 2) := by decide +kernel
theorem f_Ton_noteAt_65 : fch r_Ton_noteAt.2.1 65 = some (.iload 6) := by decide +kernel
theorem f_Ton_noteAt_67 : fch r_Ton_noteAt.2.1 67 = some (.if_icmp .lt 21) := by decide +kernel
theorem f_Ton_noteAt_70 : fch r_Ton_noteAt.2.1 70 = some (.aload 5) := by decide +kernel
theorem f_Ton_noteAt_72 : fch r_Ton_noteAt.2.1 72 = some (.iconst 1) := by decide +kernel
theorem f_Ton_noteAt_73 : fch r_Ton_noteAt.2.1 73 = some (.iload_n 2) := by decide +kernel
theorem f_Ton_noteAt_74 : fch r_Ton_noteAt.2.1 74 = some (.iload 6) := by decide +kernel
theorem f_Ton_noteAt_76 : fch r_Ton_noteAt.2.1 76 = some (.isub) := by decide +kernel
theorem f_Ton_noteAt_77 : fch r_Ton_noteAt.2.1 77 = some (.iload 4) := by decide +kernel
theorem f_Ton_noteAt_79 : fch r_Ton_noteAt.2.1 79 = some (.iconst 1) := by decide +kernel
theorem f_Ton_noteAt_80 : fch r_Ton_noteAt.2.1 80 = some (.isub) := by decide +kernel
theorem f_Ton_noteAt_81 : fch r_Ton_noteAt.2.1 81 = some (.iload 6) := by decide +kernel
theorem f_Ton_noteAt_83 : fch r_Ton_noteAt.2.1 83 = some (.isub) := by decide +kernel
theorem f_Ton_noteAt_84 : fch r_Ton_noteAt.2.1 84 = some (.invokevirtual 73) := by decide +kernel
theorem f_Ton_noteAt_87 : fch r_Ton_noteAt.2.1 87 = some (.ireturn) := by decide +kernel
theorem f_Ton_noteAt_88 : fch r_Ton_noteAt.2.1 88 = some (.iload 7) := by decide +kernel
theorem f_Ton_noteAt_90 : fch r_Ton_noteAt.2.1 90 = some (.iconst (-1)) := by decide +kernel
theorem f_Ton_noteAt_91 : fch r_Ton_noteAt.2.1 91 = some (.if_icmp .eq 27) := by decide +kernel
theorem f_Ton_noteAt_94 : fch r_Ton_noteAt.2.1 94 = some (.iload_n 2) := by decide +kernel
theorem f_Ton_noteAt_95 : fch r_Ton_noteAt.2.1 95 = some (.iload 7) := by decide +kernel
theorem f_Ton_noteAt_97 : fch r_Ton_noteAt.2.1 97 = some (.if_icmp .lt 21) := by decide +kernel
theorem f_Ton_noteAt_100 : fch r_Ton_noteAt.2.1 100 = some (.aload 5) := by decide +kernel
theorem f_Ton_noteAt_102 : fch r_Ton_noteAt.2.1 102 = some (.iconst 0) := by decide +kernel
theorem f_Ton_noteAt_103 : fch r_Ton_noteAt.2.1 103 = some (.iload_n 2) := by decide +kernel
theorem f_Ton_noteAt_104 : fch r_Ton_noteAt.2.1 104 = some (.iload 7) := by decide +kernel
theorem f_Ton_noteAt_106 : fch r_Ton_noteAt.2.1 106 = some (.isub) := by decide +kernel
theorem f_Ton_noteAt_107 : fch r_Ton_noteAt.2.1 107 = some (.iload 6) := by decide +kernel
theorem f_Ton_noteAt_109 : fch r_Ton_noteAt.2.1 109 = some (.iconst 1) := by decide +kernel
theorem f_Ton_noteAt_110 : fch r_Ton_noteAt.2.1 110 = some (.isub) := by decide +kernel
theorem f_Ton_noteAt_111 : fch r_Ton_noteAt.2.1 111 = some (.iload 7) := by decide +kernel
theorem f_Ton_noteAt_113 : fch r_Ton_noteAt.2.1 113 = some (.isub) := by decide +kernel
theorem f_Ton_noteAt_114 : fch r_Ton_noteAt.2.1 114 = some (.invokevirtual 73) := by decide +kernel
theorem f_Ton_noteAt_117 : fch r_Ton_noteAt.2.1 117 = some (.ireturn) := by decide +kernel
theorem f_Ton_noteAt_118 : fch r_Ton_noteAt.2.1 118 = some (.aload 5) := by decide +kernel
theorem f_Ton_noteAt_120 : fch r_Ton_noteAt.2.1 120 = some (.iload 7) := by decide +kernel
theorem f_Ton_noteAt_122 : fch r_Ton_noteAt.2.1 122 = some (.iconst (-1)) := by decide +kernel
theorem f_Ton_noteAt_123 : fch r_Ton_noteAt.2.1 123 = some (.if_icmp .ne 8) := by decide +kernel
theorem f_Ton_noteAt_126 : fch r_Ton_noteAt.2.1 126 = some (.iload 6) := by decide +kernel
theorem f_Ton_noteAt_128 : fch r_Ton_noteAt.2.1 128 = some (.goto 5) := by decide +kernel
theorem f_Ton_noteAt_131 : fch r_Ton_noteAt.2.1 131 = some (.iload 7) := by decide +kernel
theorem f_Ton_noteAt_133 : fch r_Ton_noteAt.2.1 133 = some (.iload_n 2) := by decide +kernel
theorem f_Ton_noteAt_134 : fch r_Ton_noteAt.2.1 134 = some (.isub) := by decide +kernel
theorem f_Ton_noteAt_135 : fch r_Ton_noteAt.2.1 135 = some (.invokevirtual 77) := by decide +kernel
theorem f_Ton_noteAt_138 : fch r_Ton_noteAt.2.1 138 = some (.istore 8) := by decide +kernel
theorem f_Ton_noteAt_140 : fch r_Ton_noteAt.2.1 140 = some (.iload 8) := by decide +kernel
theorem f_Ton_noteAt_142 : fch r_Ton_noteAt.2.1 142 = some (.iconst (-1)) := by decide +kernel
theorem f_Ton_noteAt_143 : fch r_Ton_noteAt.2.1 143 = some (.if_icmp .eq 6) := by decide +kernel
theorem f_Ton_noteAt_146 : fch r_Ton_noteAt.2.1 146 = some (.iload 8) := by decide +kernel
theorem f_Ton_noteAt_148 : fch r_Ton_noteAt.2.1 148 = some (.ireturn) := by decide +kernel
theorem f_Ton_noteAt_149 : fch r_Ton_noteAt.2.1 149 = some (.iload_n 3) := by decide +kernel
theorem f_Ton_noteAt_150 : fch r_Ton_noteAt.2.1 150 = some (.ifCond .ne 22) := by decide +kernel
theorem f_Ton_noteAt_153 : fch r_Ton_noteAt.2.1 153 = some (.iload_n 2) := by decide +kernel
theorem f_Ton_noteAt_154 : fch r_Ton_noteAt.2.1 154 = some (.aload_n 0) := by decide +kernel
theorem f_Ton_noteAt_155 : fch r_Ton_noteAt.2.1 155 = some (.getfield 44) := by decide +kernel
theorem f_Ton_noteAt_158 : fch r_Ton_noteAt.2.1 158 = some (.if_icmp .ge 14) := by decide +kernel
theorem f_Ton_noteAt_161 : fch r_Ton_noteAt.2.1 161 = some (.aload_n 0) := by decide +kernel
theorem f_Ton_noteAt_162 : fch r_Ton_noteAt.2.1 162 = some (.getfield 11) := by decide +kernel
theorem f_Ton_noteAt_165 : fch r_Ton_noteAt.2.1 165 = some (.iload_n 2) := by decide +kernel
theorem f_Ton_noteAt_166 : fch r_Ton_noteAt.2.1 166 = some (.invokestatic 80) := by decide +kernel
theorem f_Ton_noteAt_169 : fch r_Ton_noteAt.2.1 169 = some (.goto 7) := by decide +kernel
theorem f_Ton_noteAt_172 : fch r_Ton_noteAt.2.1 172 = some (.aload_n 0) := by decide +kernel
theorem f_Ton_noteAt_173 : fch r_Ton_noteAt.2.1 173 = some (.getfield 33) := by decide +kernel
theorem f_Ton_noteAt_176 : fch r_Ton_noteAt.2.1 176 = some (.ireturn) := by decide +kernel
theorem f_Ver_startOfHalf_0 : fch r_Ver_startOfHalf.2.1 0 = some (.aload_n 0) := by decide +kernel
theorem f_Ver_startOfHalf_1 : fch r_Ver_startOfHalf.2.1 1 = some (.iload_n 1) := by decide +kernel
theorem f_Ver_startOfHalf_2 : fch r_Ver_startOfHalf.2.1 2 = some (.invokevirtual 22) := by decide +kernel
theorem f_Ver_startOfHalf_5 : fch r_Ver_startOfHalf.2.1 5 = some (.ifCond .eq 7) := by decide +kernel
theorem f_Ver_startOfHalf_8 : fch r_Ver_startOfHalf.2.1 8 = some (.iconst 0) := by decide +kernel
theorem f_Ver_startOfHalf_9 : fch r_Ver_startOfHalf.2.1 9 = some (.goto 7) := by decide +kernel
theorem f_Ver_startOfHalf_12 : fch r_Ver_startOfHalf.2.1 12 = some (.aload_n 0) := by decide +kernel
theorem f_Ver_startOfHalf_13 : fch r_Ver_startOfHalf.2.1 13 = some (.getfield 19) := by decide +kernel
theorem f_Ver_startOfHalf_16 : fch r_Ver_startOfHalf.2.1 16 = some (.ireturn) := by decide +kernel
theorem f_Ver_isFirstHalf_0 : fch r_Ver_isFirstHalf.2.1 0 = some (.iload_n 1) := by decide +kernel
theorem f_Ver_isFirstHalf_1 : fch r_Ver_isFirstHalf.2.1 1 = some (.aload_n 0) := by decide +kernel
theorem f_Ver_isFirstHalf_2 : fch r_Ver_isFirstHalf.2.1 2 = some (.getfield 19) := by decide +kernel
theorem f_Ver_isFirstHalf_5 : fch r_Ver_isFirstHalf.2.1 5 = some (.if_icmp .ge 7) := by decide +kernel
theorem f_Ver_isFirstHalf_8 : fch r_Ver_isFirstHalf.2.1 8 = some (.iconst 1) := by decide +kernel
theorem f_Ver_isFirstHalf_9 : fch r_Ver_isFirstHalf.2.1 9 = some (.goto 4) := by decide +kernel
theorem f_Ver_isFirstHalf_12 : fch r_Ver_isFirstHalf.2.1 12 = some (.iconst 0) := by decide +kernel
theorem f_Ver_isFirstHalf_13 : fch r_Ver_isFirstHalf.2.1 13 = some (.ireturn) := by decide +kernel
theorem f_Ver_endOfHalf_0 : fch r_Ver_endOfHalf.2.1 0 = some (.aload_n 0) := by decide +kernel
theorem f_Ver_endOfHalf_1 : fch r_Ver_endOfHalf.2.1 1 = some (.iload_n 1) := by decide +kernel
theorem f_Ver_endOfHalf_2 : fch r_Ver_endOfHalf.2.1 2 = some (.invokevirtual 22) := by decide +kernel
theorem f_Ver_endOfHalf_5 : fch r_Ver_endOfHalf.2.1 5 = some (.ifCond .eq 10) := by decide +kernel
theorem f_Ver_endOfHalf_8 : fch r_Ver_endOfHalf.2.1 8 = some (.aload_n 0) := by decide +kernel
theorem f_Ver_endOfHalf_9 : fch r_Ver_endOfHalf.2.1 9 = some (.getfield 19) := by decide +kernel
theorem f_Ver_endOfHalf_12 : fch r_Ver_endOfHalf.2.1 12 = some (.goto 7) := by decide +kernel
theorem f_Ver_endOfHalf_15 : fch r_Ver_endOfHalf.2.1 15 = some (.aload_n 0) := by decide +kernel
theorem f_Ver_endOfHalf_16 : fch r_Ver_endOfHalf.2.1 16 = some (.getfield 15) := by decide +kernel
theorem f_Ver_endOfHalf_19 : fch r_Ver_endOfHalf.2.1 19 = some (.ireturn) := by decide +kernel
theorem f_Ver_lastAccent_0 : fch r_Ver_lastAccent.2.1 0 = some (.aload_n 0) := by decide +kernel
theorem f_Ver_lastAccent_1 : fch r_Ver_lastAccent.2.1 1 = some (.iload_n 1) := by decide +kernel
theorem f_Ver_lastAccent_2 : fch r_Ver_lastAccent.2.1 2 = some (.iload_n 2) := by decide +kernel
theorem f_Ver_lastAccent_3 : fch r_Ver_lastAccent.2.1 3 = some (.iconst 2) := by decide +kernel
theorem f_Ver_lastAccent_4 : fch r_Ver_lastAccent.2.1 4 = some (.isub) := by decide +kernel
theorem f_Ver_lastAccent_5 : fch r_Ver_lastAccent.2.1 5 = some (.invokevirtual 26) := by decide +kernel
theorem f_Ver_lastAccent_8 : fch r_Ver_lastAccent.2.1 8 = some (.ifCond .eq 9) := by decide +kernel
theorem f_Ver_lastAccent_11 : fch r_Ver_lastAccent.2.1 11 = some (.iload_n 2) := by decide +kernel
theorem f_Ver_lastAccent_12 : fch r_Ver_lastAccent.2.1 12 = some (.iconst 2) := by decide +kernel
theorem f_Ver_lastAccent_13 : fch r_Ver_lastAccent.2.1 13 = some (.isub) := by decide +kernel
theorem f_Ver_lastAccent_14 : fch r_Ver_lastAccent.2.1 14 = some (.goto 10) := by decide +kernel
theorem f_Ver_lastAccent_17 : fch r_Ver_lastAccent.2.1 17 = some (.iload_n 1) := by decide +kernel
theorem f_Ver_lastAccent_18 : fch r_Ver_lastAccent.2.1 18 = some (.iload_n 2) := by decide +kernel
theorem f_Ver_lastAccent_19 : fch r_Ver_lastAccent.2.1 19 = some (.iconst 3) := by decide +kernel
theorem f_Ver_lastAccent_20 : fch r_Ver_lastAccent.2.1 20 = some (.isub) := by decide +kernel
theorem f_Ver_lastAccent_21 : fch r_Ver_lastAccent.2.1 21 = some (.invokestatic 30) := by decide +kernel
theorem f_Ver_lastAccent_24 : fch r_Ver_lastAccent.2.1 24 = some (.ireturn) := by decide +kernel
theorem f_Ver_isStressedFrom_0 : fch r_Ver_isStressedFrom.2.1 0 = some (.iload_n 2) := by decide +kernel
theorem f_Ver_isStressedFrom_1 : fch r_Ver_isStressedFrom.2.1 1 = some (.iload_n 1) := by decide +kernel
theorem f_Ver_isStressedFrom_2 : fch r_Ver_isStressedFrom.2.1 2 = some (.if_icmp .lt 29) := by decide +kernel
theorem f_Ver_isStressedFrom_5 : fch r_Ver_isStressedFrom.2.1 5 = some (.iload_n 2) := by decide +kernel
theorem f_Ver_isStressedFrom_6 : fch r_Ver_isStressedFrom.2.1 6 = some (.ifCond .lt 25) := by decide +kernel
theorem f_Ver_isStressedFrom_9 : fch r_Ver_isStressedFrom.2.1 9 = some (.iload_n 2) := by decide +kernel
theorem f_Ver_isStressedFrom_10 : fch r_Ver_isStressedFrom.2.1 10 = some (.aload_n 0) := by decide +kernel
theorem f_Ver_isStressedFrom_11 : fch r_Ver_isStressedFrom.2.1 11 = some (.getfield 11) := by decide +kernel
theorem f_Ver_isStressedFrom_14 : fch r_Ver_isStressedFrom.2.1 14 = some (.arraylength) := by decide +kernel
theorem f_Ver_isStressedFrom_15 : fch r_Ver_isStressedFrom.2.1 15 = some (.if_icmp .ge 16) := by decide +kernel
theorem f_Ver_isStressedFrom_18 : fch r_Ver_isStressedFrom.2.1 18 = some (.aload_n 0) := by decide +kernel
theorem f_Ver_isStressedFrom_19 : fch r_Ver_isStressedFrom.2.1 19 = some (.getfield 11) := by decide +kernel
theorem f_Ver_isStressedFrom_22 : fch r_Ver_isStressedFrom.2.1 22 = some (.iload_n 2) := by decide +kernel
theorem f_Ver_isStressedFrom_23 : fch r_Ver_isStressedFrom.2.1 23 = some (.baload) := by decide +kernel
theorem f_Ver_isStressedFrom_24 : fch r_Ver_isStressedFrom.2.1 24 = some (.ifCond .eq 7) := by decide +kernel
theorem f_Ver_isStressedFrom_27 : fch r_Ver_isStressedFrom.2.1 27 = some (.iconst 1) := by decide +kernel
theorem f_Ver_isStressedFrom_28 : fch r_Ver_isStressedFrom.2.1 28 = some (.goto 4) := by decide +kernel
theorem f_Ver_isStressedFrom_31 : fch r_Ver_isStressedFrom.2.1 31 = some (.iconst 0) := by decide +kernel
theorem f_Ver_isStressedFrom_32 : fch r_Ver_isStressedFrom.2.1 32 = some (.ireturn) := by decide +kernel
theorem f_Cad_hasTwoAccents_0 : fch r_Cad_hasTwoAccents.2.1 0 = some (.aload_n 0) := by decide +kernel
theorem f_Cad_hasTwoAccents_1 : fch r_Cad_hasTwoAccents.2.1 1 = some (.getfield 18) := by decide +kernel
theorem f_Cad_hasTwoAccents_4 : fch r_Cad_hasTwoAccents.2.1 4 = some (.iconst 2) := by decide +kernel
theorem f_Cad_hasTwoAccents_5 : fch r_Cad_hasTwoAccents.2.1 5 = some (.if_icmp .ne 7) := by decide +kernel
theorem f_Cad_hasTwoAccents_8 : fch r_Cad_hasTwoAccents.2.1 8 = some (.iconst 1) := by decide +kernel
theorem f_Cad_hasTwoAccents_9 : fch r_Cad_hasTwoAccents.2.1 9 = some (.goto 4) := by decide +kernel
theorem f_Cad_hasTwoAccents_12 : fch r_Cad_hasTwoAccents.2.1 12 = some (.iconst 0) := by decide +kernel
theorem f_Cad_hasTwoAccents_13 : fch r_Cad_hasTwoAccents.2.1 13 = some (.ireturn) := by decide +kernel
theorem f_Ver_firstAccent_0 : fch r_Ver_firstAccent.2.1 0 = some (.aload_n 0) := by decide +kernel
theorem f_Ver_firstAccent_1 : fch r_Ver_firstAccent.2.1 1 = some (.iload_n 1) := by decide +kernel
theorem f_Ver_firstAccent_2 : fch r_Ver_firstAccent.2.1 2 = some (.iload_n 2) := by decide +kernel
theorem f_Ver_firstAccent_3 : fch r_Ver_firstAccent.2.1 3 = some (.iconst 2) := by decide +kernel
theorem f_Ver_firstAccent_4 : fch r_Ver_firstAccent.2.1 4 = some (.isub) := by decide +kernel
theorem f_Ver_firstAccent_5 : fch r_Ver_firstAccent.2.1 5 = some (.invokevirtual 26) := by decide +kernel
theorem f_Ver_firstAccent_8 : fch r_Ver_firstAccent.2.1 8 = some (.ifCond .eq 7) := by decide +kernel
theorem f_Ver_firstAccent_11 : fch r_Ver_firstAccent.2.1 11 = some (.iload_n 2) := by decide +kernel
theorem f_Ver_firstAccent_12 : fch r_Ver_firstAccent.2.1 12 = some (.iconst 2) := by decide +kernel
theorem f_Ver_firstAccent_13 : fch r_Ver_firstAccent.2.1 13 = some (.isub) := by decide +kernel
theorem f_Ver_firstAccent_14 : fch r_Ver_firstAccent.2.1 14 = some (.ireturn) := by decide +kernel
theorem f_Ver_firstAccent_15 : fch r_Ver_firstAccent.2.1 15 = some (.aload_n 0) := by decide +kernel
theorem f_Ver_firstAccent_16 : fch r_Ver_firstAccent.2.1 16 = some (.iload_n 1) := by decide +kernel
theorem f_Ver_firstAccent_17 : fch r_Ver_firstAccent.2.1 17 = some (.iload_n 2) := by decide +kernel
theorem f_Ver_firstAccent_18 : fch r_Ver_firstAccent.2.1 18 = some (.iconst 3) := by decide +kernel
theorem f_Ver_firstAccent_19 : fch r_Ver_firstAccent.2.1 19 = some (.isub) := by decide +kernel
theorem f_Ver_firstAccent_20 : fch r_Ver_firstAccent.2.1 20 = some (.invokevirtual 26) := by decide +kernel
theorem f_Ver_firstAccent_23 : fch r_Ver_firstAccent.2.1 23 = some (.ifCond .eq 7) := by decide +kernel
theorem f_Ver_firstAccent_26 : fch r_Ver_firstAccent.2.1 26 = some (.iload_n 2) := by decide +kernel
theorem f_Ver_firstAccent_27 : fch r_Ver_firstAccent.2.1 27 = some (.iconst 3) := by decide +kernel
theorem f_Ver_firstAccent_28 : fch r_Ver_firstAccent.2.1 28 = some (.isub) := by decide +kernel
theorem f_Ver_firstAccent_29 : fch r_Ver_firstAccent.2.1 29 = some (.ireturn) := by decide +kernel
theorem f_Ver_firstAccent_30 : fch r_Ver_firstAccent.2.1 30 = some (.iload_n 2) := by decide +kernel
theorem f_Ver_firstAccent_31 : fch r_Ver_firstAccent.2.1 31 = some (.iconst 2) := by decide +kernel
theorem f_Ver_firstAccent_32 : fch r_Ver_firstAccent.2.1 32 = some (.isub) := by decide +kernel
theorem f_Ver_firstAccent_33 : fch r_Ver_firstAccent.2.1 33 = some (.iload_n 1) := by decide +kernel
theorem f_Ver_firstAccent_34 : fch r_Ver_firstAccent.2.1 34 = some (.if_icmp .lt 9) := by decide +kernel
theorem f_Ver_firstAccent_37 : fch r_Ver_firstAccent.2.1 37 = some (.iload_n 2) := by decide +kernel
theorem f_Ver_firstAccent_38 : fch r_Ver_firstAccent.2.1 38 = some (.iconst 2) := by decide +kernel
theorem f_Ver_firstAccent_39 : fch r_Ver_firstAccent.2.1 39 = some (.isub) := by decide +kernel
theorem f_Ver_firstAccent_40 : fch r_Ver_firstAccent.2.1 40 = some (.goto 4) := by decide +kernel
theorem f_Ver_firstAccent_43 : fch r_Ver_firstAccent.2.1 43 = some (.iconst (-1)) := by decide +kernel
theorem f_Ver_firstAccent_44 : fch r_Ver_firstAccent.2.1 44 = some (.ireturn) := by decide +kernel
theorem f_Cad_noteFrom_0 : fch r_Cad_noteFrom.2.1 0 = some (.iload_n 2) := by decide +kernel
theorem f_Cad_noteFrom_1 : fch r_Cad_noteFrom.2.1 1 = some (.ifCond .ne 14) := by decide +kernel
theorem f_Cad_noteFrom_4 : fch r_Cad_noteFrom.2.1 4 = some (.aload_n 0) := by decide +kernel
theorem f_Cad_noteFrom_5 : fch r_Cad_noteFrom.2.1 5 = some (.getfield 15) := by decide +kernel
theorem f_Cad_noteFrom_8 : fch r_Cad_noteFrom.2.1 8 = some (.iload_n 1) := by decide +kernel
theorem f_Cad_noteFrom_9 : fch r_Cad_noteFrom.2.1 9 = some (.iconst 3) := by decide +kernel
theorem f_Cad_noteFrom_10 : fch r_Cad_noteFrom.2.1 10 = some (.imul) := by decide +kernel
theorem f_Cad_noteFrom_11 : fch r_Cad_noteFrom.2.1 11 = some (.invokestatic 39) := by decide +kernel
theorem f_Cad_noteFrom_14 : fch r_Cad_noteFrom.2.1 14 = some (.ireturn) := by decide +kernel
theorem f_Cad_noteFrom_15 : fch r_Cad_noteFrom.2.1 15 = some (.iload_n 2) := by decide +kernel
theorem f_Cad_noteFrom_16 : fch r_Cad_noteFrom.2.1 16 = some (.iconst 1) := by decide +kernel
theorem f_Cad_noteFrom_17 : fch r_Cad_noteFrom.2.1 17 = some (.if_icmp .ne 12) := by decide +kernel
theorem f_Cad_noteFrom_20 : fch r_Cad_noteFrom.2.1 20 = some (.iload_n 3) := by decide +kernel
theorem f_Cad_noteFrom_21 : fch r_Cad_noteFrom.2.1 21 = some (.iconst 2) := by decide +kernel
theorem f_Cad_noteFrom_22 : fch r_Cad_noteFrom.2.1 22 = some (.if_icmp .ne 7) := by decide +kernel
theorem f_Cad_noteFrom_25 : fch r_Cad_noteFrom.2.1 25 = some (.iconst 1) := by decide +kernel
theorem f_Cad_noteFrom_26 : fch r_Cad_noteFrom.2.1 26 = some (.goto 4) := by decide +kernel
theorem f_Cad_noteFrom_29 : fch r_Cad_noteFrom.2.1 29 = some (.iconst 0) := by decide +kernel
theorem f_Cad_noteFrom_30 : fch r_Cad_noteFrom.2.1 30 = some (.istore 4) := by decide +kernel
theorem f_Cad_noteFrom_32 : fch r_Cad_noteFrom.2.1 32 = some (.aload_n 0) := by decide +kernel
theorem f_Cad_noteFrom_33 : fch r_Cad_noteFrom.2.1 33 = some (.getfield 15) := by decide +kernel
theorem f_Cad_noteFrom_36 : fch r_Cad_noteFrom.2.1 36 = some (.iload_n 1) := by decide +kernel
theorem f_Cad_noteFrom_37 : fch r_Cad_noteFrom.2.1 37 = some (.iconst 3) := by decide +kernel
theorem f_Cad_noteFrom_38 : fch r_Cad_noteFrom.2.1 38 = some (.imul) := by decide +kernel
theorem f_Cad_noteFrom_39 : fch r_Cad_noteFrom.2.1 39 = some (.iload 4) := by decide +kernel
theorem f_Cad_noteFrom_41 : fch r_Cad_noteFrom.2.1 41 = some (.ifCond .eq 7) := by decide +kernel
theorem f_Cad_noteFrom_44 : fch r_Cad_noteFrom.2.1 44 = some (.iconst 1) := by decide +kernel
theorem f_Cad_noteFrom_45 : fch r_Cad_noteFrom.2.1 45 = some (.goto 4) := by decide +kernel
theorem f_Cad_noteFrom_48 : fch r_Cad_noteFrom.2.1 48 = some (.iconst 2) := by decide +kernel
theorem f_Cad_noteFrom_49 : fch r_Cad_noteFrom.2.1 49 = some (.iadd) := by decide +kernel
theorem f_Cad_noteFrom_50 : fch r_Cad_noteFrom.2.1 50 = some (.invokestatic 39) := by decide +kernel
theorem f_Cad_noteFrom_53 : fch r_Cad_noteFrom.2.1 53 = some (.ireturn) := by decide +kernel
theorem f_Cad_noteAhead_0 : fch r_Cad_noteAhead.2.1 0 = some (.iload_n 1) := by decide +kernel
theorem f_Cad_noteAhead_1 : fch r_Cad_noteAhead.2.1 1 = some (.iconst 1) := by decide +kernel
theorem f_Cad_noteAhead_2 : fch r_Cad_noteAhead.2.1 2 = some (.aload_n 0) := by decide +kernel
theorem f_Cad_noteAhead_3 : fch r_Cad_noteAhead.2.1 3 = some (.getfield 22) := by decide +kernel
theorem f_Cad_noteAhead_6 : fch r_Cad_noteAhead.2.1 6 = some (.invokestatic 29) := by decide +kernel
theorem f_Cad_noteAhead_9 : fch r_Cad_noteAhead.2.1 9 = some (.ifCond .eq 19) := by decide +kernel
theorem f_Cad_noteAhead_12 : fch r_Cad_noteAhead.2.1 12 = some (.aload_n 0) := by decide +kernel
theorem f_Cad_noteAhead_13 : fch r_Cad_noteAhead.2.1 13 = some (.getfield 11) := by decide +kernel
theorem f_Cad_noteAhead_16 : fch r_Cad_noteAhead.2.1 16 = some (.aload_n 0) := by decide +kernel
theorem f_Cad_noteAhead_17 : fch r_Cad_noteAhead.2.1 17 = some (.getfield 22) := by decide +kernel
theorem f_Cad_noteAhead_20 : fch r_Cad_noteAhead.2.1 20 = some (.iload_n 1) := by decide +kernel
theorem f_Cad_noteAhead_21 : fch r_Cad_noteAhead.2.1 21 = some (.isub) := by decide +kernel
theorem f_Cad_noteAhead_22 : fch r_Cad_noteAhead.2.1 22 = some (.invokestatic 39) := by decide +kernel
theorem f_Cad_noteAhead_25 : fch r_Cad_noteAhead.2.1 25 = some (.goto 4) := by decide +kernel
theorem f_Cad_noteAhead_28 : fch r_Cad_noteAhead.2.1 28 = some (.iconst (-1)) := by decide +kernel
theorem f_Cad_noteAhead_29 : fch r_Cad_noteAhead.2.1 29 = some (.ireturn) := by decide +kernel
theorem f_Bk_monk_0 : fch r_Bk_monk.2.1 0 = some (.aload_n 0) := by decide +kernel
theorem f_Bk_monk_1 : fch r_Bk_monk.2.1 1 = some (.getfield 56) := by decide +kernel
theorem f_Bk_monk_4 : fch r_Bk_monk.2.1 4 = some (.iload_n 1) := by decide +kernel
theorem f_Bk_monk_5 : fch r_Bk_monk.2.1 5 = some (.invokevirtual 227) := by decide +kernel
theorem f_Bk_monk_8 : fch r_Bk_monk.2.1 8 = some (.ireturn) := by decide +kernel
theorem f_Cho_join_0 : fch r_Cho_join.2.1 0 = some (.aload_n 0) := by decide +kernel
theorem f_Cho_join_1 : fch r_Cho_join.2.1 1 = some (.getfield 27) := by decide +kernel
theorem f_Cho_join_4 : fch r_Cho_join.2.1 4 = some (.bipush 24) := by decide +kernel
theorem f_Cho_join_6 : fch r_Cho_join.2.1 6 = some (.if_icmp .ge 13) := by decide +kernel
theorem f_Cho_join_9 : fch r_Cho_join.2.1 9 = some (.iload_n 1) := by decide +kernel
theorem f_Cho_join_10 : fch r_Cho_join.2.1 10 = some (.iconst 0) := by decide +kernel
theorem f_Cho_join_11 : fch r_Cho_join.2.1 11 = some (.bipush 7) := by decide +kernel
theorem f_Cho_join_13 : fch r_Cho_join.2.1 13 = some (.invokestatic 31) := by decide +kernel
theorem f_Cho_join_16 : fch r_Cho_join.2.1 16 = some (.ifCond .ne 5) := by decide +kernel
theorem f_Cho_join_19 : fch r_Cho_join.2.1 19 = some (.iconst (-1)) := by decide +kernel
theorem f_Cho_join_20 : fch r_Cho_join.2.1 20 = some (.ireturn) := by decide +kernel
theorem f_Cho_join_21 : fch r_Cho_join.2.1 21 = some (.aload_n 0) := by decide +kernel
theorem f_Cho_join_22 : fch r_Cho_join.2.1 22 = some (.getfield 11) := by decide +kernel
theorem f_Cho_join_25 : fch r_Cho_join.2.1 25 = some (.aload_n 0) := by decide +kernel
theorem f_Cho_join_26 : fch r_Cho_join.2.1 26 = some (.getfield 27) := by decide +kernel
theorem f_Cho_join_29 : fch r_Cho_join.2.1 29 = some (.iload_n 1) := by decide +kernel
theorem f_Cho_join_30 : fch r_Cho_join.2.1 30 = some (.invokestatic 35) := by decide +kernel
theorem f_Cho_join_33 : fch r_Cho_join.2.1 33 = some (.aload_n 0) := by decide +kernel
theorem f_Cho_join_34 : fch r_Cho_join.2.1 34 = some (.dup) := by decide +kernel
theorem f_Cho_join_35 : fch r_Cho_join.2.1 35 = some (.getfield 27) := by decide +kernel
theorem f_Cho_join_38 : fch r_Cho_join.2.1 38 = some (.iconst 1) := by decide +kernel
theorem f_Cho_join_39 : fch r_Cho_join.2.1 39 = some (.iadd) := by decide +kernel
theorem f_Cho_join_40 : fch r_Cho_join.2.1 40 = some (.putfield 27) := by decide +kernel
theorem f_Cho_join_43 : fch r_Cho_join.2.1 43 = some (.aload_n 0) := by decide +kernel
theorem f_Cho_join_44 : fch r_Cho_join.2.1 44 = some (.getfield 27) := by decide +kernel
theorem f_Cho_join_47 : fch r_Cho_join.2.1 47 = some (.iconst 1) := by decide +kernel
theorem f_Cho_join_48 : fch r_Cho_join.2.1 48 = some (.isub) := by decide +kernel
theorem f_Cho_join_49 : fch r_Cho_join.2.1 49 = some (.ireturn) := by decide +kernel
theorem f_Bk_absence_0 : fch r_Bk_absence.2.1 0 = some (.aload_n 0) := by decide +kernel
theorem f_Bk_absence_1 : fch r_Bk_absence.2.1 1 = some (.getfield 56) := by decide +kernel
theorem f_Bk_absence_4 : fch r_Bk_absence.2.1 4 = some (.iload_n 1) := by decide +kernel
theorem f_Bk_absence_5 : fch r_Bk_absence.2.1 5 = some (.iload_n 2) := by decide +kernel
theorem f_Bk_absence_6 : fch r_Bk_absence.2.1 6 = some (.iload_n 3) := by decide +kernel
theorem f_Bk_absence_7 : fch r_Bk_absence.2.1 7 = some (.iload 4) := by decide +kernel
theorem f_Bk_absence_9 : fch r_Bk_absence.2.1 9 = some (.invokevirtual 230) := by decide +kernel
theorem f_Bk_absence_12 : fch r_Bk_absence.2.1 12 = some (.ireturn) := by decide +kernel
theorem f_Cho_sendAway_0 : fch r_Cho_sendAway.2.1 0 = some (.aload_n 0) := by decide +kernel
theorem f_Cho_sendAway_1 : fch r_Cho_sendAway.2.1 1 = some (.getfield 39) := by decide +kernel
theorem f_Cho_sendAway_4 : fch r_Cho_sendAway.2.1 4 = some (.bipush 60) := by decide +kernel
theorem f_Cho_sendAway_6 : fch r_Cho_sendAway.2.1 6 = some (.if_icmp .ge 18) := by decide +kernel
theorem f_Cho_sendAway_9 : fch r_Cho_sendAway.2.1 9 = some (.aload_n 0) := by decide +kernel
theorem f_Cho_sendAway_10 : fch r_Cho_sendAway.2.1 10 = some (.iload_n 1) := by decide +kernel
theorem f_Cho_sendAway_11 : fch r_Cho_sendAway.2.1 11 = some (.invokevirtual 42) := by decide +kernel
theorem f_Cho_sendAway_14 : fch r_Cho_sendAway.2.1 14 = some (.ifCond .eq 10) := by decide +kernel
theorem f_Cho_sendAway_17 : fch r_Cho_sendAway.2.1 17 = some (.iload_n 2) := by decide +kernel
theorem f_Cho_sendAway_18 : fch r_Cho_sendAway.2.1 18 = some (.invokestatic 46) := by decide +kernel
theorem f_Cho_sendAway_21 : fch r_Cho_sendAway.2.1 21 = some (.ifCond .ne 5) := by decide +kernel
theorem f_Cho_sendAway_24 : fch r_Cho_sendAway.2.1 24 = some (.iconst (-1)) := by decide +kernel
theorem f_Cho_sendAway_25 : fch r_Cho_sendAway.2.1 25 = some (.ireturn) := by decide +kernel
theorem f_Cho_sendAway_26 : fch r_Cho_sendAway.2.1 26 = some (.iload_n 3) := by decide +kernel
theorem f_Cho_sendAway_27 : fch r_Cho_sendAway.2.1 27 = some (.ifCond .lt 18) := by decide +kernel
theorem f_Cho_sendAway_30 : fch r_Cho_sendAway.2.1 30 = some (.iload 4) := by decide +kernel
theorem f_Cho_sendAway_32 : fch r_Cho_sendAway.2.1 32 = some (.iload_n 3) := by decide +kernel
theorem f_Cho_sendAway_33 : fch r_Cho_sendAway.2.1 33 = some (.iload_n 2) := by decide +kernel
theorem f_Cho_sendAway_34 : fch r_Cho_sendAway.2.1 34 = some (.invokestatic 51) := by decide +kernel
theorem f_Cho_sendAway_37 : fch r_Cho_sendAway.2.1 37 = some (.iconst 1) := by decide +kernel
theorem f_Cho_sendAway_38 : fch r_Cho_sendAway.2.1 38 = some (.isub) := by decide +kernel
theorem f_Cho_sendAway_39 : fch r_Cho_sendAway.2.1 39 = some (.invokestatic 31) := by decide +kernel
theorem f_Cho_sendAway_42 : fch r_Cho_sendAway.2.1 42 = some (.ifCond .ne 5) := by decide +kernel
theorem f_Cho_sendAway_45 : fch r_Cho_sendAway.2.1 45 = some (.iconst (-1)) := by decide +kernel
theorem f_Cho_sendAway_46 : fch r_Cho_sendAway.2.1 46 = some (.ireturn) := by decide +kernel
theorem f_Cho_sendAway_47 : fch r_Cho_sendAway.2.1 47 = some (.aload_n 0) := by decide +kernel
theorem f_Cho_sendAway_48 : fch r_Cho_sendAway.2.1 48 = some (.getfield 15) := by decide +kernel
theorem f_Cho_sendAway_51 : fch r_Cho_sendAway.2.1 51 = some (.aload_n 0) := by decide +kernel
theorem f_Cho_sendAway_52 : fch r_Cho_sendAway.2.1 52 = some (.getfield 39) := by decide +kernel
theorem f_Cho_sendAway_55 : fch r_Cho_sendAway.2.1 55 = some (.iload_n 1) := by decide +kernel
theorem f_Cho_sendAway_56 : fch r_Cho_sendAway.2.1 56 = some (.invokestatic 35) := by decide +kernel
theorem f_Cho_sendAway_59 : fch r_Cho_sendAway.2.1 59 = some (.aload_n 0) := by decide +kernel
theorem f_Cho_sendAway_60 : fch r_Cho_sendAway.2.1 60 = some (.getfield 18) := by decide +kernel
theorem f_Cho_sendAway_63 : fch r_Cho_sendAway.2.1 63 = some (.aload_n 0) := by decide +kernel
theorem f_Cho_sendAway_64 : fch r_Cho_sendAway.2.1 64 = some (.getfield 39) := by decide +kernel
theorem f_Cho_sendAway_67 : fch r_Cho_sendAway.2.1 67 = some (.iload_n 2) := by decide +kernel
theorem f_Cho_sendAway_68 : fch r_Cho_sendAway.2.1 68 = some (.invokestatic 35) := by decide +kernel
theorem f_Cho_sendAway_71 : fch r_Cho_sendAway.2.1 71 = some (.aload_n 0) := by decide +kernel
theorem f_Cho_sendAway_72 : fch r_Cho_sendAway.2.1 72 = some (.getfield 21) := by decide +kernel
theorem f_Cho_sendAway_75 : fch r_Cho_sendAway.2.1 75 = some (.aload_n 0) := by decide +kernel
theorem f_Cho_sendAway_76 : fch r_Cho_sendAway.2.1 76 = some (.getfield 39) := by decide +kernel
theorem f_Cho_sendAway_79 : fch r_Cho_sendAway.2.1 79 = some (.iload_n 3) := by decide +kernel
theorem f_Cho_sendAway_80 : fch r_Cho_sendAway.2.1 80 = some (.invokestatic 35) := by decide +kernel
theorem f_Cho_sendAway_83 : fch r_Cho_sendAway.2.1 83 = some (.aload_n 0) := by decide +kernel
theorem f_Cho_sendAway_84 : fch r_Cho_sendAway.2.1 84 = some (.getfield 24) := by decide +kernel
theorem f_Cho_sendAway_87 : fch r_Cho_sendAway.2.1 87 = some (.aload_n 0) := by decide +kernel
theorem f_Cho_sendAway_88 : fch r_Cho_sendAway.2.1 88 = some (.getfield 39) := by decide +kernel
theorem f_Cho_sendAway_91 : fch r_Cho_sendAway.2.1 91 = some (.iload 4) := by decide +kernel
theorem f_Cho_sendAway_93 : fch r_Cho_sendAway.2.1 93 = some (.invokestatic 35) := by decide +kernel
theorem f_Cho_sendAway_96 : fch r_Cho_sendAway.2.1 96 = some (.aload_n 0) := by decide +kernel
theorem f_Cho_sendAway_97 : fch r_Cho_sendAway.2.1 97 = some (.dup) := by decide +kernel
theorem f_Cho_sendAway_98 : fch r_Cho_sendAway.2.1 98 = some (.getfield 39) := by decide +kernel
theorem f_Cho_sendAway_101 : fch r_Cho_sendAway.2.1 101 = some (.iconst 1) := by decide +kernel
theorem f_Cho_sendAway_102 : fch r_Cho_sendAway.2.1 102 = some (.iadd) := by decide +kernel
theorem f_Cho_sendAway_103 : fch r_Cho_sendAway.2.1 103 = some (.putfield 39) := by decide +kernel
theorem f_Cho_sendAway_106 : fch r_Cho_sendAway.2.1 106 = some (.aload_n 0) := by decide +kernel
theorem f_Cho_sendAway_107 : fch r_Cho_sendAway.2.1 107 = some (.getfield 39) := by decide +kernel
theorem f_Cho_sendAway_110 : fch r_Cho_sendAway.2.1 110 = some (.ireturn) := by decide +kernel
theorem f_Cho_hasMonk_0 : fch r_Cho_hasMonk.2.1 0 = some (.iload_n 1) := by decide +kernel
theorem f_Cho_hasMonk_1 : fch r_Cho_hasMonk.2.1 1 = some (.ifCond .lt 15) := by decide +kernel
theorem f_Cho_hasMonk_4 : fch r_Cho_hasMonk.2.1 4 = some (.iload_n 1) := by decide +kernel
theorem f_Cho_hasMonk_5 : fch r_Cho_hasMonk.2.1 5 = some (.aload_n 0) := by decide +kernel
theorem f_Cho_hasMonk_6 : fch r_Cho_hasMonk.2.1 6 = some (.getfield 27) := by decide +kernel
theorem f_Cho_hasMonk_9 : fch r_Cho_hasMonk.2.1 9 = some (.if_icmp .ge 7) := by decide +kernel
theorem f_Cho_hasMonk_12 : fch r_Cho_hasMonk.2.1 12 = some (.iconst 1) := by decide +kernel
theorem f_Cho_hasMonk_13 : fch r_Cho_hasMonk.2.1 13 = some (.goto 4) := by decide +kernel
theorem f_Cho_hasMonk_16 : fch r_Cho_hasMonk.2.1 16 = some (.iconst 0) := by decide +kernel
theorem f_Cho_hasMonk_17 : fch r_Cho_hasMonk.2.1 17 = some (.ireturn) := by decide +kernel
theorem f_Bk_roster_0 : fch r_Bk_roster.2.1 0 = some (.iload_n 3) := by decide +kernel
theorem f_Bk_roster_1 : fch r_Bk_roster.2.1 1 = some (.iconst 1) := by decide +kernel
theorem f_Bk_roster_2 : fch r_Bk_roster.2.1 2 = some (.bipush 60) := by decide +kernel
theorem f_Bk_roster_4 : fch r_Bk_roster.2.1 4 = some (.invokestatic 155) := by decide +kernel
theorem f_Bk_roster_7 : fch r_Bk_roster.2.1 7 = some (.ifCond .eq 31) := by decide +kernel
theorem f_Bk_roster_10 : fch r_Bk_roster.2.1 10 = some (.aload_n 0) := by decide +kernel
theorem f_Bk_roster_11 : fch r_Bk_roster.2.1 11 = some (.getfield 28) := by decide +kernel
theorem f_Bk_roster_14 : fch r_Bk_roster.2.1 14 = some (.iload_n 1) := by decide +kernel
theorem f_Bk_roster_15 : fch r_Bk_roster.2.1 15 = some (.iload_n 2) := by decide +kernel
theorem f_Bk_roster_16 : fch r_Bk_roster.2.1 16 = some (.invokevirtual 107) := by decide +kernel
theorem f_Bk_roster_19 : fch r_Bk_roster.2.1 19 = some (.ifCond .eq 19) := by decide +kernel
theorem f_Bk_roster_22 : fch r_Bk_roster.2.1 22 = some (.aload_n 0) := by decide +kernel
theorem f_Bk_roster_23 : fch r_Bk_roster.2.1 23 = some (.getfield 28) := by decide +kernel
theorem f_Bk_roster_26 : fch r_Bk_roster.2.1 26 = some (.iload_n 1) := by decide +kernel
theorem f_Bk_roster_27 : fch r_Bk_roster.2.1 27 = some (.iload_n 2) := by decide +kernel
theorem f_Bk_roster_28 : fch r_Bk_roster.2.1 28 = some (.iload_n 3) := by decide +kernel
theorem f_Bk_roster_29 : fch r_Bk_roster.2.1 29 = some (.iadd) := by decide +kernel
theorem f_Bk_roster_30 : fch r_Bk_roster.2.1 30 = some (.iconst 1) := by decide +kernel
theorem f_Bk_roster_31 : fch r_Bk_roster.2.1 31 = some (.isub) := by decide +kernel
theorem f_Bk_roster_32 : fch r_Bk_roster.2.1 32 = some (.invokevirtual 107) := by decide +kernel
theorem f_Bk_roster_35 : fch r_Bk_roster.2.1 35 = some (.ifCond .ne 5) := by decide +kernel
theorem f_Bk_roster_38 : fch r_Bk_roster.2.1 38 = some (.iconst (-1)) := by decide +kernel
theorem f_Bk_roster_39 : fch r_Bk_roster.2.1 39 = some (.ireturn) := by decide +kernel
theorem f_Bk_roster_40 : fch r_Bk_roster.2.1 40 = some (.aload_n 0) := by decide +kernel
theorem f_Bk_roster_41 : fch r_Bk_roster.2.1 41 = some (.getfield 63) := by decide +kernel
theorem f_Bk_roster_44 : fch r_Bk_roster.2.1 44 = some (.aload_n 0) := by decide +kernel
theorem f_Bk_roster_45 : fch r_Bk_roster.2.1 45 = some (.getfield 56) := by decide +kernel
theorem f_Bk_roster_48 : fch r_Bk_roster.2.1 48 = some (.aload_n 0) := by decide +kernel
theorem f_Bk_roster_49 : fch r_Bk_roster.2.1 49 = some (.getfield 28) := by decide +kernel
theorem f_Bk_roster_52 : fch r_Bk_roster.2.1 52 = some (.iload_n 2) := by decide +kernel
theorem f_Bk_roster_53 : fch r_Bk_roster.2.1 53 = some (.iload_n 3) := by decide +kernel
theorem f_Bk_roster_54 : fch r_Bk_roster.2.1 54 = some (.invokevirtual 233) := by decide +kernel
theorem f_Bk_roster_57 : fch r_Bk_roster.2.1 57 = some (.ireturn) := by decide +kernel
theorem f_Ros_make_0 : fch r_Ros_make.2.1 0 = some (.aload_n 0) := by decide +kernel
theorem f_Ros_make_1 : fch r_Ros_make.2.1 1 = some (.iload 4) := by decide +kernel
theorem f_Ros_make_3 : fch r_Ros_make.2.1 3 = some (.bipush 60) := by decide +kernel
theorem f_Ros_make_5 : fch r_Ros_make.2.1 5 = some (.invokestatic 26) := by decide +kernel
theorem f_Ros_make_8 : fch r_Ros_make.2.1 8 = some (.putfield 32) := by decide +kernel
theorem f_Ros_make_11 : fch r_Ros_make.2.1 11 = some (.iconst 0) := by decide +kernel
theorem f_Ros_make_12 : fch r_Ros_make.2.1 12 = some (.istore 5) := by decide +kernel
theorem f_Ros_make_14 : fch r_Ros_make.2.1 14 = some (.iload 5) := by decide +kernel
theorem f_Ros_make_16 : fch r_Ros_make.2.1 16 = some (.aload_n 0) := by decide +kernel
theorem f_Ros_make_17 : fch r_Ros_make.2.1 17 = some (.getfield 20) := by decide +kernel
theorem f_Ros_make_20 : fch r_Ros_make.2.1 20 = some (.arraylength) := by decide +kernel
theorem f_Ros_make_21 : fch r_Ros_make.2.1 21 = some (.if_icmp .ge 17) := by decide +kernel
theorem f_Ros_make_24 : fch r_Ros_make.2.1 24 = some (.aload_n 0) := by decide +kernel
theorem f_Ros_make_25 : fch r_Ros_make.2.1 25 = some (.getfield 20) := by decide +kernel
theorem f_Ros_make_28 : fch r_Ros_make.2.1 28 = some (.iload 5) := by decide +kernel
theorem f_Ros_make_30 : fch r_Ros_make.2.1 30 = some (.iconst 0) := by decide +kernel
theorem f_Ros_make_31 : fch r_Ros_make.2.1 31 = some (.iastore) := by decide +kernel
theorem f_Ros_make_32 : fch r_Ros_make.2.1 32 = some (.iinc 5 1) := by decide +kernel
theorem f_Ros_make_35 : fch r_Ros_make.2.1 35 = some (.goto (-21)) := by decide +kernel
theorem f_Ros_make_38 : fch r_Ros_make.2.1 38 = some (.iconst 0) := by decide +kernel
theorem f_Ros_make_39 : fch r_Ros_make.2.1 39 = some (.istore 5) := by decide +kernel
theorem f_Ros_make_41 : fch r_Ros_make.2.1 41 = some (.iload 5) := by decide +kernel
theorem f_Ros_make_43 : fch r_Ros_make.2.1 43 = some (.aload_n 0) := by decide +kernel
theorem f_Ros_make_44 : fch r_Ros_make.2.1 44 = some (.getfield 23) := by decide +kernel
theorem f_Ros_make_47 : fch r_Ros_make.2.1 47 = some (.arraylength) := by decide +kernel
theorem f_Ros_make_48 : fch r_Ros_make.2.1 48 = some (.if_icmp .ge 17) := by decide +kernel
theorem f_Ros_make_51 : fch r_Ros_make.2.1 51 = some (.aload_n 0) := by decide +kernel
theorem f_Ros_make_52 : fch r_Ros_make.2.1 52 = some (.getfield 23) := by decide +kernel
theorem f_Ros_make_55 : fch r_Ros_make.2.1 55 = some (.iload 5) := by decide +kernel
theorem f_Ros_make_57 : fch r_Ros_make.2.1 57 = some (.iconst (-1)) := by decide +kernel
theorem f_Ros_make_58 : fch r_Ros_make.2.1 58 = some (.iastore) := by decide +kernel
theorem f_Ros_make_59 : fch r_Ros_make.2.1 59 = some (.iinc 5 1) := by decide +kernel
theorem f_Ros_make_62 : fch r_Ros_make.2.1 62 = some (.goto (-21)) := by decide +kernel
theorem f_Ros_make_65 : fch r_Ros_make.2.1 65 = some (.iconst 0) := by decide +kernel
theorem f_Ros_make_66 : fch r_Ros_make.2.1 66 = some (.istore 5) := by decide +kernel
theorem f_Ros_make_68 : fch r_Ros_make.2.1 68 = some (.iconst 0) := by decide +kernel
theorem f_Ros_make_69 : fch r_Ros_make.2.1 69 = some (.istore 6) := by decide +kernel
theorem f_Ros_make_71 : fch r_Ros_make.2.1 71 = some (.iload 6) := by decide +kernel
theorem f_Ros_make_73 : fch r_Ros_make.2.1 73 = some (.aload_n 0) := by decide +kernel
theorem f_Ros_make_74 : fch r_Ros_make.2.1 74 = some (.getfield 32) := by decide +kernel
theorem f_Ros_make_77 : fch r_Ros_make.2.1 77 = some (.if_icmp .ge 50) := by decide +kernel
theorem f_Ros_make_80 : fch r_Ros_make.2.1 80 = some (.aload_n 0) := by decide +kernel
theorem f_Ros_make_81 : fch r_Ros_make.2.1 81 = some (.getfield 15) := by decide +kernel
theorem f_Ros_make_84 : fch r_Ros_make.2.1 84 = some (.iload 6) := by decide +kernel
theorem f_Ros_make_86 : fch r_Ros_make.2.1 86 = some (.aload_n 2) := by decide +kernel
theorem f_Ros_make_87 : fch r_Ros_make.2.1 87 = some (.iload_n 3) := by decide +kernel
theorem f_Ros_make_88 : fch r_Ros_make.2.1 88 = some (.iload 6) := by decide +kernel
theorem f_Ros_make_90 : fch r_Ros_make.2.1 90 = some (.iadd) := by decide +kernel
theorem f_Ros_make_91 : fch r_Ros_make.2.1 91 = some (.invokevirtual 36) := by decide +kernel
theorem f_Ros_make_94 : fch r_Ros_make.2.1 94 = some (.invokestatic 42) := by decide +kernel
theorem f_Ros_make_97 : fch r_Ros_make.2.1 97 = some (.iload 5) := by decide +kernel
theorem f_Ros_make_99 : fch r_Ros_make.2.1 99 = some (.aload_n 0) := by decide +kernel
theorem f_Ros_make_100 : fch r_Ros_make.2.1 100 = some (.aload_n 1) := by decide +kernel
theorem f_Ros_make_101 : fch r_Ros_make.2.1 101 = some (.iload 6) := by decide +kernel
theorem f_Ros_make_103 : fch r_Ros_make.2.1 103 = some (.aload_n 1) := by decide +kernel
theorem f_Ros_make_104 : fch r_Ros_make.2.1 104 = some (.aload_n 2) := by decide +kernel
theorem f_Ros_make_105 : fch r_Ros_make.2.1 105 = some (.invokevirtual 46) := by decide +kernel
theorem f_Ros_make_108 : fch r_Ros_make.2.1 108 = some (.iload_n 3) := by decide +kernel
theorem f_Ros_make_109 : fch r_Ros_make.2.1 109 = some (.iload 6) := by decide +kernel
theorem f_Ros_make_111 : fch r_Ros_make.2.1 111 = some (.iadd) := by decide +kernel
theorem f_Ros_make_112 : fch r_Ros_make.2.1 112 = some (.invokevirtual 50) := by decide +kernel
theorem f_Ros_make_115 : fch r_Ros_make.2.1 115 = some (.invokevirtual 53) := by decide +kernel
theorem f_Ros_make_118 : fch r_Ros_make.2.1 118 = some (.iadd) := by decide +kernel
theorem f_Ros_make_119 : fch r_Ros_make.2.1 119 = some (.istore 5) := by decide +kernel
theorem f_Ros_make_121 : fch r_Ros_make.2.1 121 = some (.iinc 6 1) := by decide +kernel
theorem f_Ros_make_124 : fch r_Ros_make.2.1 124 = some (.goto (-53)) := by decide +kernel
theorem f_Ros_make_127 : fch r_Ros_make.2.1 127 = some (.iload 5) := by decide +kernel
theorem f_Ros_make_129 : fch r_Ros_make.2.1 129 = some (.ireturn) := by decide +kernel
theorem f_Alm_yearMadeFor_0 : fch r_Alm_yearMadeFor.2.1 0 = some (.aload_n 0) := by decide +kernel
theorem f_Alm_yearMadeFor_1 : fch r_Alm_yearMadeFor.2.1 1 = some (.getfield 27) := by decide +kernel
theorem f_Alm_yearMadeFor_4 : fch r_Alm_yearMadeFor.2.1 4 = some (.ireturn) := by decide +kernel
theorem f_Cho_awayBits_0 : fch r_Cho_awayBits.2.1 0 = some (.iconst 0) := by decide +kernel
theorem f_Cho_awayBits_1 : fch r_Cho_awayBits.2.1 1 = some (.istore_n 3) := by decide +kernel
theorem f_Cho_awayBits_2 : fch r_Cho_awayBits.2.1 2 = some (.iconst 0) := by decide +kernel
theorem f_Cho_awayBits_3 : fch r_Cho_awayBits.2.1 3 = some (.istore 4) := by decide +kernel
theorem f_Cho_awayBits_5 : fch r_Cho_awayBits.2.1 5 = some (.iload 4) := by decide +kernel
theorem f_Cho_awayBits_7 : fch r_Cho_awayBits.2.1 7 = some (.aload_n 0) := by decide +kernel
theorem f_Cho_awayBits_8 : fch r_Cho_awayBits.2.1 8 = some (.getfield 39) := by decide +kernel
theorem f_Cho_awayBits_11 : fch r_Cho_awayBits.2.1 11 = some (.if_icmp .ge 61) := by decide +kernel
theorem f_Cho_awayBits_14 : fch r_Cho_awayBits.2.1 14 = some (.aload_n 0) := by decide +kernel
theorem f_Cho_awayBits_15 : fch r_Cho_awayBits.2.1 15 = some (.getfield 18) := by decide +kernel
theorem f_Cho_awayBits_18 : fch r_Cho_awayBits.2.1 18 = some (.iload 4) := by decide +kernel
theorem f_Cho_awayBits_20 : fch r_Cho_awayBits.2.1 20 = some (.invokestatic 55) := by decide +kernel
theorem f_Cho_awayBits_23 : fch r_Cho_awayBits.2.1 23 = some (.iload_n 1) := by decide +kernel
theorem f_Cho_awayBits_24 : fch r_Cho_awayBits.2.1 24 = some (.if_icmp .ne 42) := by decide +kernel
theorem f_Cho_awayBits_27 : fch r_Cho_awayBits.2.1 27 = some (.iload_n 2) := by decide +kernel
theorem f_Cho_awayBits_28 : fch r_Cho_awayBits.2.1 28 = some (.aload_n 0) := by decide +kernel
theorem f_Cho_awayBits_29 : fch r_Cho_awayBits.2.1 29 = some (.getfield 21) := by decide +kernel
theorem f_Cho_awayBits_32 : fch r_Cho_awayBits.2.1 32 = some (.iload 4) := by decide +kernel
theorem f_Cho_awayBits_34 : fch r_Cho_awayBits.2.1 34 = some (.invokestatic 55) := by decide +kernel
theorem f_Cho_awayBits_37 : fch r_Cho_awayBits.2.1 37 = some (.aload_n 0) := by decide +kernel
theorem f_Cho_awayBits_38 : fch r_Cho_awayBits.2.1 38 = some (.getfield 24) := by decide +kernel
theorem f_Cho_awayBits_41 : fch r_Cho_awayBits.2.1 41 = some (.iload 4) := by decide +kernel
theorem f_Cho_awayBits_43 : fch r_Cho_awayBits.2.1 43 = some (.invokestatic 55) := by decide +kernel
theorem f_Cho_awayBits_46 : fch r_Cho_awayBits.2.1 46 = some (.invokestatic 31) := by decide +kernel
theorem f_Cho_awayBits_49 : fch r_Cho_awayBits.2.1 49 = some (.ifCond .eq 17) := by decide +kernel
theorem f_Cho_awayBits_52 : fch r_Cho_awayBits.2.1 52 = some (.iload_n 3) := by decide +kernel
theorem f_Cho_awayBits_53 : fch r_Cho_awayBits.2.1 53 = some (.iconst 1) := by decide +kernel
theorem f_Cho_awayBits_54 : fch r_Cho_awayBits.2.1 54 = some (.aload_n 0) := by decide +kernel
theorem f_Cho_awayBits_55 : fch r_Cho_awayBits.2.1 55 = some (.getfield 15) := by decide +kernel
theorem f_Cho_awayBits_58 : fch r_Cho_awayBits.2.1 58 = some (.iload 4) := by decide +kernel
theorem f_Cho_awayBits_60 : fch r_Cho_awayBits.2.1 60 = some (.invokestatic 55) := by decide +kernel
theorem f_Cho_awayBits_63 : fch r_Cho_awayBits.2.1 63 = some (.ishl) := by decide +kernel
theorem f_Cho_awayBits_64 : fch r_Cho_awayBits.2.1 64 = some (.ior) := by decide +kernel
theorem f_Cho_awayBits_65 : fch r_Cho_awayBits.2.1 65 = some (.istore_n 3) := by decide +kernel
theorem f_Cho_awayBits_66 : fch r_Cho_awayBits.2.1 66 = some (.iinc 4 1) := by decide +kernel
theorem f_Cho_awayBits_69 : fch r_Cho_awayBits.2.1 69 = some (.goto (-64)) := by decide +kernel
theorem f_Cho_awayBits_72 : fch r_Cho_awayBits.2.1 72 = some (.iload_n 3) := by decide +kernel
theorem f_Cho_awayBits_73 : fch r_Cho_awayBits.2.1 73 = some (.ireturn) := by decide +kernel
theorem f_Ros_fillDay_0 : fch r_Ros_fillDay.2.1 0 = some (.iload_n 3) := by decide +kernel
theorem f_Ros_fillDay_1 : fch r_Ros_fillDay.2.1 1 = some (.istore 4) := by decide +kernel
theorem f_Ros_fillDay_3 : fch r_Ros_fillDay.2.1 3 = some (.iconst 0) := by decide +kernel
theorem f_Ros_fillDay_4 : fch r_Ros_fillDay.2.1 4 = some (.istore 5) := by decide +kernel
theorem f_Ros_fillDay_6 : fch r_Ros_fillDay.2.1 6 = some (.iconst 0) := by decide +kernel
theorem f_Ros_fillDay_7 : fch r_Ros_fillDay.2.1 7 = some (.istore 6) := by decide +kernel
theorem f_Ros_fillDay_9 : fch r_Ros_fillDay.2.1 9 = some (.iload 6) := by decide +kernel
theorem f_Ros_fillDay_11 : fch r_Ros_fillDay.2.1 11 = some (.iconst 3) := by decide +kernel
theorem f_Ros_fillDay_12 : fch r_Ros_fillDay.2.1 12 = some (.if_icmp .ge 99) := by decide +kernel
theorem f_Ros_fillDay_15 : fch r_Ros_fillDay.2.1 15 = some (.iload 6) := by decide +kernel
theorem f_Ros_fillDay_17 : fch r_Ros_fillDay.2.1 17 = some (.aload_n 0) := by decide +kernel
theorem f_Ros_fillDay_18 : fch r_Ros_fillDay.2.1 18 = some (.getfield 15) := by decide +kernel
theorem f_Ros_fillDay_21 : fch r_Ros_fillDay.2.1 21 = some (.iload_n 2) := by decide +kernel
theorem f_Ros_fillDay_22 : fch r_Ros_fillDay.2.1 22 = some (.invokestatic 57) := by decide +kernel
theorem f_Ros_fillDay_25 : fch r_Ros_fillDay.2.1 25 = some (.invokestatic 61) := by decide +kernel
theorem f_Ros_fillDay_28 : fch r_Ros_fillDay.2.1 28 = some (.istore 7) := by decide +kernel
theorem f_Ros_fillDay_30 : fch r_Ros_fillDay.2.1 30 = some (.iconst 0) := by decide +kernel
theorem f_Ros_fillDay_31 : fch r_Ros_fillDay.2.1 31 = some (.istore 8) := by decide +kernel
theorem f_Ros_fillDay_33 : fch r_Ros_fillDay.2.1 33 = some (.iload 8) := by decide +kernel
theorem f_Ros_fillDay_35 : fch r_Ros_fillDay.2.1 35 = some (.iload 7) := by decide +kernel
theorem f_Ros_fillDay_37 : fch r_Ros_fillDay.2.1 37 = some (.if_icmp .ge 68) := by decide +kernel
theorem f_Ros_fillDay_40 : fch r_Ros_fillDay.2.1 40 = some (.aload_n 0) := by decide +kernel
theorem f_Ros_fillDay_41 : fch r_Ros_fillDay.2.1 41 = some (.aload_n 1) := by decide +kernel
theorem f_Ros_fillDay_42 : fch r_Ros_fillDay.2.1 42 = some (.iload 6) := by decide +kernel
theorem f_Ros_fillDay_44 : fch r_Ros_fillDay.2.1 44 = some (.iload 4) := by decide +kernel
theorem f_Ros_fillDay_46 : fch r_Ros_fillDay.2.1 46 = some (.invokevirtual 64) := by decide +kernel
theorem f_Ros_fillDay_49 : fch r_Ros_fillDay.2.1 49 = some (.istore 9) := by decide +kernel
theorem f_Ros_fillDay_51 : fch r_Ros_fillDay.2.1 51 = some (.aload_n 0) := by decide +kernel
theorem f_Ros_fillDay_52 : fch r_Ros_fillDay.2.1 52 = some (.getfield 11) := by decide +kernel
theorem f_Ros_fillDay_55 : fch r_Ros_fillDay.2.1 55 = some (.iload_n 2) := by decide +kernel
theorem f_Ros_fillDay_56 : fch r_Ros_fillDay.2.1 56 = some (.iload 6) := by decide +kernel
theorem f_Ros_fillDay_58 : fch r_Ros_fillDay.2.1 58 = some (.iload 8) := by decide +kernel
theorem f_Ros_fillDay_60 : fch r_Ros_fillDay.2.1 60 = some (.invokestatic 67) := by decide +kernel
theorem f_Ros_fillDay_63 : fch r_Ros_fillDay.2.1 63 = some (.iload 9) := by decide +kernel
theorem f_Ros_fillDay_65 : fch r_Ros_fillDay.2.1 65 = some (.invokestatic 42) := by decide +kernel
theorem f_Ros_fillDay_68 : fch r_Ros_fillDay.2.1 68 = some (.iload 9) := by decide +kernel
theorem f_Ros_fillDay_70 : fch r_Ros_fillDay.2.1 70 = some (.bipush (-2)) := by decide +kernel
theorem f_Ros_fillDay_72 : fch r_Ros_fillDay.2.1 72 = some (.if_icmp .ne 9) := by decide +kernel
theorem f_Ros_fillDay_75 : fch r_Ros_fillDay.2.1 75 = some (.iinc 5 1) := by decide +kernel
theorem f_Ros_fillDay_78 : fch r_Ros_fillDay.2.1 78 = some (.goto 21) := by decide +kernel
theorem f_Ros_fillDay_81 : fch r_Ros_fillDay.2.1 81 = some (.iload 4) := by decide +kernel
theorem f_Ros_fillDay_83 : fch r_Ros_fillDay.2.1 83 = some (.iconst 1) := by decide +kernel
theorem f_Ros_fillDay_84 : fch r_Ros_fillDay.2.1 84 = some (.iload 9) := by decide +kernel
theorem f_Ros_fillDay_86 : fch r_Ros_fillDay.2.1 86 = some (.ishl) := by decide +kernel
theorem f_Ros_fillDay_87 : fch r_Ros_fillDay.2.1 87 = some (.ior) := by decide +kernel
theorem f_Ros_fillDay_88 : fch r_Ros_fillDay.2.1 88 = some (.istore 4) := by decide +kernel
theorem f_Ros_fillDay_90 : fch r_Ros_fillDay.2.1 90 = some (.aload_n 0) := by decide +kernel
theorem f_Ros_fillDay_91 : fch r_Ros_fillDay.2.1 91 = some (.iload 9) := by decide +kernel
theorem f_Ros_fillDay_93 : fch r_Ros_fillDay.2.1 93 = some (.iload 6) := by decide +kernel
theorem f_Ros_fillDay_95 : fch r_Ros_fillDay.2.1 95 = some (.iload_n 2) := by decide +kernel
theorem f_Ros_fillDay_96 : fch r_Ros_fillDay.2.1 96 = some (.invokevirtual 71) := by decide +kernel
theorem f_Ros_fillDay_99 : fch r_Ros_fillDay.2.1 99 = some (.iinc 8 1) := by decide +kernel
theorem f_Ros_fillDay_102 : fch r_Ros_fillDay.2.1 102 = some (.goto (-69)) := by decide +kernel
theorem f_Ros_fillDay_105 : fch r_Ros_fillDay.2.1 105 = some (.iinc 6 1) := by decide +kernel
theorem f_Ros_fillDay_108 : fch r_Ros_fillDay.2.1 108 = some (.goto (-99)) := by decide +kernel
theorem f_Ros_fillDay_111 : fch r_Ros_fillDay.2.1 111 = some (.iload 5) := by decide +kernel
theorem f_Ros_fillDay_113 : fch r_Ros_fillDay.2.1 113 = some (.ireturn) := by decide +kernel
theorem f_Ros_manySeats_0 : fch r_Ros_manySeats.2.1 0 = some (.iload_n 0) := by decide +kernel
theorem f_Ros_manySeats_1 : fch r_Ros_manySeats.2.1 1 = some (.tableswitch 72 0 2 #[27, 29, 50]) := by decide +kernel
theorem f_Ros_manySeats_28 : fch r_Ros_manySeats.2.1 28 = some (.iconst 1) := by decide +kernel
theorem f_Ros_manySeats_29 : fch r_Ros_manySeats.2.1 29 = some (.ireturn) := by decide +kernel
theorem f_Ros_manySeats_30 : fch r_Ros_manySeats.2.1 30 = some (.iload_n 1) := by decide +kernel
theorem f_Ros_manySeats_31 : fch r_Ros_manySeats.2.1 31 = some (.bipush 7) := by decide +kernel
theorem f_Ros_manySeats_33 : fch r_Ros_manySeats.2.1 33 = some (.if_icmp .lt 7) := by decide +kernel
theorem f_Ros_manySeats_36 : fch r_Ros_manySeats.2.1 36 = some (.iconst 4) := by decide +kernel
theorem f_Ros_manySeats_37 : fch r_Ros_manySeats.2.1 37 = some (.goto 13) := by decide +kernel
theorem f_Ros_manySeats_40 : fch r_Ros_manySeats.2.1 40 = some (.iload_n 1) := by decide +kernel
theorem f_Ros_manySeats_41 : fch r_Ros_manySeats.2.1 41 = some (.iconst 4) := by decide +kernel
theorem f_Ros_manySeats_42 : fch r_Ros_manySeats.2.1 42 = some (.if_icmp .lt 7) := by decide +kernel
theorem f_Ros_manySeats_45 : fch r_Ros_manySeats.2.1 45 = some (.iconst 2) := by decide +kernel
theorem f_Ros_manySeats_46 : fch r_Ros_manySeats.2.1 46 = some (.goto 4) := by decide +kernel
theorem f_Ros_manySeats_49 : fch r_Ros_manySeats.2.1 49 = some (.iconst 1) := by decide +kernel
theorem f_Ros_manySeats_50 : fch r_Ros_manySeats.2.1 50 = some (.ireturn) := by decide +kernel
theorem f_Ros_manySeats_51 : fch r_Ros_manySeats.2.1 51 = some (.iload_n 1) := by decide +kernel
theorem f_Ros_manySeats_52 : fch r_Ros_manySeats.2.1 52 = some (.bipush 6) := by decide +kernel
theorem f_Ros_manySeats_54 : fch r_Ros_manySeats.2.1 54 = some (.if_icmp .lt 8) := by decide +kernel
theorem f_Ros_manySeats_57 : fch r_Ros_manySeats.2.1 57 = some (.bipush 6) := by decide +kernel
theorem f_Ros_manySeats_59 : fch r_Ros_manySeats.2.1 59 = some (.goto 13) := by decide +kernel
theorem f_Ros_manySeats_62 : fch r_Ros_manySeats.2.1 62 = some (.iload_n 1) := by decide +kernel
theorem f_Ros_manySeats_63 : fch r_Ros_manySeats.2.1 63 = some (.iconst 3) := by decide +kernel
theorem f_Ros_manySeats_64 : fch r_Ros_manySeats.2.1 64 = some (.if_icmp .lt 7) := by decide +kernel
theorem f_Ros_manySeats_67 : fch r_Ros_manySeats.2.1 67 = some (.iconst 3) := by decide +kernel
theorem f_Ros_manySeats_68 : fch r_Ros_manySeats.2.1 68 = some (.goto 4) := by decide +kernel
theorem f_Ros_manySeats_71 : fch r_Ros_manySeats.2.1 71 = some (.iconst 1) := by decide +kernel
theorem f_Ros_manySeats_72 : fch r_Ros_manySeats.2.1 72 = some (.ireturn) := by decide +kernel
theorem f_Ros_manySeats_73 : fch r_Ros_manySeats.2.1 73 = some (.iconst 0) := by decide +kernel
theorem f_Ros_manySeats_74 : fch r_Ros_manySeats.2.1 74 = some (.ireturn) := by decide +kernel
theorem f_Ros_nextMonk_0 : fch r_Ros_nextMonk.2.1 0 = some (.bipush (-2)) := by decide +kernel
theorem f_Ros_nextMonk_2 : fch r_Ros_nextMonk.2.1 2 = some (.istore 4) := by decide +kernel
theorem f_Ros_nextMonk_4 : fch r_Ros_nextMonk.2.1 4 = some (.iconst 0) := by decide +kernel
theorem f_Ros_nextMonk_5 : fch r_Ros_nextMonk.2.1 5 = some (.istore 5) := by decide +kernel
theorem f_Ros_nextMonk_7 : fch r_Ros_nextMonk.2.1 7 = some (.iload 5) := by decide +kernel
theorem f_Ros_nextMonk_9 : fch r_Ros_nextMonk.2.1 9 = some (.aload_n 1) := by decide +kernel
theorem f_Ros_nextMonk_10 : fch r_Ros_nextMonk.2.1 10 = some (.invokevirtual 75) := by decide +kernel
theorem f_Ros_nextMonk_13 : fch r_Ros_nextMonk.2.1 13 = some (.if_icmp .ge 63) := by decide +kernel
theorem f_Ros_nextMonk_16 : fch r_Ros_nextMonk.2.1 16 = some (.iload_n 3) := by decide +kernel
theorem f_Ros_nextMonk_17 : fch r_Ros_nextMonk.2.1 17 = some (.iconst 1) := by decide +kernel
theorem f_Ros_nextMonk_18 : fch r_Ros_nextMonk.2.1 18 = some (.iload 5) := by decide +kernel
theorem f_Ros_nextMonk_20 : fch r_Ros_nextMonk.2.1 20 = some (.ishl) := by decide +kernel
theorem f_Ros_nextMonk_21 : fch r_Ros_nextMonk.2.1 21 = some (.iand) := by decide +kernel
theorem f_Ros_nextMonk_22 : fch r_Ros_nextMonk.2.1 22 = some (.ifCond .ne 17) := by decide +kernel
theorem f_Ros_nextMonk_25 : fch r_Ros_nextMonk.2.1 25 = some (.aload_n 1) := by decide +kernel
theorem f_Ros_nextMonk_26 : fch r_Ros_nextMonk.2.1 26 = some (.iload 5) := by decide +kernel
theorem f_Ros_nextMonk_28 : fch r_Ros_nextMonk.2.1 28 = some (.iload_n 2) := by decide +kernel
theorem f_Ros_nextMonk_29 : fch r_Ros_nextMonk.2.1 29 = some (.invokevirtual 78) := by decide +kernel
theorem f_Ros_nextMonk_32 : fch r_Ros_nextMonk.2.1 32 = some (.ifCond .eq 7) := by decide +kernel
theorem f_Ros_nextMonk_35 : fch r_Ros_nextMonk.2.1 35 = some (.iconst 1) := by decide +kernel
theorem f_Ros_nextMonk_36 : fch r_Ros_nextMonk.2.1 36 = some (.goto 4) := by decide +kernel
theorem f_Ros_nextMonk_39 : fch r_Ros_nextMonk.2.1 39 = some (.iconst 0) := by decide +kernel
theorem f_Ros_nextMonk_40 : fch r_Ros_nextMonk.2.1 40 = some (.istore 6) := by decide +kernel
theorem f_Ros_nextMonk_42 : fch r_Ros_nextMonk.2.1 42 = some (.iload 6) := by decide +kernel
theorem f_Ros_nextMonk_44 : fch r_Ros_nextMonk.2.1 44 = some (.ifCond .eq 26) := by decide +kernel
theorem f_Ros_nextMonk_47 : fch r_Ros_nextMonk.2.1 47 = some (.iload 4) := by decide +kernel
theorem f_Ros_nextMonk_49 : fch r_Ros_nextMonk.2.1 49 = some (.bipush (-2)) := by decide +kernel
theorem f_Ros_nextMonk_51 : fch r_Ros_nextMonk.2.1 51 = some (.if_icmp .eq 15) := by decide +kernel
theorem f_Ros_nextMonk_54 : fch r_Ros_nextMonk.2.1 54 = some (.aload_n 0) := by decide +kernel
theorem f_Ros_nextMonk_55 : fch r_Ros_nextMonk.2.1 55 = some (.iload 5) := by decide +kernel
theorem f_Ros_nextMonk_57 : fch r_Ros_nextMonk.2.1 57 = some (.iload 4) := by decide +kernel
theorem f_Ros_nextMonk_59 : fch r_Ros_nextMonk.2.1 59 = some (.iload_n 2) := by decide +kernel
theorem f_Ros_nextMonk_60 : fch r_Ros_nextMonk.2.1 60 = some (.invokevirtual 82) := by decide +kernel
theorem f_Ros_nextMonk_63 : fch r_Ros_nextMonk.2.1 63 = some (.ifCond .eq 7) := by decide +kernel
theorem f_Ros_nextMonk_66 : fch r_Ros_nextMonk.2.1 66 = some (.iload 5) := by decide +kernel
theorem f_Ros_nextMonk_68 : fch r_Ros_nextMonk.2.1 68 = some (.istore 4) := by decide +kernel
theorem f_Ros_nextMonk_70 : fch r_Ros_nextMonk.2.1 70 = some (.iinc 5 1) := by decide +kernel
theorem f_Ros_nextMonk_73 : fch r_Ros_nextMonk.2.1 73 = some (.goto (-66)) := by decide +kernel
theorem f_Ros_nextMonk_76 : fch r_Ros_nextMonk.2.1 76 = some (.iload 4) := by decide +kernel
theorem f_Ros_nextMonk_78 : fch r_Ros_nextMonk.2.1 78 = some (.ireturn) := by decide +kernel
theorem f_Cho_count_0 : fch r_Cho_count.2.1 0 = some (.aload_n 0) := by decide +kernel
theorem f_Cho_count_1 : fch r_Cho_count.2.1 1 = some (.getfield 27) := by decide +kernel
theorem f_Cho_count_4 : fch r_Cho_count.2.1 4 = some (.ireturn) := by decide +kernel
theorem f_Cho_canDo_0 : fch r_Cho_canDo.2.1 0 = some (.aload_n 0) := by decide +kernel
theorem f_Cho_canDo_1 : fch r_Cho_canDo.2.1 1 = some (.iload_n 1) := by decide +kernel
theorem f_Cho_canDo_2 : fch r_Cho_canDo.2.1 2 = some (.invokevirtual 42) := by decide +kernel
theorem f_Cho_canDo_5 : fch r_Cho_canDo.2.1 5 = some (.ifCond .eq 22) := by decide +kernel
theorem f_Cho_canDo_8 : fch r_Cho_canDo.2.1 8 = some (.aload_n 0) := by decide +kernel
theorem f_Cho_canDo_9 : fch r_Cho_canDo.2.1 9 = some (.getfield 11) := by decide +kernel
theorem f_Cho_canDo_12 : fch r_Cho_canDo.2.1 12 = some (.iload_n 1) := by decide +kernel
theorem f_Cho_canDo_13 : fch r_Cho_canDo.2.1 13 = some (.invokestatic 55) := by decide +kernel
theorem f_Cho_canDo_16 : fch r_Cho_canDo.2.1 16 = some (.iconst 1) := by decide +kernel
theorem f_Cho_canDo_17 : fch r_Cho_canDo.2.1 17 = some (.iload_n 2) := by decide +kernel
theorem f_Cho_canDo_18 : fch r_Cho_canDo.2.1 18 = some (.ishl) := by decide +kernel
theorem f_Cho_canDo_19 : fch r_Cho_canDo.2.1 19 = some (.iand) := by decide +kernel
theorem f_Cho_canDo_20 : fch r_Cho_canDo.2.1 20 = some (.ifCond .eq 7) := by decide +kernel
theorem f_Cho_canDo_23 : fch r_Cho_canDo.2.1 23 = some (.iconst 1) := by decide +kernel
theorem f_Cho_canDo_24 : fch r_Cho_canDo.2.1 24 = some (.goto 4) := by decide +kernel
theorem f_Cho_canDo_27 : fch r_Cho_canDo.2.1 27 = some (.iconst 0) := by decide +kernel
theorem f_Cho_canDo_28 : fch r_Cho_canDo.2.1 28 = some (.ireturn) := by decide +kernel
theorem f_Ros_isAhead_0 : fch r_Ros_isAhead.2.1 0 = some (.iload_n 1) := by decide +kernel
theorem f_Ros_isAhead_1 : fch r_Ros_isAhead.2.1 1 = some (.iconst 3) := by decide +kernel
theorem f_Ros_isAhead_2 : fch r_Ros_isAhead.2.1 2 = some (.imul) := by decide +kernel
theorem f_Ros_isAhead_3 : fch r_Ros_isAhead.2.1 3 = some (.iload_n 3) := by decide +kernel
theorem f_Ros_isAhead_4 : fch r_Ros_isAhead.2.1 4 = some (.iadd) := by decide +kernel
theorem f_Ros_isAhead_5 : fch r_Ros_isAhead.2.1 5 = some (.istore 4) := by decide +kernel
theorem f_Ros_isAhead_7 : fch r_Ros_isAhead.2.1 7 = some (.iload_n 2) := by decide +kernel
theorem f_Ros_isAhead_8 : fch r_Ros_isAhead.2.1 8 = some (.iconst 3) := by decide +kernel
theorem f_Ros_isAhead_9 : fch r_Ros_isAhead.2.1 9 = some (.imul) := by decide +kernel
theorem f_Ros_isAhead_10 : fch r_Ros_isAhead.2.1 10 = some (.iload_n 3) := by decide +kernel
theorem f_Ros_isAhead_11 : fch r_Ros_isAhead.2.1 11 = some (.iadd) := by decide +kernel
theorem f_Ros_isAhead_12 : fch r_Ros_isAhead.2.1 12 = some (.istore 5) := by decide +kernel
theorem f_Ros_isAhead_14 : fch r_Ros_isAhead.2.1 14 = some (.aload_n 0) := by decide +kernel
theorem f_Ros_isAhead_15 : fch r_Ros_isAhead.2.1 15 = some (.getfield 20) := by decide +kernel
theorem f_Ros_isAhead_18 : fch r_Ros_isAhead.2.1 18 = some (.iload 4) := by decide +kernel
theorem f_Ros_isAhead_20 : fch r_Ros_isAhead.2.1 20 = some (.invokestatic 57) := by decide +kernel
theorem f_Ros_isAhead_23 : fch r_Ros_isAhead.2.1 23 = some (.aload_n 0) := by decide +kernel
theorem f_Ros_isAhead_24 : fch r_Ros_isAhead.2.1 24 = some (.getfield 20) := by decide +kernel
theorem f_Ros_isAhead_27 : fch r_Ros_isAhead.2.1 27 = some (.iload 5) := by decide +kernel
theorem f_Ros_isAhead_29 : fch r_Ros_isAhead.2.1 29 = some (.invokestatic 57) := by decide +kernel
theorem f_Ros_isAhead_32 : fch r_Ros_isAhead.2.1 32 = some (.if_icmp .eq 30) := by decide +kernel
theorem f_Ros_isAhead_35 : fch r_Ros_isAhead.2.1 35 = some (.aload_n 0) := by decide +kernel
theorem f_Ros_isAhead_36 : fch r_Ros_isAhead.2.1 36 = some (.getfield 20) := by decide +kernel
theorem f_Ros_isAhead_39 : fch r_Ros_isAhead.2.1 39 = some (.iload 4) := by decide +kernel
theorem f_Ros_isAhead_41 : fch r_Ros_isAhead.2.1 41 = some (.invokestatic 57) := by decide +kernel
theorem f_Ros_isAhead_44 : fch r_Ros_isAhead.2.1 44 = some (.aload_n 0) := by decide +kernel
theorem f_Ros_isAhead_45 : fch r_Ros_isAhead.2.1 45 = some (.getfield 20) := by decide +kernel
theorem f_Ros_isAhead_48 : fch r_Ros_isAhead.2.1 48 = some (.iload 5) := by decide +kernel
theorem f_Ros_isAhead_50 : fch r_Ros_isAhead.2.1 50 = some (.invokestatic 57) := by decide +kernel
theorem f_Ros_isAhead_53 : fch r_Ros_isAhead.2.1 53 = some (.if_icmp .ge 7) := by decide +kernel
theorem f_Ros_isAhead_56 : fch r_Ros_isAhead.2.1 56 = some (.iconst 1) := by decide +kernel
theorem f_Ros_isAhead_57 : fch r_Ros_isAhead.2.1 57 = some (.goto 4) := by decide +kernel
theorem f_Ros_isAhead_60 : fch r_Ros_isAhead.2.1 60 = some (.iconst 0) := by decide +kernel
theorem f_Ros_isAhead_61 : fch r_Ros_isAhead.2.1 61 = some (.ireturn) := by decide +kernel
theorem f_Ros_isAhead_62 : fch r_Ros_isAhead.2.1 62 = some (.aload_n 0) := by decide +kernel
theorem f_Ros_isAhead_63 : fch r_Ros_isAhead.2.1 63 = some (.getfield 23) := by decide +kernel
theorem f_Ros_isAhead_66 : fch r_Ros_isAhead.2.1 66 = some (.iload 4) := by decide +kernel
theorem f_Ros_isAhead_68 : fch r_Ros_isAhead.2.1 68 = some (.invokestatic 57) := by decide +kernel
theorem f_Ros_isAhead_71 : fch r_Ros_isAhead.2.1 71 = some (.aload_n 0) := by decide +kernel
theorem f_Ros_isAhead_72 : fch r_Ros_isAhead.2.1 72 = some (.getfield 23) := by decide +kernel
theorem f_Ros_isAhead_75 : fch r_Ros_isAhead.2.1 75 = some (.iload 5) := by decide +kernel
theorem f_Ros_isAhead_77 : fch r_Ros_isAhead.2.1 77 = some (.invokestatic 57) := by decide +kernel
theorem f_Ros_isAhead_80 : fch r_Ros_isAhead.2.1 80 = some (.if_icmp .ge 7) := by decide +kernel
theorem f_Ros_isAhead_83 : fch r_Ros_isAhead.2.1 83 = some (.iconst 1) := by decide +kernel
theorem f_Ros_isAhead_84 : fch r_Ros_isAhead.2.1 84 = some (.goto 4) := by decide +kernel
theorem f_Ros_isAhead_87 : fch r_Ros_isAhead.2.1 87 = some (.iconst 0) := by decide +kernel
theorem f_Ros_isAhead_88 : fch r_Ros_isAhead.2.1 88 = some (.ireturn) := by decide +kernel
theorem f_Ros_seatOf_0 : fch r_Ros_seatOf.2.1 0 = some (.iload_n 1) := by decide +kernel
theorem f_Ros_seatOf_1 : fch r_Ros_seatOf.2.1 1 = some (.ifCond .ne 7) := by decide +kernel
theorem f_Ros_seatOf_4 : fch r_Ros_seatOf.2.1 4 = some (.iconst 0) := by decide +kernel
theorem f_Ros_seatOf_5 : fch r_Ros_seatOf.2.1 5 = some (.goto 13) := by decide +kernel
theorem f_Ros_seatOf_8 : fch r_Ros_seatOf.2.1 8 = some (.iload_n 1) := by decide +kernel
theorem f_Ros_seatOf_9 : fch r_Ros_seatOf.2.1 9 = some (.iconst 1) := by decide +kernel
theorem f_Ros_seatOf_10 : fch r_Ros_seatOf.2.1 10 = some (.if_icmp .ne 7) := by decide +kernel
theorem f_Ros_seatOf_13 : fch r_Ros_seatOf.2.1 13 = some (.iconst 1) := by decide +kernel
theorem f_Ros_seatOf_14 : fch r_Ros_seatOf.2.1 14 = some (.goto 4) := by decide +kernel
theorem f_Ros_seatOf_17 : fch r_Ros_seatOf.2.1 17 = some (.iconst 5) := by decide +kernel
theorem f_Ros_seatOf_18 : fch r_Ros_seatOf.2.1 18 = some (.istore_n 3) := by decide +kernel
theorem f_Ros_seatOf_19 : fch r_Ros_seatOf.2.1 19 = some (.iload_n 0) := by decide +kernel
theorem f_Ros_seatOf_20 : fch r_Ros_seatOf.2.1 20 = some (.bipush 11) := by decide +kernel
theorem f_Ros_seatOf_22 : fch r_Ros_seatOf.2.1 22 = some (.imul) := by decide +kernel
theorem f_Ros_seatOf_23 : fch r_Ros_seatOf.2.1 23 = some (.iload_n 3) := by decide +kernel
theorem f_Ros_seatOf_24 : fch r_Ros_seatOf.2.1 24 = some (.iadd) := by decide +kernel
theorem f_Ros_seatOf_25 : fch r_Ros_seatOf.2.1 25 = some (.iload_n 2) := by decide +kernel
theorem f_Ros_seatOf_26 : fch r_Ros_seatOf.2.1 26 = some (.iadd) := by decide +kernel
theorem f_Ros_seatOf_27 : fch r_Ros_seatOf.2.1 27 = some (.ireturn) := by decide +kernel
theorem f_Ros_enter_0 : fch r_Ros_enter.2.1 0 = some (.iload_n 1) := by decide +kernel
theorem f_Ros_enter_1 : fch r_Ros_enter.2.1 1 = some (.iconst 3) := by decide +kernel
theorem f_Ros_enter_2 : fch r_Ros_enter.2.1 2 = some (.imul) := by decide +kernel
theorem f_Ros_enter_3 : fch r_Ros_enter.2.1 3 = some (.iload_n 2) := by decide +kernel
theorem f_Ros_enter_4 : fch r_Ros_enter.2.1 4 = some (.iadd) := by decide +kernel
theorem f_Ros_enter_5 : fch r_Ros_enter.2.1 5 = some (.istore 4) := by decide +kernel
theorem f_Ros_enter_7 : fch r_Ros_enter.2.1 7 = some (.aload_n 0) := by decide +kernel
theorem f_Ros_enter_8 : fch r_Ros_enter.2.1 8 = some (.getfield 20) := by decide +kernel
theorem f_Ros_enter_11 : fch r_Ros_enter.2.1 11 = some (.iload 4) := by decide +kernel
theorem f_Ros_enter_13 : fch r_Ros_enter.2.1 13 = some (.aload_n 0) := by decide +kernel
theorem f_Ros_enter_14 : fch r_Ros_enter.2.1 14 = some (.getfield 20) := by decide +kernel
theorem f_Ros_enter_17 : fch r_Ros_enter.2.1 17 = some (.iload 4) := by decide +kernel
theorem f_Ros_enter_19 : fch r_Ros_enter.2.1 19 = some (.invokestatic 57) := by decide +kernel
theorem f_Ros_enter_22 : fch r_Ros_enter.2.1 22 = some (.iconst 1) := by decide +kernel
theorem f_Ros_enter_23 : fch r_Ros_enter.2.1 23 = some (.iadd) := by decide +kernel
theorem f_Ros_enter_24 : fch r_Ros_enter.2.1 24 = some (.invokestatic 42) := by decide +kernel
theorem f_Ros_enter_27 : fch r_Ros_enter.2.1 27 = some (.aload_n 0) := by decide +kernel
theorem f_Ros_enter_28 : fch r_Ros_enter.2.1 28 = some (.getfield 23) := by decide +kernel
theorem f_Ros_enter_31 : fch r_Ros_enter.2.1 31 = some (.iload 4) := by decide +kernel
theorem f_Ros_enter_33 : fch r_Ros_enter.2.1 33 = some (.iload_n 3) := by decide +kernel
theorem f_Ros_enter_34 : fch r_Ros_enter.2.1 34 = some (.invokestatic 42) := by decide +kernel
theorem f_Ros_enter_37 : fch r_Ros_enter.2.1 37 = some (.return_) := by decide +kernel
theorem f_Bk_turn_0 : fch r_Bk_turn.2.1 0 = some (.aload_n 0) := by decide +kernel
theorem f_Bk_turn_1 : fch r_Bk_turn.2.1 1 = some (.getfield 63) := by decide +kernel
theorem f_Bk_turn_4 : fch r_Bk_turn.2.1 4 = some (.iload_n 1) := by decide +kernel
theorem f_Bk_turn_5 : fch r_Bk_turn.2.1 5 = some (.iload_n 2) := by decide +kernel
theorem f_Bk_turn_6 : fch r_Bk_turn.2.1 6 = some (.iload_n 3) := by decide +kernel
theorem f_Bk_turn_7 : fch r_Bk_turn.2.1 7 = some (.invokevirtual 237) := by decide +kernel
theorem f_Bk_turn_10 : fch r_Bk_turn.2.1 10 = some (.ireturn) := by decide +kernel
theorem f_Ros_monkAt_0 : fch r_Ros_monkAt.2.1 0 = some (.iload_n 1) := by decide +kernel
theorem f_Ros_monkAt_1 : fch r_Ros_monkAt.2.1 1 = some (.ifCond .lt 31) := by decide +kernel
theorem f_Ros_monkAt_4 : fch r_Ros_monkAt.2.1 4 = some (.iload_n 1) := by decide +kernel
theorem f_Ros_monkAt_5 : fch r_Ros_monkAt.2.1 5 = some (.aload_n 0) := by decide +kernel
theorem f_Ros_monkAt_6 : fch r_Ros_monkAt.2.1 6 = some (.getfield 32) := by decide +kernel
theorem f_Ros_monkAt_9 : fch r_Ros_monkAt.2.1 9 = some (.if_icmp .ge 23) := by decide +kernel
theorem f_Ros_monkAt_12 : fch r_Ros_monkAt.2.1 12 = some (.iload_n 3) := by decide +kernel
theorem f_Ros_monkAt_13 : fch r_Ros_monkAt.2.1 13 = some (.ifCond .lt 19) := by decide +kernel
theorem f_Ros_monkAt_16 : fch r_Ros_monkAt.2.1 16 = some (.iload_n 3) := by decide +kernel
theorem f_Ros_monkAt_17 : fch r_Ros_monkAt.2.1 17 = some (.iload_n 2) := by decide +kernel
theorem f_Ros_monkAt_18 : fch r_Ros_monkAt.2.1 18 = some (.aload_n 0) := by decide +kernel
theorem f_Ros_monkAt_19 : fch r_Ros_monkAt.2.1 19 = some (.getfield 15) := by decide +kernel
theorem f_Ros_monkAt_22 : fch r_Ros_monkAt.2.1 22 = some (.iload_n 1) := by decide +kernel
theorem f_Ros_monkAt_23 : fch r_Ros_monkAt.2.1 23 = some (.invokestatic 57) := by decide +kernel
theorem f_Ros_monkAt_26 : fch r_Ros_monkAt.2.1 26 = some (.invokestatic 61) := by decide +kernel
theorem f_Ros_monkAt_29 : fch r_Ros_monkAt.2.1 29 = some (.if_icmp .lt 5) := by decide +kernel
theorem f_Ros_monkAt_32 : fch r_Ros_monkAt.2.1 32 = some (.iconst (-1)) := by decide +kernel
theorem f_Ros_monkAt_33 : fch r_Ros_monkAt.2.1 33 = some (.ireturn) := by decide +kernel
theorem f_Ros_monkAt_34 : fch r_Ros_monkAt.2.1 34 = some (.aload_n 0) := by decide +kernel
theorem f_Ros_monkAt_35 : fch r_Ros_monkAt.2.1 35 = some (.getfield 11) := by decide +kernel
theorem f_Ros_monkAt_38 : fch r_Ros_monkAt.2.1 38 = some (.iload_n 1) := by decide +kernel
theorem f_Ros_monkAt_39 : fch r_Ros_monkAt.2.1 39 = some (.iload_n 2) := by decide +kernel
theorem f_Ros_monkAt_40 : fch r_Ros_monkAt.2.1 40 = some (.iload_n 3) := by decide +kernel
theorem f_Ros_monkAt_41 : fch r_Ros_monkAt.2.1 41 = some (.invokestatic 67) := by decide +kernel
theorem f_Ros_monkAt_44 : fch r_Ros_monkAt.2.1 44 = some (.invokestatic 57) := by decide +kernel
theorem f_Ros_monkAt_47 : fch r_Ros_monkAt.2.1 47 = some (.ireturn) := by decide +kernel
theorem f_Bk_had_0 : fch r_Bk_had.2.1 0 = some (.aload_n 0) := by decide +kernel
theorem f_Bk_had_1 : fch r_Bk_had.2.1 1 = some (.getfield 56) := by decide +kernel
theorem f_Bk_had_4 : fch r_Bk_had.2.1 4 = some (.iload_n 1) := by decide +kernel
theorem f_Bk_had_5 : fch r_Bk_had.2.1 5 = some (.invokevirtual 240) := by decide +kernel
theorem f_Bk_had_8 : fch r_Bk_had.2.1 8 = some (.ifCond .eq 15) := by decide +kernel
theorem f_Bk_had_11 : fch r_Bk_had.2.1 11 = some (.aload_n 0) := by decide +kernel
theorem f_Bk_had_12 : fch r_Bk_had.2.1 12 = some (.getfield 63) := by decide +kernel
theorem f_Bk_had_15 : fch r_Bk_had.2.1 15 = some (.iload_n 1) := by decide +kernel
theorem f_Bk_had_16 : fch r_Bk_had.2.1 16 = some (.iload_n 2) := by decide +kernel
theorem f_Bk_had_17 : fch r_Bk_had.2.1 17 = some (.invokevirtual 243) := by decide +kernel
theorem f_Bk_had_20 : fch r_Bk_had.2.1 20 = some (.goto 4) := by decide +kernel
theorem f_Bk_had_23 : fch r_Bk_had.2.1 23 = some (.iconst (-1)) := by decide +kernel
theorem f_Bk_had_24 : fch r_Bk_had.2.1 24 = some (.ireturn) := by decide +kernel
theorem f_Ros_timesOf_0 : fch r_Ros_timesOf.2.1 0 = some (.aload_n 0) := by decide +kernel
theorem f_Ros_timesOf_1 : fch r_Ros_timesOf.2.1 1 = some (.getfield 32) := by decide +kernel
theorem f_Ros_timesOf_4 : fch r_Ros_timesOf.2.1 4 = some (.ifCond .eq 12) := by decide +kernel
theorem f_Ros_timesOf_7 : fch r_Ros_timesOf.2.1 7 = some (.iload_n 2) := by decide +kernel
theorem f_Ros_timesOf_8 : fch r_Ros_timesOf.2.1 8 = some (.iconst 0) := by decide +kernel
theorem f_Ros_timesOf_9 : fch r_Ros_timesOf.2.1 9 = some (.iconst 2) := by decide +kernel
theorem f_Ros_timesOf_10 : fch r_Ros_timesOf.2.1 10 = some (.invokestatic 86) := by decide +kernel
theorem f_Ros_timesOf_13 : fch r_Ros_timesOf.2.1 13 = some (.ifCond .ne 5) := by decide +kernel
theorem f_Ros_timesOf_16 : fch r_Ros_timesOf.2.1 16 = some (.iconst (-1)) := by decide +kernel
theorem f_Ros_timesOf_17 : fch r_Ros_timesOf.2.1 17 = some (.ireturn) := by decide +kernel
theorem f_Ros_timesOf_18 : fch r_Ros_timesOf.2.1 18 = some (.aload_n 0) := by decide +kernel
theorem f_Ros_timesOf_19 : fch r_Ros_timesOf.2.1 19 = some (.getfield 20) := by decide +kernel
theorem f_Ros_timesOf_22 : fch r_Ros_timesOf.2.1 22 = some (.iload_n 1) := by decide +kernel
theorem f_Ros_timesOf_23 : fch r_Ros_timesOf.2.1 23 = some (.iconst 3) := by decide +kernel
theorem f_Ros_timesOf_24 : fch r_Ros_timesOf.2.1 24 = some (.imul) := by decide +kernel
theorem f_Ros_timesOf_25 : fch r_Ros_timesOf.2.1 25 = some (.iload_n 2) := by decide +kernel
theorem f_Ros_timesOf_26 : fch r_Ros_timesOf.2.1 26 = some (.iadd) := by decide +kernel
theorem f_Ros_timesOf_27 : fch r_Ros_timesOf.2.1 27 = some (.invokestatic 57) := by decide +kernel
theorem f_Ros_timesOf_30 : fch r_Ros_timesOf.2.1 30 = some (.ireturn) := by decide +kernel
theorem f_Md_year_0 : fch r_Md_year.2.1 0 = some (.iload_n 1) := by decide +kernel
theorem f_Md_year_1 : fch r_Md_year.2.1 1 = some (.invokestatic 23) := by decide +kernel
theorem f_Md_year_4 : fch r_Md_year.2.1 4 = some (.ifCond .ne 5) := by decide +kernel
theorem f_Md_year_7 : fch r_Md_year.2.1 7 = some (.iconst (-1)) := by decide +kernel
theorem f_Md_year_8 : fch r_Md_year.2.1 8 = some (.ireturn) := by decide +kernel
theorem f_Md_year_9 : fch r_Md_year.2.1 9 = some (.iload_n 2) := by decide +kernel
theorem f_Md_year_10 : fch r_Md_year.2.1 10 = some (.ifCond .ne 10) := by decide +kernel
theorem f_Md_year_13 : fch r_Md_year.2.1 13 = some (.iload_n 1) := by decide +kernel
theorem f_Md_year_14 : fch r_Md_year.2.1 14 = some (.invokestatic 15) := by decide +kernel
theorem f_Md_year_17 : fch r_Md_year.2.1 17 = some (.goto 28) := by decide +kernel
theorem f_Md_year_20 : fch r_Md_year.2.1 20 = some (.iload_n 2) := by decide +kernel
theorem f_Md_year_21 : fch r_Md_year.2.1 21 = some (.iconst 1) := by decide +kernel
theorem f_Md_year_22 : fch r_Md_year.2.1 22 = some (.if_icmp .ne 10) := by decide +kernel
theorem f_Md_year_25 : fch r_Md_year.2.1 25 = some (.iload_n 1) := by decide +kernel
theorem f_Md_year_26 : fch r_Md_year.2.1 26 = some (.invokestatic 26) := by decide +kernel
theorem f_Md_year_29 : fch r_Md_year.2.1 29 = some (.goto 16) := by decide +kernel
theorem f_Md_year_32 : fch r_Md_year.2.1 32 = some (.iload_n 2) := by decide +kernel
theorem f_Md_year_33 : fch r_Md_year.2.1 33 = some (.iconst 2) := by decide +kernel
theorem f_Md_year_34 : fch r_Md_year.2.1 34 = some (.if_icmp .ne 10) := by decide +kernel
theorem f_Md_year_37 : fch r_Md_year.2.1 37 = some (.iload_n 1) := by decide +kernel
theorem f_Md_year_38 : fch r_Md_year.2.1 38 = some (.invokestatic 29) := by decide +kernel
theorem f_Md_year_41 : fch r_Md_year.2.1 41 = some (.goto 4) := by decide +kernel
theorem f_Md_year_44 : fch r_Md_year.2.1 44 = some (.iconst (-1)) := by decide +kernel
theorem f_Md_year_45 : fch r_Md_year.2.1 45 = some (.ireturn) := by decide +kernel
theorem f_Md_isYear_0 : fch r_Md_isYear.2.1 0 = some (.iload_n 0) := by decide +kernel
theorem f_Md_isYear_1 : fch r_Md_isYear.2.1 1 = some (.sipush 1900) := by decide +kernel
theorem f_Md_isYear_4 : fch r_Md_isYear.2.1 4 = some (.sipush 2199) := by decide +kernel
theorem f_Md_isYear_7 : fch r_Md_isYear.2.1 7 = some (.invokestatic 1) := by decide +kernel
theorem f_Md_isYear_10 : fch r_Md_isYear.2.1 10 = some (.ireturn) := by decide +kernel
theorem f_Md_in_0 : fch r_Md_in.2.1 0 = some (.iload_n 0) := by decide +kernel
theorem f_Md_in_1 : fch r_Md_in.2.1 1 = some (.iload_n 1) := by decide +kernel
theorem f_Md_in_2 : fch r_Md_in.2.1 2 = some (.if_icmp .lt 12) := by decide +kernel
theorem f_Md_in_5 : fch r_Md_in.2.1 5 = some (.iload_n 0) := by decide +kernel
theorem f_Md_in_6 : fch r_Md_in.2.1 6 = some (.iload_n 2) := by decide +kernel
theorem f_Md_in_7 : fch r_Md_in.2.1 7 = some (.if_icmp .gt 7) := by decide +kernel
theorem f_Md_in_10 : fch r_Md_in.2.1 10 = some (.iconst 1) := by decide +kernel
theorem f_Md_in_11 : fch r_Md_in.2.1 11 = some (.goto 4) := by decide +kernel
theorem f_Md_in_14 : fch r_Md_in.2.1 14 = some (.iconst 0) := by decide +kernel
theorem f_Md_in_15 : fch r_Md_in.2.1 15 = some (.ireturn) := by decide +kernel
theorem f_Md_daysOf_0 : fch r_Md_daysOf.2.1 0 = some (.iload_n 0) := by decide +kernel
theorem f_Md_daysOf_1 : fch r_Md_daysOf.2.1 1 = some (.invokestatic 7) := by decide +kernel
theorem f_Md_daysOf_4 : fch r_Md_daysOf.2.1 4 = some (.ifCond .eq 9) := by decide +kernel
theorem f_Md_daysOf_7 : fch r_Md_daysOf.2.1 7 = some (.sipush 366) := by decide +kernel
theorem f_Md_daysOf_10 : fch r_Md_daysOf.2.1 10 = some (.goto 6) := by decide +kernel
theorem f_Md_daysOf_13 : fch r_Md_daysOf.2.1 13 = some (.sipush 365) := by decide +kernel
theorem f_Md_daysOf_16 : fch r_Md_daysOf.2.1 16 = some (.ireturn) := by decide +kernel
theorem f_Md_isLeap_0 : fch r_Md_isLeap.2.1 0 = some (.iload_n 0) := by decide +kernel
theorem f_Md_isLeap_1 : fch r_Md_isLeap.2.1 1 = some (.iconst 4) := by decide +kernel
theorem f_Md_isLeap_2 : fch r_Md_isLeap.2.1 2 = some (.irem) := by decide +kernel
theorem f_Md_isLeap_3 : fch r_Md_isLeap.2.1 3 = some (.ifCond .ne 22) := by decide +kernel
theorem f_Md_isLeap_6 : fch r_Md_isLeap.2.1 6 = some (.iload_n 0) := by decide +kernel
theorem f_Md_isLeap_7 : fch r_Md_isLeap.2.1 7 = some (.bipush 100) := by decide +kernel
theorem f_Md_isLeap_9 : fch r_Md_isLeap.2.1 9 = some (.irem) := by decide +kernel
theorem f_Md_isLeap_10 : fch r_Md_isLeap.2.1 10 = some (.ifCond .ne 11) := by decide +kernel
theorem f_Md_isLeap_13 : fch r_Md_isLeap.2.1 13 = some (.iload_n 0) := by decide +kernel
theorem f_Md_isLeap_14 : fch r_Md_isLeap.2.1 14 = some (.sipush 400) := by decide +kernel
theorem f_Md_isLeap_17 : fch r_Md_isLeap.2.1 17 = some (.irem) := by decide +kernel
theorem f_Md_isLeap_18 : fch r_Md_isLeap.2.1 18 = some (.ifCond .ne 7) := by decide +kernel
theorem f_Md_isLeap_21 : fch r_Md_isLeap.2.1 21 = some (.iconst 1) := by decide +kernel
theorem f_Md_isLeap_22 : fch r_Md_isLeap.2.1 22 = some (.goto 4) := by decide +kernel
theorem f_Md_isLeap_25 : fch r_Md_isLeap.2.1 25 = some (.iconst 0) := by decide +kernel
theorem f_Md_isLeap_26 : fch r_Md_isLeap.2.1 26 = some (.ireturn) := by decide +kernel
theorem f_Md_firstWeekday_0 : fch r_Md_firstWeekday.2.1 0 = some (.iconst 1) := by decide +kernel
theorem f_Md_firstWeekday_1 : fch r_Md_firstWeekday.2.1 1 = some (.istore_n 1) := by decide +kernel
theorem f_Md_firstWeekday_2 : fch r_Md_firstWeekday.2.1 2 = some (.sipush 1900) := by decide +kernel
theorem f_Md_firstWeekday_5 : fch r_Md_firstWeekday.2.1 5 = some (.istore_n 2) := by decide +kernel
theorem f_Md_firstWeekday_6 : fch r_Md_firstWeekday.2.1 6 = some (.iload_n 2) := by decide +kernel
theorem f_Md_firstWeekday_7 : fch r_Md_firstWeekday.2.1 7 = some (.iload_n 0) := by decide +kernel
theorem f_Md_firstWeekday_8 : fch r_Md_firstWeekday.2.1 8 = some (.if_icmp .ge 16) := by decide +kernel
theorem f_Md_firstWeekday_11 : fch r_Md_firstWeekday.2.1 11 = some (.iload_n 1) := by decide +kernel
theorem f_Md_firstWeekday_12 : fch r_Md_firstWeekday.2.1 12 = some (.iload_n 2) := by decide +kernel
theorem f_Md_firstWeekday_13 : fch r_Md_firstWeekday.2.1 13 = some (.invokestatic 15) := by decide +kernel
theorem f_Md_firstWeekday_16 : fch r_Md_firstWeekday.2.1 16 = some (.iadd) := by decide +kernel
theorem f_Md_firstWeekday_17 : fch r_Md_firstWeekday.2.1 17 = some (.istore_n 1) := by decide +kernel
theorem f_Md_firstWeekday_18 : fch r_Md_firstWeekday.2.1 18 = some (.iinc 2 1) := by decide +kernel
theorem f_Md_firstWeekday_21 : fch r_Md_firstWeekday.2.1 21 = some (.goto (-15)) := by decide +kernel
theorem f_Md_firstWeekday_24 : fch r_Md_firstWeekday.2.1 24 = some (.iload_n 1) := by decide +kernel
theorem f_Md_firstWeekday_25 : fch r_Md_firstWeekday.2.1 25 = some (.bipush 7) := by decide +kernel
theorem f_Md_firstWeekday_27 : fch r_Md_firstWeekday.2.1 27 = some (.irem) := by decide +kernel
theorem f_Md_firstWeekday_28 : fch r_Md_firstWeekday.2.1 28 = some (.ireturn) := by decide +kernel
theorem f_Md_easter_0 : fch r_Md_easter.2.1 0 = some (.iload_n 0) := by decide +kernel
theorem f_Md_easter_1 : fch r_Md_easter.2.1 1 = some (.bipush 19) := by decide +kernel
theorem f_Md_easter_3 : fch r_Md_easter.2.1 3 = some (.irem) := by decide +kernel
theorem f_Md_easter_4 : fch r_Md_easter.2.1 4 = some (.istore_n 1) := by decide +kernel
theorem f_Md_easter_5 : fch r_Md_easter.2.1 5 = some (.iload_n 0) := by decide +kernel
theorem f_Md_easter_6 : fch r_Md_easter.2.1 6 = some (.bipush 100) := by decide +kernel
theorem f_Md_easter_8 : fch r_Md_easter.2.1 8 = some (.idiv) := by decide +kernel
theorem f_Md_easter_9 : fch r_Md_easter.2.1 9 = some (.istore_n 2) := by decide +kernel
theorem f_Md_easter_10 : fch r_Md_easter.2.1 10 = some (.iload_n 0) := by decide +kernel
theorem f_Md_easter_11 : fch r_Md_easter.2.1 11 = some (.bipush 100) := by decide +kernel
theorem f_Md_easter_13 : fch r_Md_easter.2.1 13 = some (.irem) := by decide +kernel
theorem f_Md_easter_14 : fch r_Md_easter.2.1 14 = some (.istore_n 3) := by decide +kernel
theorem f_Md_easter_15 : fch r_Md_easter.2.1 15 = some (.bipush 19) := by decide +kernel
theorem f_Md_easter_17 : fch r_Md_easter.2.1 17 = some (.iload_n 1) := by decide +kernel
theorem f_Md_easter_18 : fch r_Md_easter.2.1 18 = some (.imul) := by decide +kernel
theorem f_Md_easter_19 : fch r_Md_easter.2.1 19 = some (.iload_n 2) := by decide +kernel
theorem f_Md_easter_20 : fch r_Md_easter.2.1 20 = some (.iadd) := by decide +kernel
theorem f_Md_easter_21 : fch r_Md_easter.2.1 21 = some (.iload_n 2) := by decide +kernel
theorem f_Md_easter_22 : fch r_Md_easter.2.1 22 = some (.iconst 4) := by decide +kernel
theorem f_Md_easter_23 : fch r_Md_easter.2.1 23 = some (.idiv) := by decide +kernel
theorem f_Md_easter_24 : fch r_Md_easter.2.1 24 = some (.isub) := by decide +kernel
theorem f_Md_easter_25 : fch r_Md_easter.2.1 25 = some (.iload_n 2) := by decide +kernel
theorem f_Md_easter_26 : fch r_Md_easter.2.1 26 = some (.iload_n 2) := by decide +kernel
theorem f_Md_easter_27 : fch r_Md_easter.2.1 27 = some (.bipush 8) := by decide +kernel
theorem f_Md_easter_29 : fch r_Md_easter.2.1 29 = some (.iadd) := by decide +kernel
theorem f_Md_easter_30 : fch r_Md_easter.2.1 30 = some (.bipush 25) := by decide +kernel
theorem f_Md_easter_32 : fch r_Md_easter.2.1 32 = some (.idiv) := by decide +kernel
theorem f_Md_easter_33 : fch r_Md_easter.2.1 33 = some (.isub) := by decide +kernel
theorem f_Md_easter_34 : fch r_Md_easter.2.1 34 = some (.iconst 1) := by decide +kernel
theorem f_Md_easter_35 : fch r_Md_easter.2.1 35 = some (.iadd) := by decide +kernel
theorem f_Md_easter_36 : fch r_Md_easter.2.1 36 = some (.iconst 3) := by decide +kernel
theorem f_Md_easter_37 : fch r_Md_easter.2.1 37 = some (.idiv) := by decide +kernel
theorem f_Md_easter_38 : fch r_Md_easter.2.1 38 = some (.isub) := by decide +kernel
theorem f_Md_easter_39 : fch r_Md_easter.2.1 39 = some (.bipush 15) := by decide +kernel
theorem f_Md_easter_41 : fch r_Md_easter.2.1 41 = some (.iadd) := by decide +kernel
theorem f_Md_easter_42 : fch r_Md_easter.2.1 42 = some (.bipush 30) := by decide +kernel
theorem f_Md_easter_44 : fch r_Md_easter.2.1 44 = some (.irem) := by decide +kernel
theorem f_Md_easter_45 : fch r_Md_easter.2.1 45 = some (.istore 4) := by decide +kernel
theorem f_Md_easter_47 : fch r_Md_easter.2.1 47 = some (.bipush 32) := by decide +kernel
theorem f_Md_easter_49 : fch r_Md_easter.2.1 49 = some (.iconst 2) := by decide +kernel
theorem f_Md_easter_50 : fch r_Md_easter.2.1 50 = some (.iload_n 2) := by decide +kernel
theorem f_Md_easter_51 : fch r_Md_easter.2.1 51 = some (.iconst 4) := by decide +kernel
theorem f_Md_easter_52 : fch r_Md_easter.2.1 52 = some (.irem) := by decide +kernel
theorem f_Md_easter_53 : fch r_Md_easter.2.1 53 = some (.imul) := by decide +kernel
theorem f_Md_easter_54 : fch r_Md_easter.2.1 54 = some (.iadd) := by decide +kernel
theorem f_Md_easter_55 : fch r_Md_easter.2.1 55 = some (.iconst 2) := by decide +kernel
theorem f_Md_easter_56 : fch r_Md_easter.2.1 56 = some (.iload_n 3) := by decide +kernel
theorem f_Md_easter_57 : fch r_Md_easter.2.1 57 = some (.iconst 4) := by decide +kernel
theorem f_Md_easter_58 : fch r_Md_easter.2.1 58 = some (.idiv) := by decide +kernel
theorem f_Md_easter_59 : fch r_Md_easter.2.1 59 = some (.imul) := by decide +kernel
theorem f_Md_easter_60 : fch r_Md_easter.2.1 60 = some (.iadd) := by decide +kernel
theorem f_Md_easter_61 : fch r_Md_easter.2.1 61 = some (.iload 4) := by decide +kernel
theorem f_Md_easter_63 : fch r_Md_easter.2.1 63 = some (.isub) := by decide +kernel
theorem f_Md_easter_64 : fch r_Md_easter.2.1 64 = some (.iload_n 3) := by decide +kernel
theorem f_Md_easter_65 : fch r_Md_easter.2.1 65 = some (.iconst 4) := by decide +kernel
theorem f_Md_easter_66 : fch r_Md_easter.2.1 66 = some (.irem) := by decide +kernel
theorem f_Md_easter_67 : fch r_Md_easter.2.1 67 = some (.isub) := by decide +kernel
theorem f_Md_easter_68 : fch r_Md_easter.2.1 68 = some (.bipush 7) := by decide +kernel
theorem f_Md_easter_70 : fch r_Md_easter.2.1 70 = some (.irem) := by decide +kernel
theorem f_Md_easter_71 : fch r_Md_easter.2.1 71 = some (.istore 5) := by decide +kernel
theorem f_Md_easter_73 : fch r_Md_easter.2.1 73 = some (.iload 4) := by decide +kernel
theorem f_Md_easter_75 : fch r_Md_easter.2.1 75 = some (.iload 5) := by decide +kernel
theorem f_Md_easter_77 : fch r_Md_easter.2.1 77 = some (.iadd) := by decide +kernel
theorem f_Md_easter_78 : fch r_Md_easter.2.1 78 = some (.bipush 7) := by decide +kernel
theorem f_Md_easter_80 : fch r_Md_easter.2.1 80 = some (.iload_n 1) := by decide +kernel
theorem f_Md_easter_81 : fch r_Md_easter.2.1 81 = some (.bipush 11) := by decide +kernel
theorem f_Md_easter_83 : fch r_Md_easter.2.1 83 = some (.iload 4) := by decide +kernel
theorem f_Md_easter_85 : fch r_Md_easter.2.1 85 = some (.imul) := by decide +kernel
theorem f_Md_easter_86 : fch r_Md_easter.2.1 86 = some (.iadd) := by decide +kernel
theorem f_Md_easter_87 : fch r_Md_easter.2.1 87 = some (.bipush 22) := by decide +kernel
theorem f_Md_easter_89 : fch r_Md_easter.2.1 89 = some (.iload 5) := by decide +kernel
theorem f_Md_easter_91 : fch r_Md_easter.2.1 91 = some (.imul) := by decide +kernel
theorem f_Md_easter_92 : fch r_Md_easter.2.1 92 = some (.iadd) := by decide +kernel
theorem f_Md_easter_93 : fch r_Md_easter.2.1 93 = some (.sipush 451) := by decide +kernel
theorem f_Md_easter_96 : fch r_Md_easter.2.1 96 = some (.idiv) := by decide +kernel
theorem f_Md_easter_97 : fch r_Md_easter.2.1 97 = some (.imul) := by decide +kernel
theorem f_Md_easter_98 : fch r_Md_easter.2.1 98 = some (.isub) := by decide +kernel
theorem f_Md_easter_99 : fch r_Md_easter.2.1 99 = some (.bipush 114) := by decide +kernel
theorem f_Md_easter_101 : fch r_Md_easter.2.1 101 = some (.iadd) := by decide +kernel
theorem f_Md_easter_102 : fch r_Md_easter.2.1 102 = some (.istore 6) := by decide +kernel
theorem f_Md_easter_104 : fch r_Md_easter.2.1 104 = some (.iload_n 0) := by decide +kernel
theorem f_Md_easter_105 : fch r_Md_easter.2.1 105 = some (.iload 6) := by decide +kernel
theorem f_Md_easter_107 : fch r_Md_easter.2.1 107 = some (.bipush 31) := by decide +kernel
theorem f_Md_easter_109 : fch r_Md_easter.2.1 109 = some (.idiv) := by decide +kernel
theorem f_Md_easter_110 : fch r_Md_easter.2.1 110 = some (.iload 6) := by decide +kernel
theorem f_Md_easter_112 : fch r_Md_easter.2.1 112 = some (.bipush 31) := by decide +kernel
theorem f_Md_easter_114 : fch r_Md_easter.2.1 114 = some (.irem) := by decide +kernel
theorem f_Md_easter_115 : fch r_Md_easter.2.1 115 = some (.iconst 1) := by decide +kernel
theorem f_Md_easter_116 : fch r_Md_easter.2.1 116 = some (.iadd) := by decide +kernel
theorem f_Md_easter_117 : fch r_Md_easter.2.1 117 = some (.invokestatic 19) := by decide +kernel
theorem f_Md_easter_120 : fch r_Md_easter.2.1 120 = some (.ireturn) := by decide +kernel
theorem f_Md_dayOf_0 : fch r_Md_dayOf.2.1 0 = some (.iload_n 2) := by decide +kernel
theorem f_Md_dayOf_1 : fch r_Md_dayOf.2.1 1 = some (.iconst 1) := by decide +kernel
theorem f_Md_dayOf_2 : fch r_Md_dayOf.2.1 2 = some (.isub) := by decide +kernel
theorem f_Md_dayOf_3 : fch r_Md_dayOf.2.1 3 = some (.istore_n 3) := by decide +kernel
theorem f_Md_dayOf_4 : fch r_Md_dayOf.2.1 4 = some (.iconst 1) := by decide +kernel
theorem f_Md_dayOf_5 : fch r_Md_dayOf.2.1 5 = some (.istore 4) := by decide +kernel
theorem f_Md_dayOf_7 : fch r_Md_dayOf.2.1 7 = some (.iload 4) := by decide +kernel
theorem f_Md_dayOf_9 : fch r_Md_dayOf.2.1 9 = some (.iload_n 1) := by decide +kernel
theorem f_Md_dayOf_10 : fch r_Md_dayOf.2.1 10 = some (.if_icmp .ge 18) := by decide +kernel
theorem f_Md_dayOf_13 : fch r_Md_dayOf.2.1 13 = some (.iload_n 3) := by decide +kernel
theorem f_Md_dayOf_14 : fch r_Md_dayOf.2.1 14 = some (.iload_n 0) := by decide +kernel
theorem f_Md_dayOf_15 : fch r_Md_dayOf.2.1 15 = some (.iload 4) := by decide +kernel
theorem f_Md_dayOf_17 : fch r_Md_dayOf.2.1 17 = some (.invokestatic 11) := by decide +kernel
theorem f_Md_dayOf_20 : fch r_Md_dayOf.2.1 20 = some (.iadd) := by decide +kernel
theorem f_Md_dayOf_21 : fch r_Md_dayOf.2.1 21 = some (.istore_n 3) := by decide +kernel
theorem f_Md_dayOf_22 : fch r_Md_dayOf.2.1 22 = some (.iinc 4 1) := by decide +kernel
theorem f_Md_dayOf_25 : fch r_Md_dayOf.2.1 25 = some (.goto (-18)) := by decide +kernel
theorem f_Md_dayOf_28 : fch r_Md_dayOf.2.1 28 = some (.iload_n 3) := by decide +kernel
theorem f_Md_dayOf_29 : fch r_Md_dayOf.2.1 29 = some (.ireturn) := by decide +kernel
theorem f_Md_daysIn_0 : fch r_Md_daysIn.2.1 0 = some (.iload_n 1) := by decide +kernel
theorem f_Md_daysIn_1 : fch r_Md_daysIn.2.1 1 = some (.iconst 2) := by decide +kernel
theorem f_Md_daysIn_2 : fch r_Md_daysIn.2.1 2 = some (.if_icmp .ne 20) := by decide +kernel
theorem f_Md_daysIn_5 : fch r_Md_daysIn.2.1 5 = some (.iload_n 0) := by decide +kernel
theorem f_Md_daysIn_6 : fch r_Md_daysIn.2.1 6 = some (.invokestatic 7) := by decide +kernel
theorem f_Md_daysIn_9 : fch r_Md_daysIn.2.1 9 = some (.ifCond .eq 8) := by decide +kernel
theorem f_Md_daysIn_12 : fch r_Md_daysIn.2.1 12 = some (.bipush 29) := by decide +kernel
theorem f_Md_daysIn_14 : fch r_Md_daysIn.2.1 14 = some (.goto 38) := by decide +kernel
theorem f_Md_daysIn_17 : fch r_Md_daysIn.2.1 17 = some (.bipush 28) := by decide +kernel
theorem f_Md_daysIn_19 : fch r_Md_daysIn.2.1 19 = some (.goto 33) := by decide +kernel
theorem f_Md_daysIn_22 : fch r_Md_daysIn.2.1 22 = some (.iload_n 1) := by decide +kernel
theorem f_Md_daysIn_23 : fch r_Md_daysIn.2.1 23 = some (.iconst 4) := by decide +kernel
theorem f_Md_daysIn_24 : fch r_Md_daysIn.2.1 24 = some (.if_icmp .eq 21) := by decide +kernel
theorem f_Md_daysIn_27 : fch r_Md_daysIn.2.1 27 = some (.iload_n 1) := by decide +kernel
theorem f_Md_daysIn_28 : fch r_Md_daysIn.2.1 28 = some (.bipush 6) := by decide +kernel
theorem f_Md_daysIn_30 : fch r_Md_daysIn.2.1 30 = some (.if_icmp .eq 15) := by decide +kernel
theorem f_Md_daysIn_33 : fch r_Md_daysIn.2.1 33 = some (.iload_n 1) := by decide +kernel
theorem f_Md_daysIn_34 : fch r_Md_daysIn.2.1 34 = some (.bipush 9) := by decide +kernel
theorem f_Md_daysIn_36 : fch r_Md_daysIn.2.1 36 = some (.if_icmp .eq 9) := by decide +kernel
theorem f_Md_daysIn_39 : fch r_Md_daysIn.2.1 39 = some (.iload_n 1) := by decide +kernel
theorem f_Md_daysIn_40 : fch r_Md_daysIn.2.1 40 = some (.bipush 11) := by decide +kernel
theorem f_Md_daysIn_42 : fch r_Md_daysIn.2.1 42 = some (.if_icmp .ne 8) := by decide +kernel
theorem f_Md_daysIn_45 : fch r_Md_daysIn.2.1 45 = some (.bipush 30) := by decide +kernel
theorem f_Md_daysIn_47 : fch r_Md_daysIn.2.1 47 = some (.goto 5) := by decide +kernel
theorem f_Md_daysIn_50 : fch r_Md_daysIn.2.1 50 = some (.bipush 31) := by decide +kernel
theorem f_Md_daysIn_52 : fch r_Md_daysIn.2.1 52 = some (.ireturn) := by decide +kernel
theorem f_Md_day_0 : fch r_Md_day.2.1 0 = some (.iload_n 1) := by decide +kernel
theorem f_Md_day_1 : fch r_Md_day.2.1 1 = some (.invokestatic 23) := by decide +kernel
theorem f_Md_day_4 : fch r_Md_day.2.1 4 = some (.ifCond .eq 35) := by decide +kernel
theorem f_Md_day_7 : fch r_Md_day.2.1 7 = some (.iload_n 2) := by decide +kernel
theorem f_Md_day_8 : fch r_Md_day.2.1 8 = some (.iconst 1) := by decide +kernel
theorem f_Md_day_9 : fch r_Md_day.2.1 9 = some (.bipush 12) := by decide +kernel
theorem f_Md_day_11 : fch r_Md_day.2.1 11 = some (.invokestatic 1) := by decide +kernel
theorem f_Md_day_14 : fch r_Md_day.2.1 14 = some (.ifCond .eq 25) := by decide +kernel
theorem f_Md_day_17 : fch r_Md_day.2.1 17 = some (.iload_n 3) := by decide +kernel
theorem f_Md_day_18 : fch r_Md_day.2.1 18 = some (.iconst 1) := by decide +kernel
theorem f_Md_day_19 : fch r_Md_day.2.1 19 = some (.iload_n 1) := by decide +kernel
theorem f_Md_day_20 : fch r_Md_day.2.1 20 = some (.iload_n 2) := by decide +kernel
theorem f_Md_day_21 : fch r_Md_day.2.1 21 = some (.invokestatic 11) := by decide +kernel
theorem f_Md_day_24 : fch r_Md_day.2.1 24 = some (.invokestatic 1) := by decide +kernel
theorem f_Md_day_27 : fch r_Md_day.2.1 27 = some (.ifCond .eq 12) := by decide +kernel
theorem f_Md_day_30 : fch r_Md_day.2.1 30 = some (.iload_n 1) := by decide +kernel
theorem f_Md_day_31 : fch r_Md_day.2.1 31 = some (.iload_n 2) := by decide +kernel
theorem f_Md_day_32 : fch r_Md_day.2.1 32 = some (.iload_n 3) := by decide +kernel
theorem f_Md_day_33 : fch r_Md_day.2.1 33 = some (.invokestatic 19) := by decide +kernel
theorem f_Md_day_36 : fch r_Md_day.2.1 36 = some (.goto 4) := by decide +kernel
theorem f_Md_day_39 : fch r_Md_day.2.1 39 = some (.iconst (-1)) := by decide +kernel
theorem f_Md_day_40 : fch r_Md_day.2.1 40 = some (.ireturn) := by decide +kernel
theorem f_Md_season_0 : fch r_Md_season.2.1 0 = some (.iload_n 1) := by decide +kernel
theorem f_Md_season_1 : fch r_Md_season.2.1 1 = some (.bipush (-120)) := by decide +kernel
theorem f_Md_season_3 : fch r_Md_season.2.1 3 = some (.sipush 250) := by decide +kernel
theorem f_Md_season_6 : fch r_Md_season.2.1 6 = some (.invokestatic 1) := by decide +kernel
theorem f_Md_season_9 : fch r_Md_season.2.1 9 = some (.ifCond .eq 15) := by decide +kernel
theorem f_Md_season_12 : fch r_Md_season.2.1 12 = some (.iload_n 2) := by decide +kernel
theorem f_Md_season_13 : fch r_Md_season.2.1 13 = some (.bipush (-120)) := by decide +kernel
theorem f_Md_season_15 : fch r_Md_season.2.1 15 = some (.sipush 250) := by decide +kernel
theorem f_Md_season_18 : fch r_Md_season.2.1 18 = some (.invokestatic 1) := by decide +kernel
theorem f_Md_season_21 : fch r_Md_season.2.1 21 = some (.ifCond .ne 5) := by decide +kernel
theorem f_Md_season_24 : fch r_Md_season.2.1 24 = some (.iconst (-1)) := by decide +kernel
theorem f_Md_season_25 : fch r_Md_season.2.1 25 = some (.ireturn) := by decide +kernel
theorem f_Md_season_26 : fch r_Md_season.2.1 26 = some (.aload_n 0) := by decide +kernel
theorem f_Md_season_27 : fch r_Md_season.2.1 27 = some (.iconst 0) := by decide +kernel
theorem f_Md_season_28 : fch r_Md_season.2.1 28 = some (.iload_n 1) := by decide +kernel
theorem f_Md_season_29 : fch r_Md_season.2.1 29 = some (.iload_n 2) := by decide +kernel
theorem f_Md_season_30 : fch r_Md_season.2.1 30 = some (.iload_n 3) := by decide +kernel
theorem f_Md_season_31 : fch r_Md_season.2.1 31 = some (.iload 4) := by decide +kernel
theorem f_Md_season_33 : fch r_Md_season.2.1 33 = some (.iload 5) := by decide +kernel
theorem f_Md_season_35 : fch r_Md_season.2.1 35 = some (.invokevirtual 59) := by decide +kernel
theorem f_Md_season_38 : fch r_Md_season.2.1 38 = some (.ireturn) := by decide +kernel
theorem f_Md_adds0_0 : fch r_Md_adds0.2.1 0 = some (.aload_n 0) := by decide +kernel
theorem f_Md_adds0_1 : fch r_Md_adds0.2.1 1 = some (.getfield 32) := by decide +kernel
theorem f_Md_adds0_4 : fch r_Md_adds0.2.1 4 = some (.bipush 10) := by decide +kernel
theorem f_Md_adds0_6 : fch r_Md_adds0.2.1 6 = some (.if_icmp .eq 41) := by decide +kernel
theorem f_Md_adds0_9 : fch r_Md_adds0.2.1 9 = some (.iload_n 2) := by decide +kernel
theorem f_Md_adds0_10 : fch r_Md_adds0.2.1 10 = some (.iload_n 3) := by decide +kernel
theorem f_Md_adds0_11 : fch r_Md_adds0.2.1 11 = some (.if_icmp .gt 36) := by decide +kernel
theorem f_Md_adds0_14 : fch r_Md_adds0.2.1 14 = some (.iload 4) := by decide +kernel
theorem f_Md_adds0_16 : fch r_Md_adds0.2.1 16 = some (.iconst 1) := by decide +kernel
theorem f_Md_adds0_17 : fch r_Md_adds0.2.1 17 = some (.bipush 9) := by decide +kernel
theorem f_Md_adds0_19 : fch r_Md_adds0.2.1 19 = some (.invokestatic 1) := by decide +kernel
theorem f_Md_adds0_22 : fch r_Md_adds0.2.1 22 = some (.ifCond .eq 25) := by decide +kernel
theorem f_Md_adds0_25 : fch r_Md_adds0.2.1 25 = some (.iload 5) := by decide +kernel
theorem f_Md_adds0_27 : fch r_Md_adds0.2.1 27 = some (.iconst 0) := by decide +kernel
theorem f_Md_adds0_28 : fch r_Md_adds0.2.1 28 = some (.bipush 8) := by decide +kernel
theorem f_Md_adds0_30 : fch r_Md_adds0.2.1 30 = some (.invokestatic 1) := by decide +kernel
theorem f_Md_adds0_33 : fch r_Md_adds0.2.1 33 = some (.ifCond .eq 14) := by decide +kernel
theorem f_Md_adds0_36 : fch r_Md_adds0.2.1 36 = some (.iload 6) := by decide +kernel
theorem f_Md_adds0_38 : fch r_Md_adds0.2.1 38 = some (.iconst 0) := by decide +kernel
theorem f_Md_adds0_39 : fch r_Md_adds0.2.1 39 = some (.bipush 7) := by decide +kernel
theorem f_Md_adds0_41 : fch r_Md_adds0.2.1 41 = some (.invokestatic 1) := by decide +kernel
theorem f_Md_adds0_44 : fch r_Md_adds0.2.1 44 = some (.ifCond .ne 5) := by decide +kernel
theorem f_Md_adds0_47 : fch r_Md_adds0.2.1 47 = some (.iconst (-1)) := by decide +kernel
theorem f_Md_adds0_48 : fch r_Md_adds0.2.1 48 = some (.ireturn) := by decide +kernel
theorem f_Md_adds0_49 : fch r_Md_adds0.2.1 49 = some (.aload_n 0) := by decide +kernel
theorem f_Md_adds0_50 : fch r_Md_adds0.2.1 50 = some (.getfield 36) := by decide +kernel
theorem f_Md_adds0_53 : fch r_Md_adds0.2.1 53 = some (.aload_n 0) := by decide +kernel
theorem f_Md_adds0_54 : fch r_Md_adds0.2.1 54 = some (.getfield 32) := by decide +kernel
theorem f_Md_adds0_57 : fch r_Md_adds0.2.1 57 = some (.iload_n 1) := by decide +kernel
theorem f_Md_adds0_58 : fch r_Md_adds0.2.1 58 = some (.bastore) := by decide +kernel
theorem f_Md_adds0_59 : fch r_Md_adds0.2.1 59 = some (.aload_n 0) := by decide +kernel
theorem f_Md_adds0_60 : fch r_Md_adds0.2.1 60 = some (.getfield 40) := by decide +kernel
theorem f_Md_adds0_63 : fch r_Md_adds0.2.1 63 = some (.aload_n 0) := by decide +kernel
theorem f_Md_adds0_64 : fch r_Md_adds0.2.1 64 = some (.getfield 32) := by decide +kernel
theorem f_Md_adds0_67 : fch r_Md_adds0.2.1 67 = some (.iload_n 2) := by decide +kernel
theorem f_Md_adds0_68 : fch r_Md_adds0.2.1 68 = some (.iastore) := by decide +kernel
theorem f_Md_adds0_69 : fch r_Md_adds0.2.1 69 = some (.aload_n 0) := by decide +kernel
theorem f_Md_adds0_70 : fch r_Md_adds0.2.1 70 = some (.getfield 44) := by decide +kernel
theorem f_Md_adds0_73 : fch r_Md_adds0.2.1 73 = some (.aload_n 0) := by decide +kernel
theorem f_Md_adds0_74 : fch r_Md_adds0.2.1 74 = some (.getfield 32) := by decide +kernel
theorem f_Md_adds0_77 : fch r_Md_adds0.2.1 77 = some (.iload_n 3) := by decide +kernel
theorem f_Md_adds0_78 : fch r_Md_adds0.2.1 78 = some (.iastore) := by decide +kernel
theorem f_Md_adds0_79 : fch r_Md_adds0.2.1 79 = some (.aload_n 0) := by decide +kernel
theorem f_Md_adds0_80 : fch r_Md_adds0.2.1 80 = some (.getfield 47) := by decide +kernel
theorem f_Md_adds0_83 : fch r_Md_adds0.2.1 83 = some (.aload_n 0) := by decide +kernel
theorem f_Md_adds0_84 : fch r_Md_adds0.2.1 84 = some (.getfield 32) := by decide +kernel
theorem f_Md_adds0_87 : fch r_Md_adds0.2.1 87 = some (.iload 4) := by decide +kernel
theorem f_Md_adds0_89 : fch r_Md_adds0.2.1 89 = some (.iastore) := by decide +kernel
theorem f_Md_adds0_90 : fch r_Md_adds0.2.1 90 = some (.aload_n 0) := by decide +kernel
theorem f_Md_adds0_91 : fch r_Md_adds0.2.1 91 = some (.getfield 50) := by decide +kernel
theorem f_Md_adds0_94 : fch r_Md_adds0.2.1 94 = some (.aload_n 0) := by decide +kernel
theorem f_Md_adds0_95 : fch r_Md_adds0.2.1 95 = some (.getfield 32) := by decide +kernel
theorem f_Md_adds0_98 : fch r_Md_adds0.2.1 98 = some (.iload 5) := by decide +kernel
theorem f_Md_adds0_100 : fch r_Md_adds0.2.1 100 = some (.iastore) := by decide +kernel
theorem f_Md_adds0_101 : fch r_Md_adds0.2.1 101 = some (.aload_n 0) := by decide +kernel
theorem f_Md_adds0_102 : fch r_Md_adds0.2.1 102 = some (.getfield 53) := by decide +kernel
theorem f_Md_adds0_105 : fch r_Md_adds0.2.1 105 = some (.aload_n 0) := by decide +kernel
theorem f_Md_adds0_106 : fch r_Md_adds0.2.1 106 = some (.getfield 32) := by decide +kernel
theorem f_Md_adds0_109 : fch r_Md_adds0.2.1 109 = some (.iload 6) := by decide +kernel
theorem f_Md_adds0_111 : fch r_Md_adds0.2.1 111 = some (.iastore) := by decide +kernel
theorem f_Md_adds0_112 : fch r_Md_adds0.2.1 112 = some (.aload_n 0) := by decide +kernel
theorem f_Md_adds0_113 : fch r_Md_adds0.2.1 113 = some (.dup) := by decide +kernel
theorem f_Md_adds0_114 : fch r_Md_adds0.2.1 114 = some (.getfield 32) := by decide +kernel
theorem f_Md_adds0_117 : fch r_Md_adds0.2.1 117 = some (.iconst 1) := by decide +kernel
theorem f_Md_adds0_118 : fch r_Md_adds0.2.1 118 = some (.iadd) := by decide +kernel
theorem f_Md_adds0_119 : fch r_Md_adds0.2.1 119 = some (.putfield 32) := by decide +kernel
theorem f_Md_adds0_122 : fch r_Md_adds0.2.1 122 = some (.aload_n 0) := by decide +kernel
theorem f_Md_adds0_123 : fch r_Md_adds0.2.1 123 = some (.iconst 0) := by decide +kernel
theorem f_Md_adds0_124 : fch r_Md_adds0.2.1 124 = some (.putfield 56) := by decide +kernel
theorem f_Md_adds0_127 : fch r_Md_adds0.2.1 127 = some (.aload_n 0) := by decide +kernel
theorem f_Md_adds0_128 : fch r_Md_adds0.2.1 128 = some (.getfield 32) := by decide +kernel
theorem f_Md_adds0_131 : fch r_Md_adds0.2.1 131 = some (.ireturn) := by decide +kernel
theorem f_Md_dated_0 : fch r_Md_dated.2.1 0 = some (.iload_n 1) := by decide +kernel
theorem f_Md_dated_1 : fch r_Md_dated.2.1 1 = some (.invokestatic 63) := by decide +kernel
theorem f_Md_dated_4 : fch r_Md_dated.2.1 4 = some (.ifCond .eq 25) := by decide +kernel
theorem f_Md_dated_7 : fch r_Md_dated.2.1 7 = some (.iload_n 2) := by decide +kernel
theorem f_Md_dated_8 : fch r_Md_dated.2.1 8 = some (.invokestatic 63) := by decide +kernel
theorem f_Md_dated_11 : fch r_Md_dated.2.1 11 = some (.ifCond .eq 18) := by decide +kernel
theorem f_Md_dated_14 : fch r_Md_dated.2.1 14 = some (.aload_n 0) := by decide +kernel
theorem f_Md_dated_15 : fch r_Md_dated.2.1 15 = some (.iconst 1) := by decide +kernel
theorem f_Md_dated_16 : fch r_Md_dated.2.1 16 = some (.iload_n 1) := by decide +kernel
theorem f_Md_dated_17 : fch r_Md_dated.2.1 17 = some (.iload_n 2) := by decide +kernel
theorem f_Md_dated_18 : fch r_Md_dated.2.1 18 = some (.iload_n 3) := by decide +kernel
theorem f_Md_dated_19 : fch r_Md_dated.2.1 19 = some (.iload 4) := by decide +kernel
theorem f_Md_dated_21 : fch r_Md_dated.2.1 21 = some (.iload 5) := by decide +kernel
theorem f_Md_dated_23 : fch r_Md_dated.2.1 23 = some (.invokevirtual 59) := by decide +kernel
theorem f_Md_dated_26 : fch r_Md_dated.2.1 26 = some (.goto 4) := by decide +kernel
theorem f_Md_dated_29 : fch r_Md_dated.2.1 29 = some (.iconst (-1)) := by decide +kernel
theorem f_Md_dated_30 : fch r_Md_dated.2.1 30 = some (.ireturn) := by decide +kernel
theorem f_Md_isDate_0 : fch r_Md_isDate.2.1 0 = some (.iload_n 0) := by decide +kernel
theorem f_Md_isDate_1 : fch r_Md_isDate.2.1 1 = some (.ifCond .le 33) := by decide +kernel
theorem f_Md_isDate_4 : fch r_Md_isDate.2.1 4 = some (.iload_n 0) := by decide +kernel
theorem f_Md_isDate_5 : fch r_Md_isDate.2.1 5 = some (.bipush 100) := by decide +kernel
theorem f_Md_isDate_7 : fch r_Md_isDate.2.1 7 = some (.idiv) := by decide +kernel
theorem f_Md_isDate_8 : fch r_Md_isDate.2.1 8 = some (.iconst 1) := by decide +kernel
theorem f_Md_isDate_9 : fch r_Md_isDate.2.1 9 = some (.bipush 12) := by decide +kernel
theorem f_Md_isDate_11 : fch r_Md_isDate.2.1 11 = some (.invokestatic 1) := by decide +kernel
theorem f_Md_isDate_14 : fch r_Md_isDate.2.1 14 = some (.ifCond .eq 20) := by decide +kernel
theorem f_Md_isDate_17 : fch r_Md_isDate.2.1 17 = some (.iload_n 0) := by decide +kernel
theorem f_Md_isDate_18 : fch r_Md_isDate.2.1 18 = some (.bipush 100) := by decide +kernel
theorem f_Md_isDate_20 : fch r_Md_isDate.2.1 20 = some (.irem) := by decide +kernel
theorem f_Md_isDate_21 : fch r_Md_isDate.2.1 21 = some (.iconst 1) := by decide +kernel
theorem f_Md_isDate_22 : fch r_Md_isDate.2.1 22 = some (.bipush 31) := by decide +kernel
theorem f_Md_isDate_24 : fch r_Md_isDate.2.1 24 = some (.invokestatic 1) := by decide +kernel
theorem f_Md_isDate_27 : fch r_Md_isDate.2.1 27 = some (.ifCond .eq 7) := by decide +kernel
theorem f_Md_isDate_30 : fch r_Md_isDate.2.1 30 = some (.iconst 1) := by decide +kernel
theorem f_Md_isDate_31 : fch r_Md_isDate.2.1 31 = some (.goto 4) := by decide +kernel
theorem f_Md_isDate_34 : fch r_Md_isDate.2.1 34 = some (.iconst 0) := by decide +kernel
theorem f_Md_isDate_35 : fch r_Md_isDate.2.1 35 = some (.ireturn) := by decide +kernel
theorem f_Md_feast_0 : fch r_Md_feast.2.1 0 = some (.aload_n 0) := by decide +kernel
theorem f_Md_feast_1 : fch r_Md_feast.2.1 1 = some (.getfield 66) := by decide +kernel
