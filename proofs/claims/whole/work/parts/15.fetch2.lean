theorem f_Md_feast_4 : fch r_Md_feast.2.1 4 = some (.bipush 60) := by decide +kernel
theorem f_Md_feast_6 : fch r_Md_feast.2.1 6 = some (.if_icmp .eq 42) := by decide +kernel
theorem f_Md_feast_9 : fch r_Md_feast.2.1 9 = some (.iload_n 1) := by decide +kernel
theorem f_Md_feast_10 : fch r_Md_feast.2.1 10 = some (.iload_n 2) := by decide +kernel
theorem f_Md_feast_11 : fch r_Md_feast.2.1 11 = some (.invokestatic 69) := by decide +kernel
theorem f_Md_feast_14 : fch r_Md_feast.2.1 14 = some (.ifCond .eq 34) := by decide +kernel
theorem f_Md_feast_17 : fch r_Md_feast.2.1 17 = some (.iload_n 3) := by decide +kernel
theorem f_Md_feast_18 : fch r_Md_feast.2.1 18 = some (.iconst 1) := by decide +kernel
theorem f_Md_feast_19 : fch r_Md_feast.2.1 19 = some (.bipush 9) := by decide +kernel
theorem f_Md_feast_21 : fch r_Md_feast.2.1 21 = some (.invokestatic 1) := by decide +kernel
theorem f_Md_feast_24 : fch r_Md_feast.2.1 24 = some (.ifCond .eq 24) := by decide +kernel
theorem f_Md_feast_27 : fch r_Md_feast.2.1 27 = some (.iload 4) := by decide +kernel
theorem f_Md_feast_29 : fch r_Md_feast.2.1 29 = some (.iconst 0) := by decide +kernel
theorem f_Md_feast_30 : fch r_Md_feast.2.1 30 = some (.bipush 7) := by decide +kernel
theorem f_Md_feast_32 : fch r_Md_feast.2.1 32 = some (.invokestatic 1) := by decide +kernel
theorem f_Md_feast_35 : fch r_Md_feast.2.1 35 = some (.ifCond .eq 13) := by decide +kernel
theorem f_Md_feast_38 : fch r_Md_feast.2.1 38 = some (.iload 5) := by decide +kernel
theorem f_Md_feast_40 : fch r_Md_feast.2.1 40 = some (.iconst 0) := by decide +kernel
theorem f_Md_feast_41 : fch r_Md_feast.2.1 41 = some (.iconst 2) := by decide +kernel
theorem f_Md_feast_42 : fch r_Md_feast.2.1 42 = some (.invokestatic 1) := by decide +kernel
theorem f_Md_feast_45 : fch r_Md_feast.2.1 45 = some (.ifCond .ne 5) := by decide +kernel
theorem f_Md_feast_48 : fch r_Md_feast.2.1 48 = some (.iconst (-1)) := by decide +kernel
theorem f_Md_feast_49 : fch r_Md_feast.2.1 49 = some (.ireturn) := by decide +kernel
theorem f_Md_feast_50 : fch r_Md_feast.2.1 50 = some (.aload_n 0) := by decide +kernel
theorem f_Md_feast_51 : fch r_Md_feast.2.1 51 = some (.getfield 73) := by decide +kernel
theorem f_Md_feast_54 : fch r_Md_feast.2.1 54 = some (.aload_n 0) := by decide +kernel
theorem f_Md_feast_55 : fch r_Md_feast.2.1 55 = some (.getfield 66) := by decide +kernel
theorem f_Md_feast_58 : fch r_Md_feast.2.1 58 = some (.iload_n 1) := by decide +kernel
theorem f_Md_feast_59 : fch r_Md_feast.2.1 59 = some (.iastore) := by decide +kernel
theorem f_Md_feast_60 : fch r_Md_feast.2.1 60 = some (.aload_n 0) := by decide +kernel
theorem f_Md_feast_61 : fch r_Md_feast.2.1 61 = some (.getfield 76) := by decide +kernel
theorem f_Md_feast_64 : fch r_Md_feast.2.1 64 = some (.aload_n 0) := by decide +kernel
theorem f_Md_feast_65 : fch r_Md_feast.2.1 65 = some (.getfield 66) := by decide +kernel
theorem f_Md_feast_68 : fch r_Md_feast.2.1 68 = some (.iload_n 2) := by decide +kernel
theorem f_Md_feast_69 : fch r_Md_feast.2.1 69 = some (.iastore) := by decide +kernel
theorem f_Md_feast_70 : fch r_Md_feast.2.1 70 = some (.aload_n 0) := by decide +kernel
theorem f_Md_feast_71 : fch r_Md_feast.2.1 71 = some (.getfield 79) := by decide +kernel
theorem f_Md_feast_74 : fch r_Md_feast.2.1 74 = some (.aload_n 0) := by decide +kernel
theorem f_Md_feast_75 : fch r_Md_feast.2.1 75 = some (.getfield 66) := by decide +kernel
theorem f_Md_feast_78 : fch r_Md_feast.2.1 78 = some (.iload_n 3) := by decide +kernel
theorem f_Md_feast_79 : fch r_Md_feast.2.1 79 = some (.iastore) := by decide +kernel
theorem f_Md_feast_80 : fch r_Md_feast.2.1 80 = some (.aload_n 0) := by decide +kernel
theorem f_Md_feast_81 : fch r_Md_feast.2.1 81 = some (.getfield 82) := by decide +kernel
theorem f_Md_feast_84 : fch r_Md_feast.2.1 84 = some (.aload_n 0) := by decide +kernel
theorem f_Md_feast_85 : fch r_Md_feast.2.1 85 = some (.getfield 66) := by decide +kernel
theorem f_Md_feast_88 : fch r_Md_feast.2.1 88 = some (.iload 4) := by decide +kernel
theorem f_Md_feast_90 : fch r_Md_feast.2.1 90 = some (.iastore) := by decide +kernel
theorem f_Md_feast_91 : fch r_Md_feast.2.1 91 = some (.aload_n 0) := by decide +kernel
theorem f_Md_feast_92 : fch r_Md_feast.2.1 92 = some (.getfield 85) := by decide +kernel
theorem f_Md_feast_95 : fch r_Md_feast.2.1 95 = some (.aload_n 0) := by decide +kernel
theorem f_Md_feast_96 : fch r_Md_feast.2.1 96 = some (.getfield 66) := by decide +kernel
theorem f_Md_feast_99 : fch r_Md_feast.2.1 99 = some (.iload 5) := by decide +kernel
theorem f_Md_feast_101 : fch r_Md_feast.2.1 101 = some (.iastore) := by decide +kernel
theorem f_Md_feast_102 : fch r_Md_feast.2.1 102 = some (.aload_n 0) := by decide +kernel
theorem f_Md_feast_103 : fch r_Md_feast.2.1 103 = some (.getfield 88) := by decide +kernel
theorem f_Md_feast_106 : fch r_Md_feast.2.1 106 = some (.aload_n 0) := by decide +kernel
theorem f_Md_feast_107 : fch r_Md_feast.2.1 107 = some (.getfield 66) := by decide +kernel
theorem f_Md_feast_110 : fch r_Md_feast.2.1 110 = some (.iconst 0) := by decide +kernel
theorem f_Md_feast_111 : fch r_Md_feast.2.1 111 = some (.iastore) := by decide +kernel
theorem f_Md_feast_112 : fch r_Md_feast.2.1 112 = some (.aload_n 0) := by decide +kernel
theorem f_Md_feast_113 : fch r_Md_feast.2.1 113 = some (.getfield 91) := by decide +kernel
theorem f_Md_feast_116 : fch r_Md_feast.2.1 116 = some (.aload_n 0) := by decide +kernel
theorem f_Md_feast_117 : fch r_Md_feast.2.1 117 = some (.getfield 66) := by decide +kernel
theorem f_Md_feast_120 : fch r_Md_feast.2.1 120 = some (.iconst 0) := by decide +kernel
theorem f_Md_feast_121 : fch r_Md_feast.2.1 121 = some (.bastore) := by decide +kernel
theorem f_Md_feast_122 : fch r_Md_feast.2.1 122 = some (.aload_n 0) := by decide +kernel
theorem f_Md_feast_123 : fch r_Md_feast.2.1 123 = some (.dup) := by decide +kernel
theorem f_Md_feast_124 : fch r_Md_feast.2.1 124 = some (.getfield 66) := by decide +kernel
theorem f_Md_feast_127 : fch r_Md_feast.2.1 127 = some (.iconst 1) := by decide +kernel
theorem f_Md_feast_128 : fch r_Md_feast.2.1 128 = some (.iadd) := by decide +kernel
theorem f_Md_feast_129 : fch r_Md_feast.2.1 129 = some (.putfield 66) := by decide +kernel
theorem f_Md_feast_132 : fch r_Md_feast.2.1 132 = some (.aload_n 0) := by decide +kernel
theorem f_Md_feast_133 : fch r_Md_feast.2.1 133 = some (.iconst 0) := by decide +kernel
theorem f_Md_feast_134 : fch r_Md_feast.2.1 134 = some (.putfield 56) := by decide +kernel
theorem f_Md_feast_137 : fch r_Md_feast.2.1 137 = some (.aload_n 0) := by decide +kernel
theorem f_Md_feast_138 : fch r_Md_feast.2.1 138 = some (.getfield 66) := by decide +kernel
theorem f_Md_feast_141 : fch r_Md_feast.2.1 141 = some (.iconst 1) := by decide +kernel
theorem f_Md_feast_142 : fch r_Md_feast.2.1 142 = some (.isub) := by decide +kernel
theorem f_Md_feast_143 : fch r_Md_feast.2.1 143 = some (.ireturn) := by decide +kernel
theorem f_Md_isTold_0 : fch r_Md_isTold.2.1 0 = some (.iload_n 0) := by decide +kernel
theorem f_Md_isTold_1 : fch r_Md_isTold.2.1 1 = some (.ifCond .ne 47) := by decide +kernel
theorem f_Md_isTold_4 : fch r_Md_isTold.2.1 4 = some (.iload_n 1) := by decide +kernel
theorem f_Md_isTold_5 : fch r_Md_isTold.2.1 5 = some (.ifCond .le 41) := by decide +kernel
theorem f_Md_isTold_8 : fch r_Md_isTold.2.1 8 = some (.iload_n 1) := by decide +kernel
theorem f_Md_isTold_9 : fch r_Md_isTold.2.1 9 = some (.bipush 100) := by decide +kernel
theorem f_Md_isTold_11 : fch r_Md_isTold.2.1 11 = some (.idiv) := by decide +kernel
theorem f_Md_isTold_12 : fch r_Md_isTold.2.1 12 = some (.iconst 1) := by decide +kernel
theorem f_Md_isTold_13 : fch r_Md_isTold.2.1 13 = some (.bipush 12) := by decide +kernel
theorem f_Md_isTold_15 : fch r_Md_isTold.2.1 15 = some (.invokestatic 1) := by decide +kernel
theorem f_Md_isTold_18 : fch r_Md_isTold.2.1 18 = some (.ifCond .eq 28) := by decide +kernel
theorem f_Md_isTold_21 : fch r_Md_isTold.2.1 21 = some (.iload_n 1) := by decide +kernel
theorem f_Md_isTold_22 : fch r_Md_isTold.2.1 22 = some (.bipush 100) := by decide +kernel
theorem f_Md_isTold_24 : fch r_Md_isTold.2.1 24 = some (.irem) := by decide +kernel
theorem f_Md_isTold_25 : fch r_Md_isTold.2.1 25 = some (.iconst 1) := by decide +kernel
theorem f_Md_isTold_26 : fch r_Md_isTold.2.1 26 = some (.sipush 2000) := by decide +kernel
theorem f_Md_isTold_29 : fch r_Md_isTold.2.1 29 = some (.iload_n 1) := by decide +kernel
theorem f_Md_isTold_30 : fch r_Md_isTold.2.1 30 = some (.bipush 100) := by decide +kernel
theorem f_Md_isTold_32 : fch r_Md_isTold.2.1 32 = some (.idiv) := by decide +kernel
theorem f_Md_isTold_33 : fch r_Md_isTold.2.1 33 = some (.invokestatic 11) := by decide +kernel
theorem f_Md_isTold_36 : fch r_Md_isTold.2.1 36 = some (.invokestatic 1) := by decide +kernel
theorem f_Md_isTold_39 : fch r_Md_isTold.2.1 39 = some (.ifCond .eq 7) := by decide +kernel
theorem f_Md_isTold_42 : fch r_Md_isTold.2.1 42 = some (.iconst 1) := by decide +kernel
theorem f_Md_isTold_43 : fch r_Md_isTold.2.1 43 = some (.goto 4) := by decide +kernel
theorem f_Md_isTold_46 : fch r_Md_isTold.2.1 46 = some (.iconst 0) := by decide +kernel
theorem f_Md_isTold_47 : fch r_Md_isTold.2.1 47 = some (.ireturn) := by decide +kernel
theorem f_Md_isTold_48 : fch r_Md_isTold.2.1 48 = some (.iload_n 0) := by decide +kernel
theorem f_Md_isTold_49 : fch r_Md_isTold.2.1 49 = some (.iconst 1) := by decide +kernel
theorem f_Md_isTold_50 : fch r_Md_isTold.2.1 50 = some (.if_icmp .ne 13) := by decide +kernel
theorem f_Md_isTold_53 : fch r_Md_isTold.2.1 53 = some (.iload_n 1) := by decide +kernel
theorem f_Md_isTold_54 : fch r_Md_isTold.2.1 54 = some (.bipush (-120)) := by decide +kernel
theorem f_Md_isTold_56 : fch r_Md_isTold.2.1 56 = some (.sipush 250) := by decide +kernel
theorem f_Md_isTold_59 : fch r_Md_isTold.2.1 59 = some (.invokestatic 1) := by decide +kernel
theorem f_Md_isTold_62 : fch r_Md_isTold.2.1 62 = some (.ireturn) := by decide +kernel
theorem f_Md_isTold_63 : fch r_Md_isTold.2.1 63 = some (.iload_n 0) := by decide +kernel
theorem f_Md_isTold_64 : fch r_Md_isTold.2.1 64 = some (.iconst 2) := by decide +kernel
theorem f_Md_isTold_65 : fch r_Md_isTold.2.1 65 = some (.if_icmp .ne 52) := by decide +kernel
theorem f_Md_isTold_68 : fch r_Md_isTold.2.1 68 = some (.iload_n 1) := by decide +kernel
theorem f_Md_isTold_69 : fch r_Md_isTold.2.1 69 = some (.ifCond .le 48) := by decide +kernel
theorem f_Md_isTold_72 : fch r_Md_isTold.2.1 72 = some (.iload_n 1) := by decide +kernel
theorem f_Md_isTold_73 : fch r_Md_isTold.2.1 73 = some (.bipush 100) := by decide +kernel
theorem f_Md_isTold_75 : fch r_Md_isTold.2.1 75 = some (.idiv) := by decide +kernel
theorem f_Md_isTold_76 : fch r_Md_isTold.2.1 76 = some (.iconst 1) := by decide +kernel
theorem f_Md_isTold_77 : fch r_Md_isTold.2.1 77 = some (.bipush 12) := by decide +kernel
theorem f_Md_isTold_79 : fch r_Md_isTold.2.1 79 = some (.invokestatic 1) := by decide +kernel
theorem f_Md_isTold_82 : fch r_Md_isTold.2.1 82 = some (.ifCond .eq 35) := by decide +kernel
theorem f_Md_isTold_85 : fch r_Md_isTold.2.1 85 = some (.iload_n 1) := by decide +kernel
theorem f_Md_isTold_86 : fch r_Md_isTold.2.1 86 = some (.bipush 10) := by decide +kernel
theorem f_Md_isTold_88 : fch r_Md_isTold.2.1 88 = some (.idiv) := by decide +kernel
theorem f_Md_isTold_89 : fch r_Md_isTold.2.1 89 = some (.bipush 10) := by decide +kernel
theorem f_Md_isTold_91 : fch r_Md_isTold.2.1 91 = some (.irem) := by decide +kernel
theorem f_Md_isTold_92 : fch r_Md_isTold.2.1 92 = some (.iconst 0) := by decide +kernel
theorem f_Md_isTold_93 : fch r_Md_isTold.2.1 93 = some (.bipush 6) := by decide +kernel
theorem f_Md_isTold_95 : fch r_Md_isTold.2.1 95 = some (.invokestatic 1) := by decide +kernel
theorem f_Md_isTold_98 : fch r_Md_isTold.2.1 98 = some (.ifCond .eq 19) := by decide +kernel
theorem f_Md_isTold_101 : fch r_Md_isTold.2.1 101 = some (.iload_n 1) := by decide +kernel
theorem f_Md_isTold_102 : fch r_Md_isTold.2.1 102 = some (.bipush 10) := by decide +kernel
theorem f_Md_isTold_104 : fch r_Md_isTold.2.1 104 = some (.irem) := by decide +kernel
theorem f_Md_isTold_105 : fch r_Md_isTold.2.1 105 = some (.iconst 1) := by decide +kernel
theorem f_Md_isTold_106 : fch r_Md_isTold.2.1 106 = some (.iconst 5) := by decide +kernel
theorem f_Md_isTold_107 : fch r_Md_isTold.2.1 107 = some (.invokestatic 1) := by decide +kernel
theorem f_Md_isTold_110 : fch r_Md_isTold.2.1 110 = some (.ifCond .eq 7) := by decide +kernel
theorem f_Md_isTold_113 : fch r_Md_isTold.2.1 113 = some (.iconst 1) := by decide +kernel
theorem f_Md_isTold_114 : fch r_Md_isTold.2.1 114 = some (.goto 4) := by decide +kernel
theorem f_Md_isTold_117 : fch r_Md_isTold.2.1 117 = some (.iconst 0) := by decide +kernel
theorem f_Md_isTold_118 : fch r_Md_isTold.2.1 118 = some (.ireturn) := by decide +kernel
theorem f_Md_around_0 : fch r_Md_around.2.1 0 = some (.iload_n 1) := by decide +kernel
theorem f_Md_around_1 : fch r_Md_around.2.1 1 = some (.iconst 0) := by decide +kernel
theorem f_Md_around_2 : fch r_Md_around.2.1 2 = some (.aload_n 0) := by decide +kernel
theorem f_Md_around_3 : fch r_Md_around.2.1 3 = some (.getfield 66) := by decide +kernel
theorem f_Md_around_6 : fch r_Md_around.2.1 6 = some (.iconst 1) := by decide +kernel
theorem f_Md_around_7 : fch r_Md_around.2.1 7 = some (.isub) := by decide +kernel
theorem f_Md_around_8 : fch r_Md_around.2.1 8 = some (.invokestatic 1) := by decide +kernel
theorem f_Md_around_11 : fch r_Md_around.2.1 11 = some (.ifCond .eq 13) := by decide +kernel
theorem f_Md_around_14 : fch r_Md_around.2.1 14 = some (.iload_n 2) := by decide +kernel
theorem f_Md_around_15 : fch r_Md_around.2.1 15 = some (.iconst 0) := by decide +kernel
theorem f_Md_around_16 : fch r_Md_around.2.1 16 = some (.bipush 8) := by decide +kernel
theorem f_Md_around_18 : fch r_Md_around.2.1 18 = some (.invokestatic 1) := by decide +kernel
theorem f_Md_around_21 : fch r_Md_around.2.1 21 = some (.ifCond .ne 5) := by decide +kernel
theorem f_Md_around_24 : fch r_Md_around.2.1 24 = some (.iconst (-1)) := by decide +kernel
theorem f_Md_around_25 : fch r_Md_around.2.1 25 = some (.ireturn) := by decide +kernel
theorem f_Md_around_26 : fch r_Md_around.2.1 26 = some (.aload_n 0) := by decide +kernel
theorem f_Md_around_27 : fch r_Md_around.2.1 27 = some (.getfield 88) := by decide +kernel
theorem f_Md_around_30 : fch r_Md_around.2.1 30 = some (.iload_n 1) := by decide +kernel
theorem f_Md_around_31 : fch r_Md_around.2.1 31 = some (.iload_n 2) := by decide +kernel
theorem f_Md_around_32 : fch r_Md_around.2.1 32 = some (.iastore) := by decide +kernel
theorem f_Md_around_33 : fch r_Md_around.2.1 33 = some (.aload_n 0) := by decide +kernel
theorem f_Md_around_34 : fch r_Md_around.2.1 34 = some (.getfield 91) := by decide +kernel
theorem f_Md_around_37 : fch r_Md_around.2.1 37 = some (.iload_n 1) := by decide +kernel
theorem f_Md_around_38 : fch r_Md_around.2.1 38 = some (.iload_n 3) := by decide +kernel
theorem f_Md_around_39 : fch r_Md_around.2.1 39 = some (.bastore) := by decide +kernel
theorem f_Md_around_40 : fch r_Md_around.2.1 40 = some (.aload_n 0) := by decide +kernel
theorem f_Md_around_41 : fch r_Md_around.2.1 41 = some (.iconst 0) := by decide +kernel
theorem f_Md_around_42 : fch r_Md_around.2.1 42 = some (.putfield 56) := by decide +kernel
theorem f_Md_around_45 : fch r_Md_around.2.1 45 = some (.iconst 0) := by decide +kernel
theorem f_Md_around_46 : fch r_Md_around.2.1 46 = some (.ireturn) := by decide +kernel
theorem f_Md_raise_0 : fch r_Md_raise.2.1 0 = some (.iload_n 1) := by decide +kernel
theorem f_Md_raise_1 : fch r_Md_raise.2.1 1 = some (.iconst 0) := by decide +kernel
theorem f_Md_raise_2 : fch r_Md_raise.2.1 2 = some (.aload_n 0) := by decide +kernel
theorem f_Md_raise_3 : fch r_Md_raise.2.1 3 = some (.getfield 66) := by decide +kernel
theorem f_Md_raise_6 : fch r_Md_raise.2.1 6 = some (.iconst 1) := by decide +kernel
theorem f_Md_raise_7 : fch r_Md_raise.2.1 7 = some (.isub) := by decide +kernel
theorem f_Md_raise_8 : fch r_Md_raise.2.1 8 = some (.invokestatic 1) := by decide +kernel
theorem f_Md_raise_11 : fch r_Md_raise.2.1 11 = some (.ifCond .eq 22) := by decide +kernel
theorem f_Md_raise_14 : fch r_Md_raise.2.1 14 = some (.iload_n 2) := by decide +kernel
theorem f_Md_raise_15 : fch r_Md_raise.2.1 15 = some (.iconst 1) := by decide +kernel
theorem f_Md_raise_16 : fch r_Md_raise.2.1 16 = some (.bipush 9) := by decide +kernel
theorem f_Md_raise_18 : fch r_Md_raise.2.1 18 = some (.invokestatic 1) := by decide +kernel
theorem f_Md_raise_21 : fch r_Md_raise.2.1 21 = some (.ifCond .eq 12) := by decide +kernel
theorem f_Md_raise_24 : fch r_Md_raise.2.1 24 = some (.iload_n 3) := by decide +kernel
theorem f_Md_raise_25 : fch r_Md_raise.2.1 25 = some (.iconst 0) := by decide +kernel
theorem f_Md_raise_26 : fch r_Md_raise.2.1 26 = some (.iconst 2) := by decide +kernel
theorem f_Md_raise_27 : fch r_Md_raise.2.1 27 = some (.invokestatic 1) := by decide +kernel
theorem f_Md_raise_30 : fch r_Md_raise.2.1 30 = some (.ifCond .ne 5) := by decide +kernel
theorem f_Md_raise_33 : fch r_Md_raise.2.1 33 = some (.iconst (-1)) := by decide +kernel
theorem f_Md_raise_34 : fch r_Md_raise.2.1 34 = some (.ireturn) := by decide +kernel
theorem f_Md_raise_35 : fch r_Md_raise.2.1 35 = some (.aload_n 0) := by decide +kernel
theorem f_Md_raise_36 : fch r_Md_raise.2.1 36 = some (.getfield 79) := by decide +kernel
theorem f_Md_raise_39 : fch r_Md_raise.2.1 39 = some (.iload_n 1) := by decide +kernel
theorem f_Md_raise_40 : fch r_Md_raise.2.1 40 = some (.iload_n 2) := by decide +kernel
theorem f_Md_raise_41 : fch r_Md_raise.2.1 41 = some (.iastore) := by decide +kernel
theorem f_Md_raise_42 : fch r_Md_raise.2.1 42 = some (.aload_n 0) := by decide +kernel
theorem f_Md_raise_43 : fch r_Md_raise.2.1 43 = some (.getfield 85) := by decide +kernel
theorem f_Md_raise_46 : fch r_Md_raise.2.1 46 = some (.iload_n 1) := by decide +kernel
theorem f_Md_raise_47 : fch r_Md_raise.2.1 47 = some (.iload_n 3) := by decide +kernel
theorem f_Md_raise_48 : fch r_Md_raise.2.1 48 = some (.iastore) := by decide +kernel
theorem f_Md_raise_49 : fch r_Md_raise.2.1 49 = some (.aload_n 0) := by decide +kernel
theorem f_Md_raise_50 : fch r_Md_raise.2.1 50 = some (.iconst 0) := by decide +kernel
theorem f_Md_raise_51 : fch r_Md_raise.2.1 51 = some (.putfield 56) := by decide +kernel
theorem f_Md_raise_54 : fch r_Md_raise.2.1 54 = some (.iconst 0) := by decide +kernel
theorem f_Md_raise_55 : fch r_Md_raise.2.1 55 = some (.ireturn) := by decide +kernel
theorem f_Md_office_0 : fch r_Md_office.2.1 0 = some (.iload_n 1) := by decide +kernel
theorem f_Md_office_1 : fch r_Md_office.2.1 1 = some (.iload_n 2) := by decide +kernel
theorem f_Md_office_2 : fch r_Md_office.2.1 2 = some (.invokestatic 179) := by decide +kernel
theorem f_Md_office_5 : fch r_Md_office.2.1 5 = some (.ifCond .ne 5) := by decide +kernel
theorem f_Md_office_8 : fch r_Md_office.2.1 8 = some (.iconst (-1)) := by decide +kernel
theorem f_Md_office_9 : fch r_Md_office.2.1 9 = some (.ireturn) := by decide +kernel
theorem f_Md_office_10 : fch r_Md_office.2.1 10 = some (.aload_n 0) := by decide +kernel
theorem f_Md_office_11 : fch r_Md_office.2.1 11 = some (.iload_n 1) := by decide +kernel
theorem f_Md_office_12 : fch r_Md_office.2.1 12 = some (.invokevirtual 182) := by decide +kernel
theorem f_Md_office_15 : fch r_Md_office.2.1 15 = some (.iload_n 3) := by decide +kernel
theorem f_Md_office_16 : fch r_Md_office.2.1 16 = some (.tableswitch 105 0 5 #[40, 47, 54, 61, 68, 79]) := by decide +kernel
theorem f_Md_office_56 : fch r_Md_office.2.1 56 = some (.aload_n 0) := by decide +kernel
theorem f_Md_office_57 : fch r_Md_office.2.1 57 = some (.getfield 158) := by decide +kernel
theorem f_Md_office_60 : fch r_Md_office.2.1 60 = some (.iload_n 2) := by decide +kernel
theorem f_Md_office_61 : fch r_Md_office.2.1 61 = some (.iaload) := by decide +kernel
theorem f_Md_office_62 : fch r_Md_office.2.1 62 = some (.ireturn) := by decide +kernel
theorem f_Md_office_63 : fch r_Md_office.2.1 63 = some (.aload_n 0) := by decide +kernel
theorem f_Md_office_64 : fch r_Md_office.2.1 64 = some (.getfield 161) := by decide +kernel
theorem f_Md_office_67 : fch r_Md_office.2.1 67 = some (.iload_n 2) := by decide +kernel
theorem f_Md_office_68 : fch r_Md_office.2.1 68 = some (.iaload) := by decide +kernel
theorem f_Md_office_69 : fch r_Md_office.2.1 69 = some (.ireturn) := by decide +kernel
theorem f_Md_office_70 : fch r_Md_office.2.1 70 = some (.aload_n 0) := by decide +kernel
theorem f_Md_office_71 : fch r_Md_office.2.1 71 = some (.getfield 164) := by decide +kernel
theorem f_Md_office_74 : fch r_Md_office.2.1 74 = some (.iload_n 2) := by decide +kernel
theorem f_Md_office_75 : fch r_Md_office.2.1 75 = some (.iaload) := by decide +kernel
theorem f_Md_office_76 : fch r_Md_office.2.1 76 = some (.ireturn) := by decide +kernel
theorem f_Md_office_77 : fch r_Md_office.2.1 77 = some (.aload_n 0) := by decide +kernel
theorem f_Md_office_78 : fch r_Md_office.2.1 78 = some (.getfield 167) := by decide +kernel
theorem f_Md_office_81 : fch r_Md_office.2.1 81 = some (.iload_n 2) := by decide +kernel
theorem f_Md_office_82 : fch r_Md_office.2.1 82 = some (.iaload) := by decide +kernel
theorem f_Md_office_83 : fch r_Md_office.2.1 83 = some (.ireturn) := by decide +kernel
theorem f_Md_office_84 : fch r_Md_office.2.1 84 = some (.aload_n 0) := by decide +kernel
theorem f_Md_office_85 : fch r_Md_office.2.1 85 = some (.iload_n 1) := by decide +kernel
theorem f_Md_office_86 : fch r_Md_office.2.1 86 = some (.iload_n 2) := by decide +kernel
theorem f_Md_office_87 : fch r_Md_office.2.1 87 = some (.invokevirtual 186) := by decide +kernel
theorem f_Md_office_90 : fch r_Md_office.2.1 90 = some (.aload_n 0) := by decide +kernel
theorem f_Md_office_91 : fch r_Md_office.2.1 91 = some (.getfield 173) := by decide +kernel
theorem f_Md_office_94 : fch r_Md_office.2.1 94 = some (.ireturn) := by decide +kernel
theorem f_Md_office_95 : fch r_Md_office.2.1 95 = some (.aload_n 0) := by decide +kernel
theorem f_Md_office_96 : fch r_Md_office.2.1 96 = some (.getfield 158) := by decide +kernel
theorem f_Md_office_99 : fch r_Md_office.2.1 99 = some (.iload_n 2) := by decide +kernel
theorem f_Md_office_100 : fch r_Md_office.2.1 100 = some (.iaload) := by decide +kernel
theorem f_Md_office_101 : fch r_Md_office.2.1 101 = some (.iconst 2) := by decide +kernel
theorem f_Md_office_102 : fch r_Md_office.2.1 102 = some (.if_icmp .ne 17) := by decide +kernel
theorem f_Md_office_105 : fch r_Md_office.2.1 105 = some (.aload_n 0) := by decide +kernel
theorem f_Md_office_106 : fch r_Md_office.2.1 106 = some (.getfield 129) := by decide +kernel
theorem f_Md_office_109 : fch r_Md_office.2.1 109 = some (.aload_n 0) := by decide +kernel
theorem f_Md_office_110 : fch r_Md_office.2.1 110 = some (.getfield 161) := by decide +kernel
theorem f_Md_office_113 : fch r_Md_office.2.1 113 = some (.iload_n 2) := by decide +kernel
theorem f_Md_office_114 : fch r_Md_office.2.1 114 = some (.iaload) := by decide +kernel
theorem f_Md_office_115 : fch r_Md_office.2.1 115 = some (.iaload) := by decide +kernel
theorem f_Md_office_116 : fch r_Md_office.2.1 116 = some (.goto 4) := by decide +kernel
theorem f_Md_office_119 : fch r_Md_office.2.1 119 = some (.iload_n 2) := by decide +kernel
theorem f_Md_office_120 : fch r_Md_office.2.1 120 = some (.ireturn) := by decide +kernel
theorem f_Md_office_121 : fch r_Md_office.2.1 121 = some (.iconst (-1)) := by decide +kernel
theorem f_Md_office_122 : fch r_Md_office.2.1 122 = some (.ireturn) := by decide +kernel
theorem f_Md_isDay_0 : fch r_Md_isDay.2.1 0 = some (.iload_n 0) := by decide +kernel
theorem f_Md_isDay_1 : fch r_Md_isDay.2.1 1 = some (.invokestatic 23) := by decide +kernel
theorem f_Md_isDay_4 : fch r_Md_isDay.2.1 4 = some (.ifCond .eq 21) := by decide +kernel
theorem f_Md_isDay_7 : fch r_Md_isDay.2.1 7 = some (.iload_n 1) := by decide +kernel
theorem f_Md_isDay_8 : fch r_Md_isDay.2.1 8 = some (.iconst 0) := by decide +kernel
theorem f_Md_isDay_9 : fch r_Md_isDay.2.1 9 = some (.iload_n 0) := by decide +kernel
theorem f_Md_isDay_10 : fch r_Md_isDay.2.1 10 = some (.invokestatic 15) := by decide +kernel
theorem f_Md_isDay_13 : fch r_Md_isDay.2.1 13 = some (.iconst 1) := by decide +kernel
theorem f_Md_isDay_14 : fch r_Md_isDay.2.1 14 = some (.isub) := by decide +kernel
theorem f_Md_isDay_15 : fch r_Md_isDay.2.1 15 = some (.invokestatic 1) := by decide +kernel
theorem f_Md_isDay_18 : fch r_Md_isDay.2.1 18 = some (.ifCond .eq 7) := by decide +kernel
theorem f_Md_isDay_21 : fch r_Md_isDay.2.1 21 = some (.iconst 1) := by decide +kernel
theorem f_Md_isDay_22 : fch r_Md_isDay.2.1 22 = some (.goto 4) := by decide +kernel
theorem f_Md_isDay_25 : fch r_Md_isDay.2.1 25 = some (.iconst 0) := by decide +kernel
theorem f_Md_isDay_26 : fch r_Md_isDay.2.1 26 = some (.ireturn) := by decide +kernel
theorem f_Md_reckon_0 : fch r_Md_reckon.2.1 0 = some (.aload_n 0) := by decide +kernel
theorem f_Md_reckon_1 : fch r_Md_reckon.2.1 1 = some (.getfield 56) := by decide +kernel
theorem f_Md_reckon_4 : fch r_Md_reckon.2.1 4 = some (.iload_n 1) := by decide +kernel
theorem f_Md_reckon_5 : fch r_Md_reckon.2.1 5 = some (.if_icmp .ne 4) := by decide +kernel
theorem f_Md_reckon_8 : fch r_Md_reckon.2.1 8 = some (.return_) := by decide +kernel
theorem f_Md_reckon_9 : fch r_Md_reckon.2.1 9 = some (.aload_n 0) := by decide +kernel
theorem f_Md_reckon_10 : fch r_Md_reckon.2.1 10 = some (.iload_n 1) := by decide +kernel
theorem f_Md_reckon_11 : fch r_Md_reckon.2.1 11 = some (.putfield 56) := by decide +kernel
theorem f_Md_reckon_14 : fch r_Md_reckon.2.1 14 = some (.aload_n 0) := by decide +kernel
theorem f_Md_reckon_15 : fch r_Md_reckon.2.1 15 = some (.iload_n 1) := by decide +kernel
theorem f_Md_reckon_16 : fch r_Md_reckon.2.1 16 = some (.invokestatic 29) := by decide +kernel
theorem f_Md_reckon_19 : fch r_Md_reckon.2.1 19 = some (.putfield 115) := by decide +kernel
theorem f_Md_reckon_22 : fch r_Md_reckon.2.1 22 = some (.aload_n 0) := by decide +kernel
theorem f_Md_reckon_23 : fch r_Md_reckon.2.1 23 = some (.iload_n 1) := by decide +kernel
theorem f_Md_reckon_24 : fch r_Md_reckon.2.1 24 = some (.invokestatic 26) := by decide +kernel
theorem f_Md_reckon_27 : fch r_Md_reckon.2.1 27 = some (.putfield 122) := by decide +kernel
theorem f_Md_reckon_30 : fch r_Md_reckon.2.1 30 = some (.iconst 0) := by decide +kernel
theorem f_Md_reckon_31 : fch r_Md_reckon.2.1 31 = some (.istore_n 2) := by decide +kernel
theorem f_Md_reckon_32 : fch r_Md_reckon.2.1 32 = some (.iload_n 2) := by decide +kernel
theorem f_Md_reckon_33 : fch r_Md_reckon.2.1 33 = some (.aload_n 0) := by decide +kernel
theorem f_Md_reckon_34 : fch r_Md_reckon.2.1 34 = some (.getfield 66) := by decide +kernel
theorem f_Md_reckon_37 : fch r_Md_reckon.2.1 37 = some (.if_icmp .ge 38) := by decide +kernel
theorem f_Md_reckon_40 : fch r_Md_reckon.2.1 40 = some (.aload_n 0) := by decide +kernel
theorem f_Md_reckon_41 : fch r_Md_reckon.2.1 41 = some (.getfield 129) := by decide +kernel
theorem f_Md_reckon_44 : fch r_Md_reckon.2.1 44 = some (.iload_n 2) := by decide +kernel
theorem f_Md_reckon_45 : fch r_Md_reckon.2.1 45 = some (.iload_n 1) := by decide +kernel
theorem f_Md_reckon_46 : fch r_Md_reckon.2.1 46 = some (.aload_n 0) := by decide +kernel
theorem f_Md_reckon_47 : fch r_Md_reckon.2.1 47 = some (.getfield 73) := by decide +kernel
theorem f_Md_reckon_50 : fch r_Md_reckon.2.1 50 = some (.iload_n 2) := by decide +kernel
theorem f_Md_reckon_51 : fch r_Md_reckon.2.1 51 = some (.iaload) := by decide +kernel
theorem f_Md_reckon_52 : fch r_Md_reckon.2.1 52 = some (.aload_n 0) := by decide +kernel
theorem f_Md_reckon_53 : fch r_Md_reckon.2.1 53 = some (.getfield 76) := by decide +kernel
theorem f_Md_reckon_56 : fch r_Md_reckon.2.1 56 = some (.iload_n 2) := by decide +kernel
theorem f_Md_reckon_57 : fch r_Md_reckon.2.1 57 = some (.iaload) := by decide +kernel
theorem f_Md_reckon_58 : fch r_Md_reckon.2.1 58 = some (.invokestatic 135) := by decide +kernel
theorem f_Md_reckon_61 : fch r_Md_reckon.2.1 61 = some (.iastore) := by decide +kernel
theorem f_Md_reckon_62 : fch r_Md_reckon.2.1 62 = some (.aload_n 0) := by decide +kernel
theorem f_Md_reckon_63 : fch r_Md_reckon.2.1 63 = some (.getfield 138) := by decide +kernel
theorem f_Md_reckon_66 : fch r_Md_reckon.2.1 66 = some (.iload_n 2) := by decide +kernel
theorem f_Md_reckon_67 : fch r_Md_reckon.2.1 67 = some (.iconst (-1)) := by decide +kernel
theorem f_Md_reckon_68 : fch r_Md_reckon.2.1 68 = some (.iastore) := by decide +kernel
theorem f_Md_reckon_69 : fch r_Md_reckon.2.1 69 = some (.iinc 2 1) := by decide +kernel
theorem f_Md_reckon_72 : fch r_Md_reckon.2.1 72 = some (.goto (-40)) := by decide +kernel
theorem f_Md_reckon_75 : fch r_Md_reckon.2.1 75 = some (.iconst 0) := by decide +kernel
theorem f_Md_reckon_76 : fch r_Md_reckon.2.1 76 = some (.istore_n 2) := by decide +kernel
theorem f_Md_reckon_77 : fch r_Md_reckon.2.1 77 = some (.iload_n 2) := by decide +kernel
theorem f_Md_reckon_78 : fch r_Md_reckon.2.1 78 = some (.iload_n 1) := by decide +kernel
theorem f_Md_reckon_79 : fch r_Md_reckon.2.1 79 = some (.invokestatic 15) := by decide +kernel
theorem f_Md_reckon_82 : fch r_Md_reckon.2.1 82 = some (.if_icmp .ge 81) := by decide +kernel
theorem f_Md_reckon_85 : fch r_Md_reckon.2.1 85 = some (.aload_n 0) := by decide +kernel
theorem f_Md_reckon_86 : fch r_Md_reckon.2.1 86 = some (.iload_n 1) := by decide +kernel
theorem f_Md_reckon_87 : fch r_Md_reckon.2.1 87 = some (.iload_n 2) := by decide +kernel
theorem f_Md_reckon_88 : fch r_Md_reckon.2.1 88 = some (.invokevirtual 141) := by decide +kernel
theorem f_Md_reckon_91 : fch r_Md_reckon.2.1 91 = some (.iconst 0) := by decide +kernel
theorem f_Md_reckon_92 : fch r_Md_reckon.2.1 92 = some (.istore_n 3) := by decide +kernel
theorem f_Md_reckon_93 : fch r_Md_reckon.2.1 93 = some (.iconst 1) := by decide +kernel
theorem f_Md_reckon_94 : fch r_Md_reckon.2.1 94 = some (.istore 4) := by decide +kernel
theorem f_Md_reckon_96 : fch r_Md_reckon.2.1 96 = some (.iload 4) := by decide +kernel
theorem f_Md_reckon_98 : fch r_Md_reckon.2.1 98 = some (.aload_n 0) := by decide +kernel
theorem f_Md_reckon_99 : fch r_Md_reckon.2.1 99 = some (.getfield 100) := by decide +kernel
theorem f_Md_reckon_102 : fch r_Md_reckon.2.1 102 = some (.if_icmp .ge 26) := by decide +kernel
theorem f_Md_reckon_105 : fch r_Md_reckon.2.1 105 = some (.aload_n 0) := by decide +kernel
theorem f_Md_reckon_106 : fch r_Md_reckon.2.1 106 = some (.iload 4) := by decide +kernel
theorem f_Md_reckon_108 : fch r_Md_reckon.2.1 108 = some (.iload_n 3) := by decide +kernel
theorem f_Md_reckon_109 : fch r_Md_reckon.2.1 109 = some (.invokevirtual 145) := by decide +kernel
theorem f_Md_reckon_112 : fch r_Md_reckon.2.1 112 = some (.ifCond .eq 8) := by decide +kernel
theorem f_Md_reckon_115 : fch r_Md_reckon.2.1 115 = some (.iload 4) := by decide +kernel
theorem f_Md_reckon_117 : fch r_Md_reckon.2.1 117 = some (.goto 4) := by decide +kernel
theorem f_Md_reckon_120 : fch r_Md_reckon.2.1 120 = some (.iload_n 3) := by decide +kernel
theorem f_Md_reckon_121 : fch r_Md_reckon.2.1 121 = some (.istore_n 3) := by decide +kernel
theorem f_Md_reckon_122 : fch r_Md_reckon.2.1 122 = some (.iinc 4 1) := by decide +kernel
theorem f_Md_reckon_125 : fch r_Md_reckon.2.1 125 = some (.goto (-29)) := by decide +kernel
theorem f_Md_reckon_128 : fch r_Md_reckon.2.1 128 = some (.aload_n 0) := by decide +kernel
theorem f_Md_reckon_129 : fch r_Md_reckon.2.1 129 = some (.iload_n 2) := by decide +kernel
theorem f_Md_reckon_130 : fch r_Md_reckon.2.1 130 = some (.aload_n 0) := by decide +kernel
theorem f_Md_reckon_131 : fch r_Md_reckon.2.1 131 = some (.getfield 97) := by decide +kernel
theorem f_Md_reckon_134 : fch r_Md_reckon.2.1 134 = some (.iload_n 3) := by decide +kernel
theorem f_Md_reckon_135 : fch r_Md_reckon.2.1 135 = some (.iaload) := by decide +kernel
theorem f_Md_reckon_136 : fch r_Md_reckon.2.1 136 = some (.aload_n 0) := by decide +kernel
theorem f_Md_reckon_137 : fch r_Md_reckon.2.1 137 = some (.getfield 103) := by decide +kernel
theorem f_Md_reckon_140 : fch r_Md_reckon.2.1 140 = some (.iload_n 3) := by decide +kernel
theorem f_Md_reckon_141 : fch r_Md_reckon.2.1 141 = some (.iaload) := by decide +kernel
theorem f_Md_reckon_142 : fch r_Md_reckon.2.1 142 = some (.aload_n 0) := by decide +kernel
theorem f_Md_reckon_143 : fch r_Md_reckon.2.1 143 = some (.getfield 106) := by decide +kernel
theorem f_Md_reckon_146 : fch r_Md_reckon.2.1 146 = some (.iload_n 3) := by decide +kernel
theorem f_Md_reckon_147 : fch r_Md_reckon.2.1 147 = some (.iaload) := by decide +kernel
theorem f_Md_reckon_148 : fch r_Md_reckon.2.1 148 = some (.aload_n 0) := by decide +kernel
theorem f_Md_reckon_149 : fch r_Md_reckon.2.1 149 = some (.getfield 109) := by decide +kernel
theorem f_Md_reckon_152 : fch r_Md_reckon.2.1 152 = some (.iload_n 3) := by decide +kernel
theorem f_Md_reckon_153 : fch r_Md_reckon.2.1 153 = some (.iaload) := by decide +kernel
theorem f_Md_reckon_154 : fch r_Md_reckon.2.1 154 = some (.invokevirtual 148) := by decide +kernel
theorem f_Md_reckon_157 : fch r_Md_reckon.2.1 157 = some (.iinc 2 1) := by decide +kernel
theorem f_Md_reckon_160 : fch r_Md_reckon.2.1 160 = some (.goto (-83)) := by decide +kernel
theorem f_Md_reckon_163 : fch r_Md_reckon.2.1 163 = some (.aload_n 0) := by decide +kernel
theorem f_Md_reckon_164 : fch r_Md_reckon.2.1 164 = some (.invokevirtual 151) := by decide +kernel
theorem f_Md_reckon_167 : fch r_Md_reckon.2.1 167 = some (.istore_n 2) := by decide +kernel
theorem f_Md_reckon_168 : fch r_Md_reckon.2.1 168 = some (.iload_n 2) := by decide +kernel
theorem f_Md_reckon_169 : fch r_Md_reckon.2.1 169 = some (.iconst (-1)) := by decide +kernel
theorem f_Md_reckon_170 : fch r_Md_reckon.2.1 170 = some (.if_icmp .eq 17) := by decide +kernel
theorem f_Md_reckon_173 : fch r_Md_reckon.2.1 173 = some (.aload_n 0) := by decide +kernel
theorem f_Md_reckon_174 : fch r_Md_reckon.2.1 174 = some (.iload_n 1) := by decide +kernel
theorem f_Md_reckon_175 : fch r_Md_reckon.2.1 175 = some (.iload_n 2) := by decide +kernel
theorem f_Md_reckon_176 : fch r_Md_reckon.2.1 176 = some (.invokevirtual 155) := by decide +kernel
theorem f_Md_reckon_179 : fch r_Md_reckon.2.1 179 = some (.aload_n 0) := by decide +kernel
theorem f_Md_reckon_180 : fch r_Md_reckon.2.1 180 = some (.invokevirtual 151) := by decide +kernel
theorem f_Md_reckon_183 : fch r_Md_reckon.2.1 183 = some (.istore_n 2) := by decide +kernel
theorem f_Md_reckon_184 : fch r_Md_reckon.2.1 184 = some (.goto (-16)) := by decide +kernel
theorem f_Md_reckon_187 : fch r_Md_reckon.2.1 187 = some (.return_) := by decide +kernel
theorem f_Md_feastDay_0 : fch r_Md_feastDay.2.1 0 = some (.iload_n 1) := by decide +kernel
theorem f_Md_feastDay_1 : fch r_Md_feastDay.2.1 1 = some (.ifCond .ne 35) := by decide +kernel
theorem f_Md_feastDay_4 : fch r_Md_feastDay.2.1 4 = some (.iload_n 2) := by decide +kernel
theorem f_Md_feastDay_5 : fch r_Md_feastDay.2.1 5 = some (.bipush 100) := by decide +kernel
theorem f_Md_feastDay_7 : fch r_Md_feastDay.2.1 7 = some (.irem) := by decide +kernel
theorem f_Md_feastDay_8 : fch r_Md_feastDay.2.1 8 = some (.iload_n 0) := by decide +kernel
theorem f_Md_feastDay_9 : fch r_Md_feastDay.2.1 9 = some (.iload_n 2) := by decide +kernel
theorem f_Md_feastDay_10 : fch r_Md_feastDay.2.1 10 = some (.bipush 100) := by decide +kernel
theorem f_Md_feastDay_12 : fch r_Md_feastDay.2.1 12 = some (.idiv) := by decide +kernel
theorem f_Md_feastDay_13 : fch r_Md_feastDay.2.1 13 = some (.invokestatic 11) := by decide +kernel
theorem f_Md_feastDay_16 : fch r_Md_feastDay.2.1 16 = some (.if_icmp .gt 18) := by decide +kernel
theorem f_Md_feastDay_19 : fch r_Md_feastDay.2.1 19 = some (.iload_n 0) := by decide +kernel
theorem f_Md_feastDay_20 : fch r_Md_feastDay.2.1 20 = some (.iload_n 2) := by decide +kernel
theorem f_Md_feastDay_21 : fch r_Md_feastDay.2.1 21 = some (.bipush 100) := by decide +kernel
theorem f_Md_feastDay_23 : fch r_Md_feastDay.2.1 23 = some (.idiv) := by decide +kernel
theorem f_Md_feastDay_24 : fch r_Md_feastDay.2.1 24 = some (.iload_n 2) := by decide +kernel
theorem f_Md_feastDay_25 : fch r_Md_feastDay.2.1 25 = some (.bipush 100) := by decide +kernel
theorem f_Md_feastDay_27 : fch r_Md_feastDay.2.1 27 = some (.irem) := by decide +kernel
theorem f_Md_feastDay_28 : fch r_Md_feastDay.2.1 28 = some (.invokestatic 19) := by decide +kernel
theorem f_Md_feastDay_31 : fch r_Md_feastDay.2.1 31 = some (.goto 4) := by decide +kernel
theorem f_Md_feastDay_34 : fch r_Md_feastDay.2.1 34 = some (.iconst (-1)) := by decide +kernel
theorem f_Md_feastDay_35 : fch r_Md_feastDay.2.1 35 = some (.ireturn) := by decide +kernel
theorem f_Md_feastDay_36 : fch r_Md_feastDay.2.1 36 = some (.iload_n 1) := by decide +kernel
theorem f_Md_feastDay_37 : fch r_Md_feastDay.2.1 37 = some (.iconst 1) := by decide +kernel
theorem f_Md_feastDay_38 : fch r_Md_feastDay.2.1 38 = some (.if_icmp .ne 30) := by decide +kernel
theorem f_Md_feastDay_41 : fch r_Md_feastDay.2.1 41 = some (.iload_n 0) := by decide +kernel
theorem f_Md_feastDay_42 : fch r_Md_feastDay.2.1 42 = some (.invokestatic 29) := by decide +kernel
theorem f_Md_feastDay_45 : fch r_Md_feastDay.2.1 45 = some (.iload_n 2) := by decide +kernel
theorem f_Md_feastDay_46 : fch r_Md_feastDay.2.1 46 = some (.iadd) := by decide +kernel
theorem f_Md_feastDay_47 : fch r_Md_feastDay.2.1 47 = some (.istore_n 3) := by decide +kernel
theorem f_Md_feastDay_48 : fch r_Md_feastDay.2.1 48 = some (.iload_n 3) := by decide +kernel
theorem f_Md_feastDay_49 : fch r_Md_feastDay.2.1 49 = some (.iconst 0) := by decide +kernel
theorem f_Md_feastDay_50 : fch r_Md_feastDay.2.1 50 = some (.iload_n 0) := by decide +kernel
theorem f_Md_feastDay_51 : fch r_Md_feastDay.2.1 51 = some (.invokestatic 15) := by decide +kernel
theorem f_Md_feastDay_54 : fch r_Md_feastDay.2.1 54 = some (.iconst 1) := by decide +kernel
theorem f_Md_feastDay_55 : fch r_Md_feastDay.2.1 55 = some (.isub) := by decide +kernel
theorem f_Md_feastDay_56 : fch r_Md_feastDay.2.1 56 = some (.invokestatic 1) := by decide +kernel
theorem f_Md_feastDay_59 : fch r_Md_feastDay.2.1 59 = some (.ifCond .eq 7) := by decide +kernel
theorem f_Md_feastDay_62 : fch r_Md_feastDay.2.1 62 = some (.iload_n 3) := by decide +kernel
theorem f_Md_feastDay_63 : fch r_Md_feastDay.2.1 63 = some (.goto 4) := by decide +kernel
theorem f_Md_feastDay_66 : fch r_Md_feastDay.2.1 66 = some (.iconst (-1)) := by decide +kernel
theorem f_Md_feastDay_67 : fch r_Md_feastDay.2.1 67 = some (.ireturn) := by decide +kernel
theorem f_Md_feastDay_68 : fch r_Md_feastDay.2.1 68 = some (.iload_n 2) := by decide +kernel
theorem f_Md_feastDay_69 : fch r_Md_feastDay.2.1 69 = some (.bipush 100) := by decide +kernel
theorem f_Md_feastDay_71 : fch r_Md_feastDay.2.1 71 = some (.idiv) := by decide +kernel
theorem f_Md_feastDay_72 : fch r_Md_feastDay.2.1 72 = some (.istore_n 3) := by decide +kernel
theorem f_Md_feastDay_73 : fch r_Md_feastDay.2.1 73 = some (.iconst 0) := by decide +kernel
theorem f_Md_feastDay_74 : fch r_Md_feastDay.2.1 74 = some (.istore 4) := by decide +kernel
theorem f_Md_feastDay_76 : fch r_Md_feastDay.2.1 76 = some (.iconst 1) := by decide +kernel
theorem f_Md_feastDay_77 : fch r_Md_feastDay.2.1 77 = some (.istore 5) := by decide +kernel
theorem f_Md_feastDay_79 : fch r_Md_feastDay.2.1 79 = some (.iload 5) := by decide +kernel
theorem f_Md_feastDay_81 : fch r_Md_feastDay.2.1 81 = some (.iload_n 0) := by decide +kernel
theorem f_Md_feastDay_82 : fch r_Md_feastDay.2.1 82 = some (.iload_n 3) := by decide +kernel
theorem f_Md_feastDay_83 : fch r_Md_feastDay.2.1 83 = some (.invokestatic 11) := by decide +kernel
theorem f_Md_feastDay_86 : fch r_Md_feastDay.2.1 86 = some (.if_icmp .gt 53) := by decide +kernel
theorem f_Md_feastDay_89 : fch r_Md_feastDay.2.1 89 = some (.iload_n 0) := by decide +kernel
theorem f_Md_feastDay_90 : fch r_Md_feastDay.2.1 90 = some (.iload_n 0) := by decide +kernel
theorem f_Md_feastDay_91 : fch r_Md_feastDay.2.1 91 = some (.iload_n 3) := by decide +kernel
theorem f_Md_feastDay_92 : fch r_Md_feastDay.2.1 92 = some (.iload 5) := by decide +kernel
theorem f_Md_feastDay_94 : fch r_Md_feastDay.2.1 94 = some (.invokestatic 19) := by decide +kernel
theorem f_Md_feastDay_97 : fch r_Md_feastDay.2.1 97 = some (.invokestatic 94) := by decide +kernel
theorem f_Md_feastDay_100 : fch r_Md_feastDay.2.1 100 = some (.iload_n 2) := by decide +kernel
theorem f_Md_feastDay_101 : fch r_Md_feastDay.2.1 101 = some (.bipush 10) := by decide +kernel
theorem f_Md_feastDay_103 : fch r_Md_feastDay.2.1 103 = some (.idiv) := by decide +kernel
theorem f_Md_feastDay_104 : fch r_Md_feastDay.2.1 104 = some (.bipush 10) := by decide +kernel
theorem f_Md_feastDay_106 : fch r_Md_feastDay.2.1 106 = some (.irem) := by decide +kernel
theorem f_Md_feastDay_107 : fch r_Md_feastDay.2.1 107 = some (.if_icmp .eq 6) := by decide +kernel
theorem f_Md_feastDay_110 : fch r_Md_feastDay.2.1 110 = some (.goto 23) := by decide +kernel
theorem f_Md_feastDay_113 : fch r_Md_feastDay.2.1 113 = some (.iinc 4 1) := by decide +kernel
theorem f_Md_feastDay_116 : fch r_Md_feastDay.2.1 116 = some (.iload 4) := by decide +kernel
theorem f_Md_feastDay_118 : fch r_Md_feastDay.2.1 118 = some (.iload_n 2) := by decide +kernel
theorem f_Md_feastDay_119 : fch r_Md_feastDay.2.1 119 = some (.bipush 10) := by decide +kernel
theorem f_Md_feastDay_121 : fch r_Md_feastDay.2.1 121 = some (.irem) := by decide +kernel
theorem f_Md_feastDay_122 : fch r_Md_feastDay.2.1 122 = some (.if_icmp .ne 11) := by decide +kernel
theorem f_Md_feastDay_125 : fch r_Md_feastDay.2.1 125 = some (.iload_n 0) := by decide +kernel
theorem f_Md_feastDay_126 : fch r_Md_feastDay.2.1 126 = some (.iload_n 3) := by decide +kernel
theorem f_Md_feastDay_127 : fch r_Md_feastDay.2.1 127 = some (.iload 5) := by decide +kernel
theorem f_Md_feastDay_129 : fch r_Md_feastDay.2.1 129 = some (.invokestatic 19) := by decide +kernel
theorem f_Md_feastDay_132 : fch r_Md_feastDay.2.1 132 = some (.ireturn) := by decide +kernel
theorem f_Md_feastDay_133 : fch r_Md_feastDay.2.1 133 = some (.iinc 5 1) := by decide +kernel
theorem f_Md_feastDay_136 : fch r_Md_feastDay.2.1 136 = some (.goto (-57)) := by decide +kernel
theorem f_Md_feastDay_139 : fch r_Md_feastDay.2.1 139 = some (.iconst (-1)) := by decide +kernel
theorem f_Md_feastDay_140 : fch r_Md_feastDay.2.1 140 = some (.ireturn) := by decide +kernel
theorem f_Md_weekday_0 : fch r_Md_weekday.2.1 0 = some (.iload_n 0) := by decide +kernel
theorem f_Md_weekday_1 : fch r_Md_weekday.2.1 1 = some (.invokestatic 26) := by decide +kernel
theorem f_Md_weekday_4 : fch r_Md_weekday.2.1 4 = some (.iload_n 1) := by decide +kernel
theorem f_Md_weekday_5 : fch r_Md_weekday.2.1 5 = some (.iadd) := by decide +kernel
theorem f_Md_weekday_6 : fch r_Md_weekday.2.1 6 = some (.bipush 7) := by decide +kernel
theorem f_Md_weekday_8 : fch r_Md_weekday.2.1 8 = some (.irem) := by decide +kernel
theorem f_Md_weekday_9 : fch r_Md_weekday.2.1 9 = some (.ireturn) := by decide +kernel
theorem f_Md_gather_0 : fch r_Md_gather.2.1 0 = some (.aload_n 0) := by decide +kernel
theorem f_Md_gather_1 : fch r_Md_gather.2.1 1 = some (.iconst 0) := by decide +kernel
theorem f_Md_gather_2 : fch r_Md_gather.2.1 2 = some (.putfield 100) := by decide +kernel
theorem f_Md_gather_5 : fch r_Md_gather.2.1 5 = some (.iconst (-1)) := by decide +kernel
theorem f_Md_gather_6 : fch r_Md_gather.2.1 6 = some (.istore_n 3) := by decide +kernel
theorem f_Md_gather_7 : fch r_Md_gather.2.1 7 = some (.iconst 0) := by decide +kernel
theorem f_Md_gather_8 : fch r_Md_gather.2.1 8 = some (.istore 4) := by decide +kernel
theorem f_Md_gather_10 : fch r_Md_gather.2.1 10 = some (.iload 4) := by decide +kernel
theorem f_Md_gather_12 : fch r_Md_gather.2.1 12 = some (.aload_n 0) := by decide +kernel
theorem f_Md_gather_13 : fch r_Md_gather.2.1 13 = some (.getfield 32) := by decide +kernel
theorem f_Md_gather_16 : fch r_Md_gather.2.1 16 = some (.if_icmp .ge 27) := by decide +kernel
theorem f_Md_gather_19 : fch r_Md_gather.2.1 19 = some (.aload_n 0) := by decide +kernel
theorem f_Md_gather_20 : fch r_Md_gather.2.1 20 = some (.iload 4) := by decide +kernel
theorem f_Md_gather_22 : fch r_Md_gather.2.1 22 = some (.iload_n 1) := by decide +kernel
theorem f_Md_gather_23 : fch r_Md_gather.2.1 23 = some (.iload_n 2) := by decide +kernel
theorem f_Md_gather_24 : fch r_Md_gather.2.1 24 = some (.aload_n 0) := by decide +kernel
theorem f_Md_gather_25 : fch r_Md_gather.2.1 25 = some (.getfield 115) := by decide +kernel
theorem f_Md_gather_28 : fch r_Md_gather.2.1 28 = some (.invokevirtual 118) := by decide +kernel
theorem f_Md_gather_31 : fch r_Md_gather.2.1 31 = some (.ifCond .eq 6) := by decide +kernel
theorem f_Md_gather_34 : fch r_Md_gather.2.1 34 = some (.iload 4) := by decide +kernel
theorem f_Md_gather_36 : fch r_Md_gather.2.1 36 = some (.istore_n 3) := by decide +kernel
theorem f_Md_gather_37 : fch r_Md_gather.2.1 37 = some (.iinc 4 1) := by decide +kernel
theorem f_Md_gather_40 : fch r_Md_gather.2.1 40 = some (.goto (-30)) := by decide +kernel
theorem f_Md_gather_43 : fch r_Md_gather.2.1 43 = some (.aload_n 0) := by decide +kernel
theorem f_Md_gather_44 : fch r_Md_gather.2.1 44 = some (.getfield 122) := by decide +kernel
theorem f_Md_gather_47 : fch r_Md_gather.2.1 47 = some (.iload_n 2) := by decide +kernel
theorem f_Md_gather_48 : fch r_Md_gather.2.1 48 = some (.iadd) := by decide +kernel
theorem f_Md_gather_49 : fch r_Md_gather.2.1 49 = some (.bipush 7) := by decide +kernel
theorem f_Md_gather_51 : fch r_Md_gather.2.1 51 = some (.irem) := by decide +kernel
theorem f_Md_gather_52 : fch r_Md_gather.2.1 52 = some (.ifCond .ne 7) := by decide +kernel
theorem f_Md_gather_55 : fch r_Md_gather.2.1 55 = some (.iconst 1) := by decide +kernel
theorem f_Md_gather_56 : fch r_Md_gather.2.1 56 = some (.goto 4) := by decide +kernel
theorem f_Md_gather_59 : fch r_Md_gather.2.1 59 = some (.iconst 0) := by decide +kernel
theorem f_Md_gather_60 : fch r_Md_gather.2.1 60 = some (.istore 4) := by decide +kernel
theorem f_Md_gather_62 : fch r_Md_gather.2.1 62 = some (.iload_n 3) := by decide +kernel
theorem f_Md_gather_63 : fch r_Md_gather.2.1 63 = some (.iconst (-1)) := by decide +kernel
theorem f_Md_gather_64 : fch r_Md_gather.2.1 64 = some (.if_icmp .ne 16) := by decide +kernel
theorem f_Md_gather_67 : fch r_Md_gather.2.1 67 = some (.iload 4) := by decide +kernel
theorem f_Md_gather_69 : fch r_Md_gather.2.1 69 = some (.ifCond .eq 7) := by decide +kernel
theorem f_Md_gather_72 : fch r_Md_gather.2.1 72 = some (.iconst 3) := by decide +kernel
theorem f_Md_gather_73 : fch r_Md_gather.2.1 73 = some (.goto 27) := by decide +kernel
theorem f_Md_gather_76 : fch r_Md_gather.2.1 76 = some (.iconst 0) := by decide +kernel
theorem f_Md_gather_77 : fch r_Md_gather.2.1 77 = some (.goto 23) := by decide +kernel
theorem f_Md_gather_80 : fch r_Md_gather.2.1 80 = some (.iload 4) := by decide +kernel
theorem f_Md_gather_82 : fch r_Md_gather.2.1 82 = some (.ifCond .eq 12) := by decide +kernel
theorem f_Md_gather_85 : fch r_Md_gather.2.1 85 = some (.aload_n 0) := by decide +kernel
theorem f_Md_gather_86 : fch r_Md_gather.2.1 86 = some (.getfield 47) := by decide +kernel
theorem f_Md_gather_89 : fch r_Md_gather.2.1 89 = some (.iload_n 3) := by decide +kernel
theorem f_Md_gather_90 : fch r_Md_gather.2.1 90 = some (.iaload) := by decide +kernel
theorem f_Md_gather_91 : fch r_Md_gather.2.1 91 = some (.goto 9) := by decide +kernel
theorem f_Md_gather_94 : fch r_Md_gather.2.1 94 = some (.aload_n 0) := by decide +kernel
theorem f_Md_gather_95 : fch r_Md_gather.2.1 95 = some (.getfield 50) := by decide +kernel
theorem f_Md_gather_98 : fch r_Md_gather.2.1 98 = some (.iload_n 3) := by decide +kernel
theorem f_Md_gather_99 : fch r_Md_gather.2.1 99 = some (.iaload) := by decide +kernel
theorem f_Md_gather_100 : fch r_Md_gather.2.1 100 = some (.istore 5) := by decide +kernel
theorem f_Md_gather_102 : fch r_Md_gather.2.1 102 = some (.aload_n 0) := by decide +kernel
theorem f_Md_gather_103 : fch r_Md_gather.2.1 103 = some (.iload 4) := by decide +kernel
theorem f_Md_gather_105 : fch r_Md_gather.2.1 105 = some (.ifCond .eq 7) := by decide +kernel
theorem f_Md_gather_108 : fch r_Md_gather.2.1 108 = some (.iconst 1) := by decide +kernel
theorem f_Md_gather_109 : fch r_Md_gather.2.1 109 = some (.goto 4) := by decide +kernel
theorem f_Md_gather_112 : fch r_Md_gather.2.1 112 = some (.iconst 0) := by decide +kernel
theorem f_Md_gather_113 : fch r_Md_gather.2.1 113 = some (.iconst (-1)) := by decide +kernel
theorem f_Md_gather_114 : fch r_Md_gather.2.1 114 = some (.iload 5) := by decide +kernel
theorem f_Md_gather_116 : fch r_Md_gather.2.1 116 = some (.iload_n 3) := by decide +kernel
theorem f_Md_gather_117 : fch r_Md_gather.2.1 117 = some (.iconst (-1)) := by decide +kernel
theorem f_Md_gather_118 : fch r_Md_gather.2.1 118 = some (.if_icmp .ne 7) := by decide +kernel
theorem f_Md_gather_121 : fch r_Md_gather.2.1 121 = some (.iconst 0) := by decide +kernel
theorem f_Md_gather_122 : fch r_Md_gather.2.1 122 = some (.goto 9) := by decide +kernel
theorem f_Md_gather_125 : fch r_Md_gather.2.1 125 = some (.aload_n 0) := by decide +kernel
theorem f_Md_gather_126 : fch r_Md_gather.2.1 126 = some (.getfield 53) := by decide +kernel
theorem f_Md_gather_129 : fch r_Md_gather.2.1 129 = some (.iload_n 3) := by decide +kernel
theorem f_Md_gather_130 : fch r_Md_gather.2.1 130 = some (.iaload) := by decide +kernel
theorem f_Md_gather_131 : fch r_Md_gather.2.1 131 = some (.iload 4) := by decide +kernel
theorem f_Md_gather_133 : fch r_Md_gather.2.1 133 = some (.ifCond .ne 12) := by decide +kernel
theorem f_Md_gather_136 : fch r_Md_gather.2.1 136 = some (.iload 5) := by decide +kernel
theorem f_Md_gather_138 : fch r_Md_gather.2.1 138 = some (.ifCond .ne 7) := by decide +kernel
theorem f_Md_gather_141 : fch r_Md_gather.2.1 141 = some (.iconst 0) := by decide +kernel
theorem f_Md_gather_142 : fch r_Md_gather.2.1 142 = some (.goto 4) := by decide +kernel
theorem f_Md_gather_145 : fch r_Md_gather.2.1 145 = some (.iconst 1) := by decide +kernel
theorem f_Md_gather_146 : fch r_Md_gather.2.1 146 = some (.invokevirtual 125) := by decide +kernel
theorem f_Md_gather_149 : fch r_Md_gather.2.1 149 = some (.iconst 0) := by decide +kernel
theorem f_Md_gather_150 : fch r_Md_gather.2.1 150 = some (.istore 6) := by decide +kernel
theorem f_Md_gather_152 : fch r_Md_gather.2.1 152 = some (.iload 6) := by decide +kernel
theorem f_Md_gather_154 : fch r_Md_gather.2.1 154 = some (.aload_n 0) := by decide +kernel
theorem f_Md_gather_155 : fch r_Md_gather.2.1 155 = some (.getfield 66) := by decide +kernel
theorem f_Md_gather_158 : fch r_Md_gather.2.1 158 = some (.if_icmp .ge 193) := by decide +kernel
theorem f_Md_gather_161 : fch r_Md_gather.2.1 161 = some (.aload_n 0) := by decide +kernel
theorem f_Md_gather_162 : fch r_Md_gather.2.1 162 = some (.getfield 129) := by decide +kernel
theorem f_Md_gather_165 : fch r_Md_gather.2.1 165 = some (.iload 6) := by decide +kernel
theorem f_Md_gather_167 : fch r_Md_gather.2.1 167 = some (.iaload) := by decide +kernel
theorem f_Md_gather_168 : fch r_Md_gather.2.1 168 = some (.iconst (-1)) := by decide +kernel
theorem f_Md_gather_169 : fch r_Md_gather.2.1 169 = some (.if_icmp .ne 6) := by decide +kernel
theorem f_Md_gather_172 : fch r_Md_gather.2.1 172 = some (.goto 173) := by decide +kernel
theorem f_Md_gather_175 : fch r_Md_gather.2.1 175 = some (.aload_n 0) := by decide +kernel
theorem f_Md_gather_176 : fch r_Md_gather.2.1 176 = some (.getfield 129) := by decide +kernel
theorem f_Md_gather_179 : fch r_Md_gather.2.1 179 = some (.iload 6) := by decide +kernel
theorem f_Md_gather_181 : fch r_Md_gather.2.1 181 = some (.iaload) := by decide +kernel
theorem f_Md_gather_182 : fch r_Md_gather.2.1 182 = some (.iload_n 2) := by decide +kernel
theorem f_Md_gather_183 : fch r_Md_gather.2.1 183 = some (.if_icmp .ne 31) := by decide +kernel
theorem f_Md_gather_186 : fch r_Md_gather.2.1 186 = some (.aload_n 0) := by decide +kernel
theorem f_Md_gather_187 : fch r_Md_gather.2.1 187 = some (.iconst 2) := by decide +kernel
theorem f_Md_gather_188 : fch r_Md_gather.2.1 188 = some (.iload 6) := by decide +kernel
theorem f_Md_gather_190 : fch r_Md_gather.2.1 190 = some (.aload_n 0) := by decide +kernel
theorem f_Md_gather_191 : fch r_Md_gather.2.1 191 = some (.getfield 79) := by decide +kernel
theorem f_Md_gather_194 : fch r_Md_gather.2.1 194 = some (.iload 6) := by decide +kernel
theorem f_Md_gather_196 : fch r_Md_gather.2.1 196 = some (.iaload) := by decide +kernel
theorem f_Md_gather_197 : fch r_Md_gather.2.1 197 = some (.aload_n 0) := by decide +kernel
theorem f_Md_gather_198 : fch r_Md_gather.2.1 198 = some (.getfield 82) := by decide +kernel
theorem f_Md_gather_201 : fch r_Md_gather.2.1 201 = some (.iload 6) := by decide +kernel
theorem f_Md_gather_203 : fch r_Md_gather.2.1 203 = some (.iaload) := by decide +kernel
theorem f_Md_gather_204 : fch r_Md_gather.2.1 204 = some (.aload_n 0) := by decide +kernel
theorem f_Md_gather_205 : fch r_Md_gather.2.1 205 = some (.getfield 85) := by decide +kernel
theorem f_Md_gather_208 : fch r_Md_gather.2.1 208 = some (.iload 6) := by decide +kernel
theorem f_Md_gather_210 : fch r_Md_gather.2.1 210 = some (.iaload) := by decide +kernel
theorem f_Md_gather_211 : fch r_Md_gather.2.1 211 = some (.invokevirtual 125) := by decide +kernel
theorem f_Md_gather_214 : fch r_Md_gather.2.1 214 = some (.iload_n 2) := by decide +kernel
theorem f_Md_gather_215 : fch r_Md_gather.2.1 215 = some (.aload_n 0) := by decide +kernel
theorem f_Md_gather_216 : fch r_Md_gather.2.1 216 = some (.getfield 129) := by decide +kernel
theorem f_Md_gather_219 : fch r_Md_gather.2.1 219 = some (.iload 6) := by decide +kernel
theorem f_Md_gather_221 : fch r_Md_gather.2.1 221 = some (.iaload) := by decide +kernel
theorem f_Md_gather_222 : fch r_Md_gather.2.1 222 = some (.isub) := by decide +kernel
theorem f_Md_gather_223 : fch r_Md_gather.2.1 223 = some (.istore 7) := by decide +kernel
theorem f_Md_gather_225 : fch r_Md_gather.2.1 225 = some (.aload_n 0) := by decide +kernel
theorem f_Md_gather_226 : fch r_Md_gather.2.1 226 = some (.getfield 88) := by decide +kernel
theorem f_Md_gather_229 : fch r_Md_gather.2.1 229 = some (.iload 6) := by decide +kernel
theorem f_Md_gather_231 : fch r_Md_gather.2.1 231 = some (.iaload) := by decide +kernel
theorem f_Md_gather_232 : fch r_Md_gather.2.1 232 = some (.ifCond .le 49) := by decide +kernel
theorem f_Md_gather_235 : fch r_Md_gather.2.1 235 = some (.iload 7) := by decide +kernel
theorem f_Md_gather_237 : fch r_Md_gather.2.1 237 = some (.iconst 1) := by decide +kernel
theorem f_Md_gather_238 : fch r_Md_gather.2.1 238 = some (.bipush 7) := by decide +kernel
theorem f_Md_gather_240 : fch r_Md_gather.2.1 240 = some (.invokestatic 1) := by decide +kernel
theorem f_Md_gather_243 : fch r_Md_gather.2.1 243 = some (.ifCond .eq 38) := by decide +kernel
theorem f_Md_gather_246 : fch r_Md_gather.2.1 246 = some (.aload_n 0) := by decide +kernel
theorem f_Md_gather_247 : fch r_Md_gather.2.1 247 = some (.iconst 3) := by decide +kernel
theorem f_Md_gather_248 : fch r_Md_gather.2.1 248 = some (.iload 6) := by decide +kernel
theorem f_Md_gather_250 : fch r_Md_gather.2.1 250 = some (.aload_n 0) := by decide +kernel
theorem f_Md_gather_251 : fch r_Md_gather.2.1 251 = some (.getfield 88) := by decide +kernel
theorem f_Md_gather_254 : fch r_Md_gather.2.1 254 = some (.iload 6) := by decide +kernel
theorem f_Md_gather_256 : fch r_Md_gather.2.1 256 = some (.iaload) := by decide +kernel
theorem f_Md_gather_257 : fch r_Md_gather.2.1 257 = some (.iload 7) := by decide +kernel
theorem f_Md_gather_259 : fch r_Md_gather.2.1 259 = some (.bipush 7) := by decide +kernel
theorem f_Md_gather_261 : fch r_Md_gather.2.1 261 = some (.if_icmp .ne 7) := by decide +kernel
theorem f_Md_gather_264 : fch r_Md_gather.2.1 264 = some (.iconst 1) := by decide +kernel
theorem f_Md_gather_265 : fch r_Md_gather.2.1 265 = some (.goto 4) := by decide +kernel
theorem f_Md_gather_268 : fch r_Md_gather.2.1 268 = some (.iconst 0) := by decide +kernel
theorem f_Md_gather_269 : fch r_Md_gather.2.1 269 = some (.iadd) := by decide +kernel
theorem f_Md_gather_270 : fch r_Md_gather.2.1 270 = some (.aload_n 0) := by decide +kernel
theorem f_Md_gather_271 : fch r_Md_gather.2.1 271 = some (.getfield 82) := by decide +kernel
theorem f_Md_gather_274 : fch r_Md_gather.2.1 274 = some (.iload 6) := by decide +kernel
theorem f_Md_gather_276 : fch r_Md_gather.2.1 276 = some (.iaload) := by decide +kernel
theorem f_Md_gather_277 : fch r_Md_gather.2.1 277 = some (.iconst 1) := by decide +kernel
theorem f_Md_gather_278 : fch r_Md_gather.2.1 278 = some (.invokevirtual 125) := by decide +kernel
theorem f_Md_gather_281 : fch r_Md_gather.2.1 281 = some (.aload_n 0) := by decide +kernel
theorem f_Md_gather_282 : fch r_Md_gather.2.1 282 = some (.getfield 129) := by decide +kernel
theorem f_Md_gather_285 : fch r_Md_gather.2.1 285 = some (.iload 6) := by decide +kernel
theorem f_Md_gather_287 : fch r_Md_gather.2.1 287 = some (.iaload) := by decide +kernel
theorem f_Md_gather_288 : fch r_Md_gather.2.1 288 = some (.iconst 1) := by decide +kernel
theorem f_Md_gather_289 : fch r_Md_gather.2.1 289 = some (.isub) := by decide +kernel
theorem f_Md_gather_290 : fch r_Md_gather.2.1 290 = some (.istore 8) := by decide +kernel
theorem f_Md_gather_292 : fch r_Md_gather.2.1 292 = some (.iload 8) := by decide +kernel
theorem f_Md_gather_294 : fch r_Md_gather.2.1 294 = some (.ifCond .lt 19) := by decide +kernel
theorem f_Md_gather_297 : fch r_Md_gather.2.1 297 = some (.aload_n 0) := by decide +kernel
theorem f_Md_gather_298 : fch r_Md_gather.2.1 298 = some (.getfield 122) := by decide +kernel
theorem f_Md_gather_301 : fch r_Md_gather.2.1 301 = some (.iload 8) := by decide +kernel
theorem f_Md_gather_303 : fch r_Md_gather.2.1 303 = some (.iadd) := by decide +kernel
theorem f_Md_gather_304 : fch r_Md_gather.2.1 304 = some (.bipush 7) := by decide +kernel
theorem f_Md_gather_306 : fch r_Md_gather.2.1 306 = some (.irem) := by decide +kernel
theorem f_Md_gather_307 : fch r_Md_gather.2.1 307 = some (.ifCond .ne 6) := by decide +kernel
theorem f_Md_gather_310 : fch r_Md_gather.2.1 310 = some (.iinc 8 (-1)) := by decide +kernel
theorem f_Md_gather_313 : fch r_Md_gather.2.1 313 = some (.aload_n 0) := by decide +kernel
theorem f_Md_gather_314 : fch r_Md_gather.2.1 314 = some (.getfield 91) := by decide +kernel
theorem f_Md_gather_317 : fch r_Md_gather.2.1 317 = some (.iload 6) := by decide +kernel
theorem f_Md_gather_319 : fch r_Md_gather.2.1 319 = some (.baload) := by decide +kernel
theorem f_Md_gather_320 : fch r_Md_gather.2.1 320 = some (.ifCond .eq 25) := by decide +kernel
theorem f_Md_gather_323 : fch r_Md_gather.2.1 323 = some (.iload 8) := by decide +kernel
theorem f_Md_gather_325 : fch r_Md_gather.2.1 325 = some (.iload_n 2) := by decide +kernel
theorem f_Md_gather_326 : fch r_Md_gather.2.1 326 = some (.if_icmp .ne 19) := by decide +kernel
theorem f_Md_gather_329 : fch r_Md_gather.2.1 329 = some (.aload_n 0) := by decide +kernel
theorem f_Md_gather_330 : fch r_Md_gather.2.1 330 = some (.iconst 4) := by decide +kernel
theorem f_Md_gather_331 : fch r_Md_gather.2.1 331 = some (.iload 6) := by decide +kernel
theorem f_Md_gather_333 : fch r_Md_gather.2.1 333 = some (.iconst 2) := by decide +kernel
theorem f_Md_gather_334 : fch r_Md_gather.2.1 334 = some (.aload_n 0) := by decide +kernel
theorem f_Md_gather_335 : fch r_Md_gather.2.1 335 = some (.getfield 82) := by decide +kernel
theorem f_Md_gather_338 : fch r_Md_gather.2.1 338 = some (.iload 6) := by decide +kernel
theorem f_Md_gather_340 : fch r_Md_gather.2.1 340 = some (.iaload) := by decide +kernel
theorem f_Md_gather_341 : fch r_Md_gather.2.1 341 = some (.iconst 0) := by decide +kernel
theorem f_Md_gather_342 : fch r_Md_gather.2.1 342 = some (.invokevirtual 125) := by decide +kernel
theorem f_Md_gather_345 : fch r_Md_gather.2.1 345 = some (.iinc 6 1) := by decide +kernel
theorem f_Md_gather_348 : fch r_Md_gather.2.1 348 = some (.goto (-196)) := by decide +kernel
theorem f_Md_gather_351 : fch r_Md_gather.2.1 351 = some (.return_) := by decide +kernel
theorem f_Md_isIn_0 : fch r_Md_isIn.2.1 0 = some (.aload_n 0) := by decide +kernel
theorem f_Md_isIn_1 : fch r_Md_isIn.2.1 1 = some (.getfield 36) := by decide +kernel
theorem f_Md_isIn_4 : fch r_Md_isIn.2.1 4 = some (.iload_n 1) := by decide +kernel
theorem f_Md_isIn_5 : fch r_Md_isIn.2.1 5 = some (.baload) := by decide +kernel
theorem f_Md_isIn_6 : fch r_Md_isIn.2.1 6 = some (.ifCond .ne 23) := by decide +kernel
theorem f_Md_isIn_9 : fch r_Md_isIn.2.1 9 = some (.iload_n 3) := by decide +kernel
theorem f_Md_isIn_10 : fch r_Md_isIn.2.1 10 = some (.iload 4) := by decide +kernel
theorem f_Md_isIn_12 : fch r_Md_isIn.2.1 12 = some (.isub) := by decide +kernel
theorem f_Md_isIn_13 : fch r_Md_isIn.2.1 13 = some (.aload_n 0) := by decide +kernel
theorem f_Md_isIn_14 : fch r_Md_isIn.2.1 14 = some (.getfield 40) := by decide +kernel
theorem f_Md_isIn_17 : fch r_Md_isIn.2.1 17 = some (.iload_n 1) := by decide +kernel
theorem f_Md_isIn_18 : fch r_Md_isIn.2.1 18 = some (.iaload) := by decide +kernel
theorem f_Md_isIn_19 : fch r_Md_isIn.2.1 19 = some (.aload_n 0) := by decide +kernel
theorem f_Md_isIn_20 : fch r_Md_isIn.2.1 20 = some (.getfield 44) := by decide +kernel
theorem f_Md_isIn_23 : fch r_Md_isIn.2.1 23 = some (.iload_n 1) := by decide +kernel
theorem f_Md_isIn_24 : fch r_Md_isIn.2.1 24 = some (.iaload) := by decide +kernel
theorem f_Md_isIn_25 : fch r_Md_isIn.2.1 25 = some (.invokestatic 1) := by decide +kernel
theorem f_Md_isIn_28 : fch r_Md_isIn.2.1 28 = some (.ireturn) := by decide +kernel
theorem f_Md_isIn_29 : fch r_Md_isIn.2.1 29 = some (.aload_n 0) := by decide +kernel
theorem f_Md_isIn_30 : fch r_Md_isIn.2.1 30 = some (.getfield 40) := by decide +kernel
theorem f_Md_isIn_33 : fch r_Md_isIn.2.1 33 = some (.iload_n 1) := by decide +kernel
theorem f_Md_isIn_34 : fch r_Md_isIn.2.1 34 = some (.iaload) := by decide +kernel
theorem f_Md_isIn_35 : fch r_Md_isIn.2.1 35 = some (.istore 5) := by decide +kernel
theorem f_Md_isIn_37 : fch r_Md_isIn.2.1 37 = some (.aload_n 0) := by decide +kernel
theorem f_Md_isIn_38 : fch r_Md_isIn.2.1 38 = some (.getfield 44) := by decide +kernel
theorem f_Md_isIn_41 : fch r_Md_isIn.2.1 41 = some (.iload_n 1) := by decide +kernel
theorem f_Md_isIn_42 : fch r_Md_isIn.2.1 42 = some (.iaload) := by decide +kernel
theorem f_Md_isIn_43 : fch r_Md_isIn.2.1 43 = some (.istore 6) := by decide +kernel
theorem f_Md_isIn_45 : fch r_Md_isIn.2.1 45 = some (.iload_n 2) := by decide +kernel
theorem f_Md_isIn_46 : fch r_Md_isIn.2.1 46 = some (.iload 5) := by decide +kernel
theorem f_Md_isIn_48 : fch r_Md_isIn.2.1 48 = some (.bipush 100) := by decide +kernel
theorem f_Md_isIn_50 : fch r_Md_isIn.2.1 50 = some (.idiv) := by decide +kernel
theorem f_Md_isIn_51 : fch r_Md_isIn.2.1 51 = some (.iload 5) := by decide +kernel
theorem f_Md_isIn_53 : fch r_Md_isIn.2.1 53 = some (.bipush 100) := by decide +kernel
theorem f_Md_isIn_55 : fch r_Md_isIn.2.1 55 = some (.irem) := by decide +kernel
theorem f_Md_isIn_56 : fch r_Md_isIn.2.1 56 = some (.iload_n 2) := by decide +kernel
theorem f_Md_isIn_57 : fch r_Md_isIn.2.1 57 = some (.iload 5) := by decide +kernel
theorem f_Md_isIn_59 : fch r_Md_isIn.2.1 59 = some (.bipush 100) := by decide +kernel
theorem f_Md_isIn_61 : fch r_Md_isIn.2.1 61 = some (.idiv) := by decide +kernel
theorem f_Md_isIn_62 : fch r_Md_isIn.2.1 62 = some (.invokestatic 11) := by decide +kernel
theorem f_Md_isIn_65 : fch r_Md_isIn.2.1 65 = some (.if_icmp .ge 11) := by decide +kernel
theorem f_Md_isIn_68 : fch r_Md_isIn.2.1 68 = some (.iload 5) := by decide +kernel
theorem f_Md_isIn_70 : fch r_Md_isIn.2.1 70 = some (.bipush 100) := by decide +kernel
theorem f_Md_isIn_72 : fch r_Md_isIn.2.1 72 = some (.irem) := by decide +kernel
theorem f_Md_isIn_73 : fch r_Md_isIn.2.1 73 = some (.goto 12) := by decide +kernel
theorem f_Md_isIn_76 : fch r_Md_isIn.2.1 76 = some (.iload_n 2) := by decide +kernel
theorem f_Md_isIn_77 : fch r_Md_isIn.2.1 77 = some (.iload 5) := by decide +kernel
theorem f_Md_isIn_79 : fch r_Md_isIn.2.1 79 = some (.bipush 100) := by decide +kernel
theorem f_Md_isIn_81 : fch r_Md_isIn.2.1 81 = some (.idiv) := by decide +kernel
theorem f_Md_isIn_82 : fch r_Md_isIn.2.1 82 = some (.invokestatic 11) := by decide +kernel
theorem f_Md_isIn_85 : fch r_Md_isIn.2.1 85 = some (.invokestatic 19) := by decide +kernel
theorem f_Md_isIn_88 : fch r_Md_isIn.2.1 88 = some (.istore 7) := by decide +kernel
theorem f_Md_isIn_90 : fch r_Md_isIn.2.1 90 = some (.iload_n 2) := by decide +kernel
theorem f_Md_isIn_91 : fch r_Md_isIn.2.1 91 = some (.iload 6) := by decide +kernel
theorem f_Md_isIn_93 : fch r_Md_isIn.2.1 93 = some (.bipush 100) := by decide +kernel
theorem f_Md_isIn_95 : fch r_Md_isIn.2.1 95 = some (.idiv) := by decide +kernel
theorem f_Md_isIn_96 : fch r_Md_isIn.2.1 96 = some (.iload 6) := by decide +kernel
theorem f_Md_isIn_98 : fch r_Md_isIn.2.1 98 = some (.bipush 100) := by decide +kernel
theorem f_Md_isIn_100 : fch r_Md_isIn.2.1 100 = some (.irem) := by decide +kernel
theorem f_Md_isIn_101 : fch r_Md_isIn.2.1 101 = some (.iload_n 2) := by decide +kernel
theorem f_Md_isIn_102 : fch r_Md_isIn.2.1 102 = some (.iload 6) := by decide +kernel
theorem f_Md_isIn_104 : fch r_Md_isIn.2.1 104 = some (.bipush 100) := by decide +kernel
theorem f_Md_isIn_106 : fch r_Md_isIn.2.1 106 = some (.idiv) := by decide +kernel
theorem f_Md_isIn_107 : fch r_Md_isIn.2.1 107 = some (.invokestatic 11) := by decide +kernel
theorem f_Md_isIn_110 : fch r_Md_isIn.2.1 110 = some (.if_icmp .ge 11) := by decide +kernel
theorem f_Md_isIn_113 : fch r_Md_isIn.2.1 113 = some (.iload 6) := by decide +kernel
theorem f_Md_isIn_115 : fch r_Md_isIn.2.1 115 = some (.bipush 100) := by decide +kernel
theorem f_Md_isIn_117 : fch r_Md_isIn.2.1 117 = some (.irem) := by decide +kernel
theorem f_Md_isIn_118 : fch r_Md_isIn.2.1 118 = some (.goto 12) := by decide +kernel
theorem f_Md_isIn_121 : fch r_Md_isIn.2.1 121 = some (.iload_n 2) := by decide +kernel
theorem f_Md_isIn_122 : fch r_Md_isIn.2.1 122 = some (.iload 6) := by decide +kernel
theorem f_Md_isIn_124 : fch r_Md_isIn.2.1 124 = some (.bipush 100) := by decide +kernel
theorem f_Md_isIn_126 : fch r_Md_isIn.2.1 126 = some (.idiv) := by decide +kernel
theorem f_Md_isIn_127 : fch r_Md_isIn.2.1 127 = some (.invokestatic 11) := by decide +kernel
theorem f_Md_isIn_130 : fch r_Md_isIn.2.1 130 = some (.invokestatic 19) := by decide +kernel
theorem f_Md_isIn_133 : fch r_Md_isIn.2.1 133 = some (.istore 8) := by decide +kernel
theorem f_Md_isIn_135 : fch r_Md_isIn.2.1 135 = some (.iload_n 3) := by decide +kernel
theorem f_Md_isIn_136 : fch r_Md_isIn.2.1 136 = some (.iload 7) := by decide +kernel
theorem f_Md_isIn_138 : fch r_Md_isIn.2.1 138 = some (.iload 8) := by decide +kernel
theorem f_Md_isIn_140 : fch r_Md_isIn.2.1 140 = some (.invokestatic 1) := by decide +kernel
theorem f_Md_isIn_143 : fch r_Md_isIn.2.1 143 = some (.ireturn) := by decide +kernel
theorem f_Md_meets_0 : fch r_Md_meets.2.1 0 = some (.aload_n 0) := by decide +kernel
theorem f_Md_meets_1 : fch r_Md_meets.2.1 1 = some (.getfield 97) := by decide +kernel
theorem f_Md_meets_4 : fch r_Md_meets.2.1 4 = some (.aload_n 0) := by decide +kernel
theorem f_Md_meets_5 : fch r_Md_meets.2.1 5 = some (.getfield 100) := by decide +kernel
theorem f_Md_meets_8 : fch r_Md_meets.2.1 8 = some (.iload_n 1) := by decide +kernel
theorem f_Md_meets_9 : fch r_Md_meets.2.1 9 = some (.iastore) := by decide +kernel
theorem f_Md_meets_10 : fch r_Md_meets.2.1 10 = some (.aload_n 0) := by decide +kernel
theorem f_Md_meets_11 : fch r_Md_meets.2.1 11 = some (.getfield 103) := by decide +kernel
theorem f_Md_meets_14 : fch r_Md_meets.2.1 14 = some (.aload_n 0) := by decide +kernel
theorem f_Md_meets_15 : fch r_Md_meets.2.1 15 = some (.getfield 100) := by decide +kernel
theorem f_Md_meets_18 : fch r_Md_meets.2.1 18 = some (.iload_n 2) := by decide +kernel
theorem f_Md_meets_19 : fch r_Md_meets.2.1 19 = some (.iastore) := by decide +kernel
theorem f_Md_meets_20 : fch r_Md_meets.2.1 20 = some (.aload_n 0) := by decide +kernel
theorem f_Md_meets_21 : fch r_Md_meets.2.1 21 = some (.getfield 106) := by decide +kernel
theorem f_Md_meets_24 : fch r_Md_meets.2.1 24 = some (.aload_n 0) := by decide +kernel
theorem f_Md_meets_25 : fch r_Md_meets.2.1 25 = some (.getfield 100) := by decide +kernel
theorem f_Md_meets_28 : fch r_Md_meets.2.1 28 = some (.iload_n 3) := by decide +kernel
theorem f_Md_meets_29 : fch r_Md_meets.2.1 29 = some (.iastore) := by decide +kernel
theorem f_Md_meets_30 : fch r_Md_meets.2.1 30 = some (.aload_n 0) := by decide +kernel
theorem f_Md_meets_31 : fch r_Md_meets.2.1 31 = some (.getfield 109) := by decide +kernel
theorem f_Md_meets_34 : fch r_Md_meets.2.1 34 = some (.aload_n 0) := by decide +kernel
theorem f_Md_meets_35 : fch r_Md_meets.2.1 35 = some (.getfield 100) := by decide +kernel
theorem f_Md_meets_38 : fch r_Md_meets.2.1 38 = some (.iload 4) := by decide +kernel
theorem f_Md_meets_40 : fch r_Md_meets.2.1 40 = some (.iastore) := by decide +kernel
theorem f_Md_meets_41 : fch r_Md_meets.2.1 41 = some (.aload_n 0) := by decide +kernel
theorem f_Md_meets_42 : fch r_Md_meets.2.1 42 = some (.getfield 112) := by decide +kernel
theorem f_Md_meets_45 : fch r_Md_meets.2.1 45 = some (.aload_n 0) := by decide +kernel
theorem f_Md_meets_46 : fch r_Md_meets.2.1 46 = some (.getfield 100) := by decide +kernel
theorem f_Md_meets_49 : fch r_Md_meets.2.1 49 = some (.iload 5) := by decide +kernel
theorem f_Md_meets_51 : fch r_Md_meets.2.1 51 = some (.iastore) := by decide +kernel
theorem f_Md_meets_52 : fch r_Md_meets.2.1 52 = some (.aload_n 0) := by decide +kernel
theorem f_Md_meets_53 : fch r_Md_meets.2.1 53 = some (.dup) := by decide +kernel
theorem f_Md_meets_54 : fch r_Md_meets.2.1 54 = some (.getfield 100) := by decide +kernel
theorem f_Md_meets_57 : fch r_Md_meets.2.1 57 = some (.iconst 1) := by decide +kernel
theorem f_Md_meets_58 : fch r_Md_meets.2.1 58 = some (.iadd) := by decide +kernel
theorem f_Md_meets_59 : fch r_Md_meets.2.1 59 = some (.putfield 100) := by decide +kernel
theorem f_Md_meets_62 : fch r_Md_meets.2.1 62 = some (.return_) := by decide +kernel
theorem f_Md_isAhead_0 : fch r_Md_isAhead.2.1 0 = some (.aload_n 0) := by decide +kernel
theorem f_Md_isAhead_1 : fch r_Md_isAhead.2.1 1 = some (.getfield 106) := by decide +kernel
theorem f_Md_isAhead_4 : fch r_Md_isAhead.2.1 4 = some (.iload_n 1) := by decide +kernel
theorem f_Md_isAhead_5 : fch r_Md_isAhead.2.1 5 = some (.iaload) := by decide +kernel
theorem f_Md_isAhead_6 : fch r_Md_isAhead.2.1 6 = some (.aload_n 0) := by decide +kernel
theorem f_Md_isAhead_7 : fch r_Md_isAhead.2.1 7 = some (.getfield 106) := by decide +kernel
theorem f_Md_isAhead_10 : fch r_Md_isAhead.2.1 10 = some (.iload_n 2) := by decide +kernel
theorem f_Md_isAhead_11 : fch r_Md_isAhead.2.1 11 = some (.iaload) := by decide +kernel
theorem f_Md_isAhead_12 : fch r_Md_isAhead.2.1 12 = some (.if_icmp .eq 24) := by decide +kernel
theorem f_Md_isAhead_15 : fch r_Md_isAhead.2.1 15 = some (.aload_n 0) := by decide +kernel
theorem f_Md_isAhead_16 : fch r_Md_isAhead.2.1 16 = some (.getfield 106) := by decide +kernel
theorem f_Md_isAhead_19 : fch r_Md_isAhead.2.1 19 = some (.iload_n 1) := by decide +kernel
theorem f_Md_isAhead_20 : fch r_Md_isAhead.2.1 20 = some (.iaload) := by decide +kernel
theorem f_Md_isAhead_21 : fch r_Md_isAhead.2.1 21 = some (.aload_n 0) := by decide +kernel
theorem f_Md_isAhead_22 : fch r_Md_isAhead.2.1 22 = some (.getfield 106) := by decide +kernel
theorem f_Md_isAhead_25 : fch r_Md_isAhead.2.1 25 = some (.iload_n 2) := by decide +kernel
theorem f_Md_isAhead_26 : fch r_Md_isAhead.2.1 26 = some (.iaload) := by decide +kernel
theorem f_Md_isAhead_27 : fch r_Md_isAhead.2.1 27 = some (.if_icmp .le 7) := by decide +kernel
theorem f_Md_isAhead_30 : fch r_Md_isAhead.2.1 30 = some (.iconst 1) := by decide +kernel
theorem f_Md_isAhead_31 : fch r_Md_isAhead.2.1 31 = some (.goto 4) := by decide +kernel
theorem f_Md_isAhead_34 : fch r_Md_isAhead.2.1 34 = some (.iconst 0) := by decide +kernel
theorem f_Md_isAhead_35 : fch r_Md_isAhead.2.1 35 = some (.ireturn) := by decide +kernel
theorem f_Md_isAhead_36 : fch r_Md_isAhead.2.1 36 = some (.aload_n 0) := by decide +kernel
theorem f_Md_isAhead_37 : fch r_Md_isAhead.2.1 37 = some (.getfield 97) := by decide +kernel
theorem f_Md_isAhead_40 : fch r_Md_isAhead.2.1 40 = some (.iload_n 1) := by decide +kernel
theorem f_Md_isAhead_41 : fch r_Md_isAhead.2.1 41 = some (.iaload) := by decide +kernel
theorem f_Md_isAhead_42 : fch r_Md_isAhead.2.1 42 = some (.aload_n 0) := by decide +kernel
theorem f_Md_isAhead_43 : fch r_Md_isAhead.2.1 43 = some (.getfield 97) := by decide +kernel
theorem f_Md_isAhead_46 : fch r_Md_isAhead.2.1 46 = some (.iload_n 2) := by decide +kernel
theorem f_Md_isAhead_47 : fch r_Md_isAhead.2.1 47 = some (.iaload) := by decide +kernel
theorem f_Md_isAhead_48 : fch r_Md_isAhead.2.1 48 = some (.if_icmp .eq 30) := by decide +kernel
theorem f_Md_isAhead_51 : fch r_Md_isAhead.2.1 51 = some (.aload_n 0) := by decide +kernel
theorem f_Md_isAhead_52 : fch r_Md_isAhead.2.1 52 = some (.getfield 97) := by decide +kernel
theorem f_Md_isAhead_55 : fch r_Md_isAhead.2.1 55 = some (.iload_n 1) := by decide +kernel
theorem f_Md_isAhead_56 : fch r_Md_isAhead.2.1 56 = some (.iaload) := by decide +kernel
theorem f_Md_isAhead_57 : fch r_Md_isAhead.2.1 57 = some (.invokestatic 132) := by decide +kernel
theorem f_Md_isAhead_60 : fch r_Md_isAhead.2.1 60 = some (.aload_n 0) := by decide +kernel
theorem f_Md_isAhead_61 : fch r_Md_isAhead.2.1 61 = some (.getfield 97) := by decide +kernel
theorem f_Md_isAhead_64 : fch r_Md_isAhead.2.1 64 = some (.iload_n 2) := by decide +kernel
theorem f_Md_isAhead_65 : fch r_Md_isAhead.2.1 65 = some (.iaload) := by decide +kernel
theorem f_Md_isAhead_66 : fch r_Md_isAhead.2.1 66 = some (.invokestatic 132) := by decide +kernel
theorem f_Md_isAhead_69 : fch r_Md_isAhead.2.1 69 = some (.if_icmp .ge 7) := by decide +kernel
theorem f_Md_isAhead_72 : fch r_Md_isAhead.2.1 72 = some (.iconst 1) := by decide +kernel
theorem f_Md_isAhead_73 : fch r_Md_isAhead.2.1 73 = some (.goto 4) := by decide +kernel
theorem f_Md_isAhead_76 : fch r_Md_isAhead.2.1 76 = some (.iconst 0) := by decide +kernel
theorem f_Md_isAhead_77 : fch r_Md_isAhead.2.1 77 = some (.ireturn) := by decide +kernel
theorem f_Md_isAhead_78 : fch r_Md_isAhead.2.1 78 = some (.aload_n 0) := by decide +kernel
theorem f_Md_isAhead_79 : fch r_Md_isAhead.2.1 79 = some (.getfield 103) := by decide +kernel
theorem f_Md_isAhead_82 : fch r_Md_isAhead.2.1 82 = some (.iload_n 1) := by decide +kernel
theorem f_Md_isAhead_83 : fch r_Md_isAhead.2.1 83 = some (.iaload) := by decide +kernel
theorem f_Md_isAhead_84 : fch r_Md_isAhead.2.1 84 = some (.aload_n 0) := by decide +kernel
theorem f_Md_isAhead_85 : fch r_Md_isAhead.2.1 85 = some (.getfield 103) := by decide +kernel
theorem f_Md_isAhead_88 : fch r_Md_isAhead.2.1 88 = some (.iload_n 2) := by decide +kernel
theorem f_Md_isAhead_89 : fch r_Md_isAhead.2.1 89 = some (.iaload) := by decide +kernel
theorem f_Md_isAhead_90 : fch r_Md_isAhead.2.1 90 = some (.if_icmp .ge 7) := by decide +kernel
theorem f_Md_isAhead_93 : fch r_Md_isAhead.2.1 93 = some (.iconst 1) := by decide +kernel
theorem f_Md_isAhead_94 : fch r_Md_isAhead.2.1 94 = some (.goto 4) := by decide +kernel
theorem f_Md_isAhead_97 : fch r_Md_isAhead.2.1 97 = some (.iconst 0) := by decide +kernel
theorem f_Md_isAhead_98 : fch r_Md_isAhead.2.1 98 = some (.ireturn) := by decide +kernel
theorem f_Md_place_0 : fch r_Md_place.2.1 0 = some (.iload_n 0) := by decide +kernel
theorem f_Md_place_1 : fch r_Md_place.2.1 1 = some (.iconst 2) := by decide +kernel
theorem f_Md_place_2 : fch r_Md_place.2.1 2 = some (.if_icmp .ne 7) := by decide +kernel
theorem f_Md_place_5 : fch r_Md_place.2.1 5 = some (.iconst 0) := by decide +kernel
theorem f_Md_place_6 : fch r_Md_place.2.1 6 = some (.goto 31) := by decide +kernel
theorem f_Md_place_9 : fch r_Md_place.2.1 9 = some (.iload_n 0) := by decide +kernel
theorem f_Md_place_10 : fch r_Md_place.2.1 10 = some (.iconst 3) := by decide +kernel
theorem f_Md_place_11 : fch r_Md_place.2.1 11 = some (.if_icmp .ne 7) := by decide +kernel
theorem f_Md_place_14 : fch r_Md_place.2.1 14 = some (.iconst 1) := by decide +kernel
theorem f_Md_place_15 : fch r_Md_place.2.1 15 = some (.goto 22) := by decide +kernel
theorem f_Md_place_18 : fch r_Md_place.2.1 18 = some (.iload_n 0) := by decide +kernel
theorem f_Md_place_19 : fch r_Md_place.2.1 19 = some (.iconst 1) := by decide +kernel
theorem f_Md_place_20 : fch r_Md_place.2.1 20 = some (.if_icmp .ne 7) := by decide +kernel
theorem f_Md_place_23 : fch r_Md_place.2.1 23 = some (.iconst 2) := by decide +kernel
theorem f_Md_place_24 : fch r_Md_place.2.1 24 = some (.goto 13) := by decide +kernel
theorem f_Md_place_27 : fch r_Md_place.2.1 27 = some (.iload_n 0) := by decide +kernel
theorem f_Md_place_28 : fch r_Md_place.2.1 28 = some (.iconst 4) := by decide +kernel
theorem f_Md_place_29 : fch r_Md_place.2.1 29 = some (.if_icmp .ne 7) := by decide +kernel
theorem f_Md_place_32 : fch r_Md_place.2.1 32 = some (.iconst 3) := by decide +kernel
theorem f_Md_place_33 : fch r_Md_place.2.1 33 = some (.goto 4) := by decide +kernel
theorem f_Md_place_36 : fch r_Md_place.2.1 36 = some (.iconst 4) := by decide +kernel
theorem f_Md_place_37 : fch r_Md_place.2.1 37 = some (.ireturn) := by decide +kernel
theorem f_Md_sets_0 : fch r_Md_sets.2.1 0 = some (.aload_n 0) := by decide +kernel
theorem f_Md_sets_1 : fch r_Md_sets.2.1 1 = some (.getfield 158) := by decide +kernel
theorem f_Md_sets_4 : fch r_Md_sets.2.1 4 = some (.iload_n 1) := by decide +kernel
theorem f_Md_sets_5 : fch r_Md_sets.2.1 5 = some (.iload_n 2) := by decide +kernel
theorem f_Md_sets_6 : fch r_Md_sets.2.1 6 = some (.iastore) := by decide +kernel
theorem f_Md_sets_7 : fch r_Md_sets.2.1 7 = some (.aload_n 0) := by decide +kernel
theorem f_Md_sets_8 : fch r_Md_sets.2.1 8 = some (.getfield 161) := by decide +kernel
theorem f_Md_sets_11 : fch r_Md_sets.2.1 11 = some (.iload_n 1) := by decide +kernel
theorem f_Md_sets_12 : fch r_Md_sets.2.1 12 = some (.iload_n 3) := by decide +kernel
theorem f_Md_sets_13 : fch r_Md_sets.2.1 13 = some (.iastore) := by decide +kernel
theorem f_Md_sets_14 : fch r_Md_sets.2.1 14 = some (.aload_n 0) := by decide +kernel
theorem f_Md_sets_15 : fch r_Md_sets.2.1 15 = some (.getfield 164) := by decide +kernel
theorem f_Md_sets_18 : fch r_Md_sets.2.1 18 = some (.iload_n 1) := by decide +kernel
theorem f_Md_sets_19 : fch r_Md_sets.2.1 19 = some (.iload 4) := by decide +kernel
theorem f_Md_sets_21 : fch r_Md_sets.2.1 21 = some (.iastore) := by decide +kernel
theorem f_Md_sets_22 : fch r_Md_sets.2.1 22 = some (.aload_n 0) := by decide +kernel
theorem f_Md_sets_23 : fch r_Md_sets.2.1 23 = some (.getfield 167) := by decide +kernel
theorem f_Md_sets_26 : fch r_Md_sets.2.1 26 = some (.iload_n 1) := by decide +kernel
theorem f_Md_sets_27 : fch r_Md_sets.2.1 27 = some (.iload 5) := by decide +kernel
theorem f_Md_sets_29 : fch r_Md_sets.2.1 29 = some (.iastore) := by decide +kernel
theorem f_Md_sets_30 : fch r_Md_sets.2.1 30 = some (.return_) := by decide +kernel
theorem f_Md_nextMoved_0 : fch r_Md_nextMoved.2.1 0 = some (.iconst (-1)) := by decide +kernel
theorem f_Md_nextMoved_1 : fch r_Md_nextMoved.2.1 1 = some (.istore_n 1) := by decide +kernel
theorem f_Md_nextMoved_2 : fch r_Md_nextMoved.2.1 2 = some (.iconst 0) := by decide +kernel
theorem f_Md_nextMoved_3 : fch r_Md_nextMoved.2.1 3 = some (.istore_n 2) := by decide +kernel
theorem f_Md_nextMoved_4 : fch r_Md_nextMoved.2.1 4 = some (.iload_n 2) := by decide +kernel
theorem f_Md_nextMoved_5 : fch r_Md_nextMoved.2.1 5 = some (.aload_n 0) := by decide +kernel
theorem f_Md_nextMoved_6 : fch r_Md_nextMoved.2.1 6 = some (.getfield 66) := by decide +kernel
theorem f_Md_nextMoved_9 : fch r_Md_nextMoved.2.1 9 = some (.if_icmp .ge 108) := by decide +kernel
theorem f_Md_nextMoved_12 : fch r_Md_nextMoved.2.1 12 = some (.aload_n 0) := by decide +kernel
theorem f_Md_nextMoved_13 : fch r_Md_nextMoved.2.1 13 = some (.getfield 129) := by decide +kernel
theorem f_Md_nextMoved_16 : fch r_Md_nextMoved.2.1 16 = some (.iload_n 2) := by decide +kernel
theorem f_Md_nextMoved_17 : fch r_Md_nextMoved.2.1 17 = some (.iaload) := by decide +kernel
theorem f_Md_nextMoved_18 : fch r_Md_nextMoved.2.1 18 = some (.iconst (-1)) := by decide +kernel
theorem f_Md_nextMoved_19 : fch r_Md_nextMoved.2.1 19 = some (.if_icmp .eq 92) := by decide +kernel
theorem f_Md_nextMoved_22 : fch r_Md_nextMoved.2.1 22 = some (.aload_n 0) := by decide +kernel
theorem f_Md_nextMoved_23 : fch r_Md_nextMoved.2.1 23 = some (.getfield 85) := by decide +kernel
theorem f_Md_nextMoved_26 : fch r_Md_nextMoved.2.1 26 = some (.iload_n 2) := by decide +kernel
theorem f_Md_nextMoved_27 : fch r_Md_nextMoved.2.1 27 = some (.iaload) := by decide +kernel
theorem f_Md_nextMoved_28 : fch r_Md_nextMoved.2.1 28 = some (.iconst 2) := by decide +kernel
theorem f_Md_nextMoved_29 : fch r_Md_nextMoved.2.1 29 = some (.if_icmp .ne 82) := by decide +kernel
theorem f_Md_nextMoved_32 : fch r_Md_nextMoved.2.1 32 = some (.aload_n 0) := by decide +kernel
theorem f_Md_nextMoved_33 : fch r_Md_nextMoved.2.1 33 = some (.getfield 138) := by decide +kernel
theorem f_Md_nextMoved_36 : fch r_Md_nextMoved.2.1 36 = some (.iload_n 2) := by decide +kernel
theorem f_Md_nextMoved_37 : fch r_Md_nextMoved.2.1 37 = some (.iaload) := by decide +kernel
theorem f_Md_nextMoved_38 : fch r_Md_nextMoved.2.1 38 = some (.iconst (-1)) := by decide +kernel
theorem f_Md_nextMoved_39 : fch r_Md_nextMoved.2.1 39 = some (.if_icmp .ne 72) := by decide +kernel
theorem f_Md_nextMoved_42 : fch r_Md_nextMoved.2.1 42 = some (.aload_n 0) := by decide +kernel
theorem f_Md_nextMoved_43 : fch r_Md_nextMoved.2.1 43 = some (.aload_n 0) := by decide +kernel
theorem f_Md_nextMoved_44 : fch r_Md_nextMoved.2.1 44 = some (.getfield 129) := by decide +kernel
theorem f_Md_nextMoved_47 : fch r_Md_nextMoved.2.1 47 = some (.iload_n 2) := by decide +kernel
theorem f_Md_nextMoved_48 : fch r_Md_nextMoved.2.1 48 = some (.iaload) := by decide +kernel
theorem f_Md_nextMoved_49 : fch r_Md_nextMoved.2.1 49 = some (.iload_n 2) := by decide +kernel
theorem f_Md_nextMoved_50 : fch r_Md_nextMoved.2.1 50 = some (.invokevirtual 170) := by decide +kernel
theorem f_Md_nextMoved_53 : fch r_Md_nextMoved.2.1 53 = some (.ifCond .eq 6) := by decide +kernel
theorem f_Md_nextMoved_56 : fch r_Md_nextMoved.2.1 56 = some (.goto 55) := by decide +kernel
theorem f_Md_nextMoved_59 : fch r_Md_nextMoved.2.1 59 = some (.iload_n 1) := by decide +kernel
theorem f_Md_nextMoved_60 : fch r_Md_nextMoved.2.1 60 = some (.iconst (-1)) := by decide +kernel
theorem f_Md_nextMoved_61 : fch r_Md_nextMoved.2.1 61 = some (.if_icmp .eq 48) := by decide +kernel
theorem f_Md_nextMoved_64 : fch r_Md_nextMoved.2.1 64 = some (.aload_n 0) := by decide +kernel
theorem f_Md_nextMoved_65 : fch r_Md_nextMoved.2.1 65 = some (.getfield 79) := by decide +kernel
theorem f_Md_nextMoved_68 : fch r_Md_nextMoved.2.1 68 = some (.iload_n 2) := by decide +kernel
theorem f_Md_nextMoved_69 : fch r_Md_nextMoved.2.1 69 = some (.iaload) := by decide +kernel
theorem f_Md_nextMoved_70 : fch r_Md_nextMoved.2.1 70 = some (.aload_n 0) := by decide +kernel
theorem f_Md_nextMoved_71 : fch r_Md_nextMoved.2.1 71 = some (.getfield 79) := by decide +kernel
theorem f_Md_nextMoved_74 : fch r_Md_nextMoved.2.1 74 = some (.iload_n 1) := by decide +kernel
theorem f_Md_nextMoved_75 : fch r_Md_nextMoved.2.1 75 = some (.iaload) := by decide +kernel
theorem f_Md_nextMoved_76 : fch r_Md_nextMoved.2.1 76 = some (.if_icmp .gt 33) := by decide +kernel
theorem f_Md_nextMoved_79 : fch r_Md_nextMoved.2.1 79 = some (.aload_n 0) := by decide +kernel
theorem f_Md_nextMoved_80 : fch r_Md_nextMoved.2.1 80 = some (.getfield 79) := by decide +kernel
theorem f_Md_nextMoved_83 : fch r_Md_nextMoved.2.1 83 = some (.iload_n 2) := by decide +kernel
theorem f_Md_nextMoved_84 : fch r_Md_nextMoved.2.1 84 = some (.iaload) := by decide +kernel
theorem f_Md_nextMoved_85 : fch r_Md_nextMoved.2.1 85 = some (.aload_n 0) := by decide +kernel
theorem f_Md_nextMoved_86 : fch r_Md_nextMoved.2.1 86 = some (.getfield 79) := by decide +kernel
theorem f_Md_nextMoved_89 : fch r_Md_nextMoved.2.1 89 = some (.iload_n 1) := by decide +kernel
theorem f_Md_nextMoved_90 : fch r_Md_nextMoved.2.1 90 = some (.iaload) := by decide +kernel
theorem f_Md_nextMoved_91 : fch r_Md_nextMoved.2.1 91 = some (.if_icmp .ne 20) := by decide +kernel
theorem f_Md_nextMoved_94 : fch r_Md_nextMoved.2.1 94 = some (.aload_n 0) := by decide +kernel
theorem f_Md_nextMoved_95 : fch r_Md_nextMoved.2.1 95 = some (.getfield 129) := by decide +kernel
theorem f_Md_nextMoved_98 : fch r_Md_nextMoved.2.1 98 = some (.iload_n 2) := by decide +kernel
theorem f_Md_nextMoved_99 : fch r_Md_nextMoved.2.1 99 = some (.iaload) := by decide +kernel
theorem f_Md_nextMoved_100 : fch r_Md_nextMoved.2.1 100 = some (.aload_n 0) := by decide +kernel
theorem f_Md_nextMoved_101 : fch r_Md_nextMoved.2.1 101 = some (.getfield 129) := by decide +kernel
theorem f_Md_nextMoved_104 : fch r_Md_nextMoved.2.1 104 = some (.iload_n 1) := by decide +kernel
theorem f_Md_nextMoved_105 : fch r_Md_nextMoved.2.1 105 = some (.iaload) := by decide +kernel
theorem f_Md_nextMoved_106 : fch r_Md_nextMoved.2.1 106 = some (.if_icmp .ge 5) := by decide +kernel
theorem f_Md_nextMoved_109 : fch r_Md_nextMoved.2.1 109 = some (.iload_n 2) := by decide +kernel
theorem f_Md_nextMoved_110 : fch r_Md_nextMoved.2.1 110 = some (.istore_n 1) := by decide +kernel
theorem f_Md_nextMoved_111 : fch r_Md_nextMoved.2.1 111 = some (.iinc 2 1) := by decide +kernel
theorem f_Md_nextMoved_114 : fch r_Md_nextMoved.2.1 114 = some (.goto (-110)) := by decide +kernel
theorem f_Md_nextMoved_117 : fch r_Md_nextMoved.2.1 117 = some (.iload_n 1) := by decide +kernel
theorem f_Md_nextMoved_118 : fch r_Md_nextMoved.2.1 118 = some (.ireturn) := by decide +kernel
theorem f_Md_isOffice_0 : fch r_Md_isOffice.2.1 0 = some (.aload_n 0) := by decide +kernel
theorem f_Md_isOffice_1 : fch r_Md_isOffice.2.1 1 = some (.getfield 158) := by decide +kernel
theorem f_Md_isOffice_4 : fch r_Md_isOffice.2.1 4 = some (.iload_n 1) := by decide +kernel
theorem f_Md_isOffice_5 : fch r_Md_isOffice.2.1 5 = some (.iaload) := by decide +kernel
theorem f_Md_isOffice_6 : fch r_Md_isOffice.2.1 6 = some (.iconst 2) := by decide +kernel
theorem f_Md_isOffice_7 : fch r_Md_isOffice.2.1 7 = some (.if_icmp .ne 17) := by decide +kernel
theorem f_Md_isOffice_10 : fch r_Md_isOffice.2.1 10 = some (.aload_n 0) := by decide +kernel
theorem f_Md_isOffice_11 : fch r_Md_isOffice.2.1 11 = some (.getfield 161) := by decide +kernel
theorem f_Md_isOffice_14 : fch r_Md_isOffice.2.1 14 = some (.iload_n 1) := by decide +kernel
theorem f_Md_isOffice_15 : fch r_Md_isOffice.2.1 15 = some (.iaload) := by decide +kernel
theorem f_Md_isOffice_16 : fch r_Md_isOffice.2.1 16 = some (.iload_n 2) := by decide +kernel
theorem f_Md_isOffice_17 : fch r_Md_isOffice.2.1 17 = some (.if_icmp .ne 7) := by decide +kernel
theorem f_Md_isOffice_20 : fch r_Md_isOffice.2.1 20 = some (.iconst 1) := by decide +kernel
theorem f_Md_isOffice_21 : fch r_Md_isOffice.2.1 21 = some (.goto 4) := by decide +kernel
theorem f_Md_isOffice_24 : fch r_Md_isOffice.2.1 24 = some (.iconst 0) := by decide +kernel
theorem f_Md_isOffice_25 : fch r_Md_isOffice.2.1 25 = some (.ireturn) := by decide +kernel
theorem f_Md_moves_0 : fch r_Md_moves.2.1 0 = some (.aload_n 0) := by decide +kernel
theorem f_Md_moves_1 : fch r_Md_moves.2.1 1 = some (.getfield 138) := by decide +kernel
theorem f_Md_moves_4 : fch r_Md_moves.2.1 4 = some (.iload_n 2) := by decide +kernel
theorem f_Md_moves_5 : fch r_Md_moves.2.1 5 = some (.bipush (-2)) := by decide +kernel
theorem f_Md_moves_7 : fch r_Md_moves.2.1 7 = some (.iastore) := by decide +kernel
theorem f_Md_moves_8 : fch r_Md_moves.2.1 8 = some (.aload_n 0) := by decide +kernel
theorem f_Md_moves_9 : fch r_Md_moves.2.1 9 = some (.getfield 129) := by decide +kernel
theorem f_Md_moves_12 : fch r_Md_moves.2.1 12 = some (.iload_n 2) := by decide +kernel
theorem f_Md_moves_13 : fch r_Md_moves.2.1 13 = some (.iaload) := by decide +kernel
theorem f_Md_moves_14 : fch r_Md_moves.2.1 14 = some (.iconst 1) := by decide +kernel
theorem f_Md_moves_15 : fch r_Md_moves.2.1 15 = some (.iadd) := by decide +kernel
theorem f_Md_moves_16 : fch r_Md_moves.2.1 16 = some (.istore_n 3) := by decide +kernel
theorem f_Md_moves_17 : fch r_Md_moves.2.1 17 = some (.iload_n 3) := by decide +kernel
theorem f_Md_moves_18 : fch r_Md_moves.2.1 18 = some (.aload_n 0) := by decide +kernel
theorem f_Md_moves_19 : fch r_Md_moves.2.1 19 = some (.getfield 129) := by decide +kernel
theorem f_Md_moves_22 : fch r_Md_moves.2.1 22 = some (.iload_n 2) := by decide +kernel
theorem f_Md_moves_23 : fch r_Md_moves.2.1 23 = some (.iaload) := by decide +kernel
theorem f_Md_moves_24 : fch r_Md_moves.2.1 24 = some (.bipush 60) := by decide +kernel
theorem f_Md_moves_26 : fch r_Md_moves.2.1 26 = some (.iadd) := by decide +kernel
theorem f_Md_moves_27 : fch r_Md_moves.2.1 27 = some (.if_icmp .gt 87) := by decide +kernel
theorem f_Md_moves_30 : fch r_Md_moves.2.1 30 = some (.iload_n 3) := by decide +kernel
theorem f_Md_moves_31 : fch r_Md_moves.2.1 31 = some (.iload_n 1) := by decide +kernel
theorem f_Md_moves_32 : fch r_Md_moves.2.1 32 = some (.invokestatic 15) := by decide +kernel
theorem f_Md_moves_35 : fch r_Md_moves.2.1 35 = some (.if_icmp .ge 79) := by decide +kernel
theorem f_Md_moves_38 : fch r_Md_moves.2.1 38 = some (.aload_n 0) := by decide +kernel
theorem f_Md_moves_39 : fch r_Md_moves.2.1 39 = some (.getfield 164) := by decide +kernel
theorem f_Md_moves_42 : fch r_Md_moves.2.1 42 = some (.iload_n 3) := by decide +kernel
theorem f_Md_moves_43 : fch r_Md_moves.2.1 43 = some (.iaload) := by decide +kernel
theorem f_Md_moves_44 : fch r_Md_moves.2.1 44 = some (.aload_n 0) := by decide +kernel
theorem f_Md_moves_45 : fch r_Md_moves.2.1 45 = some (.getfield 79) := by decide +kernel
theorem f_Md_moves_48 : fch r_Md_moves.2.1 48 = some (.iload_n 2) := by decide +kernel
theorem f_Md_moves_49 : fch r_Md_moves.2.1 49 = some (.iaload) := by decide +kernel
theorem f_Md_moves_50 : fch r_Md_moves.2.1 50 = some (.if_icmp .ge 58) := by decide +kernel
theorem f_Md_moves_53 : fch r_Md_moves.2.1 53 = some (.aload_n 0) := by decide +kernel
theorem f_Md_moves_54 : fch r_Md_moves.2.1 54 = some (.getfield 158) := by decide +kernel
theorem f_Md_moves_57 : fch r_Md_moves.2.1 57 = some (.iload_n 3) := by decide +kernel
theorem f_Md_moves_58 : fch r_Md_moves.2.1 58 = some (.iaload) := by decide +kernel
theorem f_Md_moves_59 : fch r_Md_moves.2.1 59 = some (.iconst 2) := by decide +kernel
theorem f_Md_moves_60 : fch r_Md_moves.2.1 60 = some (.if_icmp .ne 21) := by decide +kernel
theorem f_Md_moves_63 : fch r_Md_moves.2.1 63 = some (.aload_n 0) := by decide +kernel
theorem f_Md_moves_64 : fch r_Md_moves.2.1 64 = some (.getfield 85) := by decide +kernel
theorem f_Md_moves_67 : fch r_Md_moves.2.1 67 = some (.aload_n 0) := by decide +kernel
theorem f_Md_moves_68 : fch r_Md_moves.2.1 68 = some (.getfield 161) := by decide +kernel
theorem f_Md_moves_71 : fch r_Md_moves.2.1 71 = some (.iload_n 3) := by decide +kernel
theorem f_Md_moves_72 : fch r_Md_moves.2.1 72 = some (.iaload) := by decide +kernel
theorem f_Md_moves_73 : fch r_Md_moves.2.1 73 = some (.iaload) := by decide +kernel
theorem f_Md_moves_74 : fch r_Md_moves.2.1 74 = some (.iconst 2) := by decide +kernel
theorem f_Md_moves_75 : fch r_Md_moves.2.1 75 = some (.if_icmp .ne 6) := by decide +kernel
theorem f_Md_moves_78 : fch r_Md_moves.2.1 78 = some (.goto 30) := by decide +kernel
theorem f_Md_moves_81 : fch r_Md_moves.2.1 81 = some (.aload_n 0) := by decide +kernel
theorem f_Md_moves_82 : fch r_Md_moves.2.1 82 = some (.getfield 138) := by decide +kernel
theorem f_Md_moves_85 : fch r_Md_moves.2.1 85 = some (.iload_n 2) := by decide +kernel
theorem f_Md_moves_86 : fch r_Md_moves.2.1 86 = some (.iload_n 3) := by decide +kernel
theorem f_Md_moves_87 : fch r_Md_moves.2.1 87 = some (.iastore) := by decide +kernel
theorem f_Md_moves_88 : fch r_Md_moves.2.1 88 = some (.aload_n 0) := by decide +kernel
theorem f_Md_moves_89 : fch r_Md_moves.2.1 89 = some (.iload_n 3) := by decide +kernel
theorem f_Md_moves_90 : fch r_Md_moves.2.1 90 = some (.iconst 2) := by decide +kernel
theorem f_Md_moves_91 : fch r_Md_moves.2.1 91 = some (.iload_n 2) := by decide +kernel
theorem f_Md_moves_92 : fch r_Md_moves.2.1 92 = some (.aload_n 0) := by decide +kernel
theorem f_Md_moves_93 : fch r_Md_moves.2.1 93 = some (.getfield 79) := by decide +kernel
theorem f_Md_moves_96 : fch r_Md_moves.2.1 96 = some (.iload_n 2) := by decide +kernel
theorem f_Md_moves_97 : fch r_Md_moves.2.1 97 = some (.iaload) := by decide +kernel
theorem f_Md_moves_98 : fch r_Md_moves.2.1 98 = some (.aload_n 0) := by decide +kernel
theorem f_Md_moves_99 : fch r_Md_moves.2.1 99 = some (.getfield 82) := by decide +kernel
theorem f_Md_moves_102 : fch r_Md_moves.2.1 102 = some (.iload_n 2) := by decide +kernel
theorem f_Md_moves_103 : fch r_Md_moves.2.1 103 = some (.iaload) := by decide +kernel
theorem f_Md_moves_104 : fch r_Md_moves.2.1 104 = some (.invokevirtual 148) := by decide +kernel
theorem f_Md_moves_107 : fch r_Md_moves.2.1 107 = some (.return_) := by decide +kernel
theorem f_Md_moves_108 : fch r_Md_moves.2.1 108 = some (.iinc 3 1) := by decide +kernel
theorem f_Md_moves_111 : fch r_Md_moves.2.1 111 = some (.goto (-94)) := by decide +kernel
theorem f_Md_moves_114 : fch r_Md_moves.2.1 114 = some (.return_) := by decide +kernel
theorem f_Md_commemorates_0 : fch r_Md_commemorates.2.1 0 = some (.aload_n 0) := by decide +kernel
theorem f_Md_commemorates_1 : fch r_Md_commemorates.2.1 1 = some (.iload_n 1) := by decide +kernel
theorem f_Md_commemorates_2 : fch r_Md_commemorates.2.1 2 = some (.iload_n 2) := by decide +kernel
theorem f_Md_commemorates_3 : fch r_Md_commemorates.2.1 3 = some (.invokevirtual 141) := by decide +kernel
theorem f_Md_commemorates_6 : fch r_Md_commemorates.2.1 6 = some (.aload_n 0) := by decide +kernel
theorem f_Md_commemorates_7 : fch r_Md_commemorates.2.1 7 = some (.iconst 0) := by decide +kernel
theorem f_Md_commemorates_8 : fch r_Md_commemorates.2.1 8 = some (.putfield 173) := by decide +kernel
theorem f_Md_commemorates_11 : fch r_Md_commemorates.2.1 11 = some (.iconst 1) := by decide +kernel
theorem f_Md_commemorates_12 : fch r_Md_commemorates.2.1 12 = some (.istore_n 3) := by decide +kernel
theorem f_Md_commemorates_13 : fch r_Md_commemorates.2.1 13 = some (.aload_n 0) := by decide +kernel
theorem f_Md_commemorates_14 : fch r_Md_commemorates.2.1 14 = some (.getfield 173) := by decide +kernel
theorem f_Md_commemorates_17 : fch r_Md_commemorates.2.1 17 = some (.iconst 3) := by decide +kernel
theorem f_Md_commemorates_18 : fch r_Md_commemorates.2.1 18 = some (.if_icmp .ge 168) := by decide +kernel
theorem f_Md_commemorates_21 : fch r_Md_commemorates.2.1 21 = some (.iload_n 3) := by decide +kernel
theorem f_Md_commemorates_22 : fch r_Md_commemorates.2.1 22 = some (.ifCond .eq 164) := by decide +kernel
theorem f_Md_commemorates_25 : fch r_Md_commemorates.2.1 25 = some (.iconst (-1)) := by decide +kernel
theorem f_Md_commemorates_26 : fch r_Md_commemorates.2.1 26 = some (.istore 4) := by decide +kernel
theorem f_Md_commemorates_28 : fch r_Md_commemorates.2.1 28 = some (.iconst 0) := by decide +kernel
theorem f_Md_commemorates_29 : fch r_Md_commemorates.2.1 29 = some (.istore 5) := by decide +kernel
theorem f_Md_commemorates_31 : fch r_Md_commemorates.2.1 31 = some (.iload 5) := by decide +kernel
theorem f_Md_commemorates_33 : fch r_Md_commemorates.2.1 33 = some (.aload_n 0) := by decide +kernel
theorem f_Md_commemorates_34 : fch r_Md_commemorates.2.1 34 = some (.getfield 100) := by decide +kernel
theorem f_Md_commemorates_37 : fch r_Md_commemorates.2.1 37 = some (.if_icmp .ge 98) := by decide +kernel
theorem f_Md_commemorates_40 : fch r_Md_commemorates.2.1 40 = some (.aload_n 0) := by decide +kernel
theorem f_Md_commemorates_41 : fch r_Md_commemorates.2.1 41 = some (.getfield 97) := by decide +kernel
theorem f_Md_commemorates_44 : fch r_Md_commemorates.2.1 44 = some (.iload 5) := by decide +kernel
theorem f_Md_commemorates_46 : fch r_Md_commemorates.2.1 46 = some (.iaload) := by decide +kernel
theorem f_Md_commemorates_47 : fch r_Md_commemorates.2.1 47 = some (.aload_n 0) := by decide +kernel
theorem f_Md_commemorates_48 : fch r_Md_commemorates.2.1 48 = some (.getfield 158) := by decide +kernel
theorem f_Md_commemorates_51 : fch r_Md_commemorates.2.1 51 = some (.iload_n 2) := by decide +kernel
theorem f_Md_commemorates_52 : fch r_Md_commemorates.2.1 52 = some (.iaload) := by decide +kernel
theorem f_Md_commemorates_53 : fch r_Md_commemorates.2.1 53 = some (.if_icmp .ne 23) := by decide +kernel
theorem f_Md_commemorates_56 : fch r_Md_commemorates.2.1 56 = some (.aload_n 0) := by decide +kernel
theorem f_Md_commemorates_57 : fch r_Md_commemorates.2.1 57 = some (.getfield 103) := by decide +kernel
theorem f_Md_commemorates_60 : fch r_Md_commemorates.2.1 60 = some (.iload 5) := by decide +kernel
theorem f_Md_commemorates_62 : fch r_Md_commemorates.2.1 62 = some (.iaload) := by decide +kernel
theorem f_Md_commemorates_63 : fch r_Md_commemorates.2.1 63 = some (.aload_n 0) := by decide +kernel
theorem f_Md_commemorates_64 : fch r_Md_commemorates.2.1 64 = some (.getfield 161) := by decide +kernel
theorem f_Md_commemorates_67 : fch r_Md_commemorates.2.1 67 = some (.iload_n 2) := by decide +kernel
theorem f_Md_commemorates_68 : fch r_Md_commemorates.2.1 68 = some (.iaload) := by decide +kernel
theorem f_Md_commemorates_69 : fch r_Md_commemorates.2.1 69 = some (.if_icmp .ne 7) := by decide +kernel
theorem f_Md_commemorates_72 : fch r_Md_commemorates.2.1 72 = some (.iconst 1) := by decide +kernel
theorem f_Md_commemorates_73 : fch r_Md_commemorates.2.1 73 = some (.goto 4) := by decide +kernel
theorem f_Md_commemorates_76 : fch r_Md_commemorates.2.1 76 = some (.iconst 0) := by decide +kernel
theorem f_Md_commemorates_77 : fch r_Md_commemorates.2.1 77 = some (.istore 6) := by decide +kernel
theorem f_Md_commemorates_79 : fch r_Md_commemorates.2.1 79 = some (.iload 6) := by decide +kernel
theorem f_Md_commemorates_81 : fch r_Md_commemorates.2.1 81 = some (.ifCond .ne 48) := by decide +kernel
theorem f_Md_commemorates_84 : fch r_Md_commemorates.2.1 84 = some (.aload_n 0) := by decide +kernel
theorem f_Md_commemorates_85 : fch r_Md_commemorates.2.1 85 = some (.getfield 112) := by decide +kernel
theorem f_Md_commemorates_88 : fch r_Md_commemorates.2.1 88 = some (.iload 5) := by decide +kernel
theorem f_Md_commemorates_90 : fch r_Md_commemorates.2.1 90 = some (.iaload) := by decide +kernel
theorem f_Md_commemorates_91 : fch r_Md_commemorates.2.1 91 = some (.iconst 1) := by decide +kernel
theorem f_Md_commemorates_92 : fch r_Md_commemorates.2.1 92 = some (.if_icmp .ne 37) := by decide +kernel
theorem f_Md_commemorates_95 : fch r_Md_commemorates.2.1 95 = some (.aload_n 0) := by decide +kernel
theorem f_Md_commemorates_96 : fch r_Md_commemorates.2.1 96 = some (.getfield 97) := by decide +kernel
theorem f_Md_commemorates_99 : fch r_Md_commemorates.2.1 99 = some (.iload 5) := by decide +kernel
theorem f_Md_commemorates_101 : fch r_Md_commemorates.2.1 101 = some (.iaload) := by decide +kernel
theorem f_Md_commemorates_102 : fch r_Md_commemorates.2.1 102 = some (.ifCond .ge 6) := by decide +kernel
theorem f_Md_commemorates_105 : fch r_Md_commemorates.2.1 105 = some (.goto 24) := by decide +kernel
theorem f_Md_commemorates_108 : fch r_Md_commemorates.2.1 108 = some (.iload 4) := by decide +kernel
theorem f_Md_commemorates_110 : fch r_Md_commemorates.2.1 110 = some (.iconst (-1)) := by decide +kernel
theorem f_Md_commemorates_111 : fch r_Md_commemorates.2.1 111 = some (.if_icmp .eq 14) := by decide +kernel
theorem f_Md_commemorates_114 : fch r_Md_commemorates.2.1 114 = some (.aload_n 0) := by decide +kernel
theorem f_Md_commemorates_115 : fch r_Md_commemorates.2.1 115 = some (.iload 5) := by decide +kernel
theorem f_Md_commemorates_117 : fch r_Md_commemorates.2.1 117 = some (.iload 4) := by decide +kernel
theorem f_Md_commemorates_119 : fch r_Md_commemorates.2.1 119 = some (.invokevirtual 145) := by decide +kernel
theorem f_Md_commemorates_122 : fch r_Md_commemorates.2.1 122 = some (.ifCond .eq 7) := by decide +kernel
theorem f_Md_commemorates_125 : fch r_Md_commemorates.2.1 125 = some (.iload 5) := by decide +kernel
theorem f_Md_commemorates_127 : fch r_Md_commemorates.2.1 127 = some (.istore 4) := by decide +kernel
theorem f_Md_commemorates_129 : fch r_Md_commemorates.2.1 129 = some (.iinc 5 1) := by decide +kernel
theorem f_Md_commemorates_132 : fch r_Md_commemorates.2.1 132 = some (.goto (-101)) := by decide +kernel
theorem f_Md_commemorates_135 : fch r_Md_commemorates.2.1 135 = some (.iload 4) := by decide +kernel
theorem f_Md_commemorates_137 : fch r_Md_commemorates.2.1 137 = some (.iconst (-1)) := by decide +kernel
theorem f_Md_commemorates_138 : fch r_Md_commemorates.2.1 138 = some (.if_icmp .eq 7) := by decide +kernel
theorem f_Md_commemorates_141 : fch r_Md_commemorates.2.1 141 = some (.iconst 1) := by decide +kernel
theorem f_Md_commemorates_142 : fch r_Md_commemorates.2.1 142 = some (.goto 4) := by decide +kernel
theorem f_Md_commemorates_145 : fch r_Md_commemorates.2.1 145 = some (.iconst 0) := by decide +kernel
theorem f_Md_commemorates_146 : fch r_Md_commemorates.2.1 146 = some (.istore_n 3) := by decide +kernel
theorem f_Md_commemorates_147 : fch r_Md_commemorates.2.1 147 = some (.iload_n 3) := by decide +kernel
theorem f_Md_commemorates_148 : fch r_Md_commemorates.2.1 148 = some (.ifCond .ne 6) := by decide +kernel
theorem f_Md_commemorates_151 : fch r_Md_commemorates.2.1 151 = some (.goto (-138)) := by decide +kernel
theorem f_Md_commemorates_154 : fch r_Md_commemorates.2.1 154 = some (.aload_n 0) := by decide +kernel
theorem f_Md_commemorates_155 : fch r_Md_commemorates.2.1 155 = some (.getfield 176) := by decide +kernel
theorem f_Md_commemorates_158 : fch r_Md_commemorates.2.1 158 = some (.aload_n 0) := by decide +kernel
theorem f_Md_commemorates_159 : fch r_Md_commemorates.2.1 159 = some (.getfield 173) := by decide +kernel
theorem f_Md_commemorates_162 : fch r_Md_commemorates.2.1 162 = some (.iload 4) := by decide +kernel
theorem f_Md_commemorates_164 : fch r_Md_commemorates.2.1 164 = some (.iastore) := by decide +kernel
theorem f_Md_commemorates_165 : fch r_Md_commemorates.2.1 165 = some (.aload_n 0) := by decide +kernel
theorem f_Md_commemorates_166 : fch r_Md_commemorates.2.1 166 = some (.dup) := by decide +kernel
theorem f_Md_commemorates_167 : fch r_Md_commemorates.2.1 167 = some (.getfield 173) := by decide +kernel
theorem f_Md_commemorates_170 : fch r_Md_commemorates.2.1 170 = some (.iconst 1) := by decide +kernel
theorem f_Md_commemorates_171 : fch r_Md_commemorates.2.1 171 = some (.iadd) := by decide +kernel
theorem f_Md_commemorates_172 : fch r_Md_commemorates.2.1 172 = some (.putfield 173) := by decide +kernel
theorem f_Md_commemorates_175 : fch r_Md_commemorates.2.1 175 = some (.aload_n 0) := by decide +kernel
theorem f_Md_commemorates_176 : fch r_Md_commemorates.2.1 176 = some (.getfield 112) := by decide +kernel
theorem f_Md_commemorates_179 : fch r_Md_commemorates.2.1 179 = some (.iload 4) := by decide +kernel
theorem f_Md_commemorates_181 : fch r_Md_commemorates.2.1 181 = some (.iconst (-1)) := by decide +kernel
theorem f_Md_commemorates_182 : fch r_Md_commemorates.2.1 182 = some (.iastore) := by decide +kernel
theorem f_Md_commemorates_183 : fch r_Md_commemorates.2.1 183 = some (.goto (-170)) := by decide +kernel
theorem f_Md_commemorates_186 : fch r_Md_commemorates.2.1 186 = some (.return_) := by decide +kernel
theorem f_Md_also_0 : fch r_Md_also.2.1 0 = some (.iload_n 1) := by decide +kernel
theorem f_Md_also_1 : fch r_Md_also.2.1 1 = some (.iload_n 2) := by decide +kernel
theorem f_Md_also_2 : fch r_Md_also.2.1 2 = some (.invokestatic 179) := by decide +kernel
theorem f_Md_also_5 : fch r_Md_also.2.1 5 = some (.ifCond .ne 5) := by decide +kernel
theorem f_Md_also_8 : fch r_Md_also.2.1 8 = some (.iconst (-1)) := by decide +kernel
theorem f_Md_also_9 : fch r_Md_also.2.1 9 = some (.ireturn) := by decide +kernel
theorem f_Md_also_10 : fch r_Md_also.2.1 10 = some (.aload_n 0) := by decide +kernel
theorem f_Md_also_11 : fch r_Md_also.2.1 11 = some (.iload_n 1) := by decide +kernel
theorem f_Md_also_12 : fch r_Md_also.2.1 12 = some (.invokevirtual 182) := by decide +kernel
theorem f_Md_also_15 : fch r_Md_also.2.1 15 = some (.aload_n 0) := by decide +kernel
theorem f_Md_also_16 : fch r_Md_also.2.1 16 = some (.iload_n 1) := by decide +kernel
theorem f_Md_also_17 : fch r_Md_also.2.1 17 = some (.iload_n 2) := by decide +kernel
theorem f_Md_also_18 : fch r_Md_also.2.1 18 = some (.invokevirtual 186) := by decide +kernel
theorem f_Md_also_21 : fch r_Md_also.2.1 21 = some (.iload_n 3) := by decide +kernel
theorem f_Md_also_22 : fch r_Md_also.2.1 22 = some (.iconst 0) := by decide +kernel
theorem f_Md_also_23 : fch r_Md_also.2.1 23 = some (.aload_n 0) := by decide +kernel
theorem f_Md_also_24 : fch r_Md_also.2.1 24 = some (.getfield 173) := by decide +kernel
theorem f_Md_also_27 : fch r_Md_also.2.1 27 = some (.iconst 1) := by decide +kernel
theorem f_Md_also_28 : fch r_Md_also.2.1 28 = some (.isub) := by decide +kernel
theorem f_Md_also_29 : fch r_Md_also.2.1 29 = some (.invokestatic 1) := by decide +kernel
theorem f_Md_also_32 : fch r_Md_also.2.1 32 = some (.ifCond .ne 5) := by decide +kernel
theorem f_Md_also_35 : fch r_Md_also.2.1 35 = some (.iconst (-1)) := by decide +kernel
theorem f_Md_also_36 : fch r_Md_also.2.1 36 = some (.ireturn) := by decide +kernel
theorem f_Md_also_37 : fch r_Md_also.2.1 37 = some (.aload_n 0) := by decide +kernel
theorem f_Md_also_38 : fch r_Md_also.2.1 38 = some (.getfield 176) := by decide +kernel
theorem f_Md_also_41 : fch r_Md_also.2.1 41 = some (.iload_n 3) := by decide +kernel
theorem f_Md_also_42 : fch r_Md_also.2.1 42 = some (.iaload) := by decide +kernel
theorem f_Md_also_43 : fch r_Md_also.2.1 43 = some (.istore 5) := by decide +kernel
theorem f_Md_also_45 : fch r_Md_also.2.1 45 = some (.iload 4) := by decide +kernel
theorem f_Md_also_47 : fch r_Md_also.2.1 47 = some (.ifCond .ne 13) := by decide +kernel
theorem f_Md_also_50 : fch r_Md_also.2.1 50 = some (.aload_n 0) := by decide +kernel
theorem f_Md_also_51 : fch r_Md_also.2.1 51 = some (.getfield 97) := by decide +kernel
theorem f_Md_also_54 : fch r_Md_also.2.1 54 = some (.iload 5) := by decide +kernel
theorem f_Md_also_56 : fch r_Md_also.2.1 56 = some (.iaload) := by decide +kernel
theorem f_Md_also_57 : fch r_Md_also.2.1 57 = some (.goto 36) := by decide +kernel
theorem f_Md_also_60 : fch r_Md_also.2.1 60 = some (.iload 4) := by decide +kernel
theorem f_Md_also_62 : fch r_Md_also.2.1 62 = some (.iconst 1) := by decide +kernel
theorem f_Md_also_63 : fch r_Md_also.2.1 63 = some (.if_icmp .ne 13) := by decide +kernel
theorem f_Md_also_66 : fch r_Md_also.2.1 66 = some (.aload_n 0) := by decide +kernel
theorem f_Md_also_67 : fch r_Md_also.2.1 67 = some (.getfield 103) := by decide +kernel
theorem f_Md_also_70 : fch r_Md_also.2.1 70 = some (.iload 5) := by decide +kernel
theorem f_Md_also_72 : fch r_Md_also.2.1 72 = some (.iaload) := by decide +kernel
theorem f_Md_also_73 : fch r_Md_also.2.1 73 = some (.goto 20) := by decide +kernel
theorem f_Md_also_76 : fch r_Md_also.2.1 76 = some (.iload 4) := by decide +kernel
theorem f_Md_also_78 : fch r_Md_also.2.1 78 = some (.iconst 2) := by decide +kernel
theorem f_Md_also_79 : fch r_Md_also.2.1 79 = some (.if_icmp .ne 13) := by decide +kernel
theorem f_Md_also_82 : fch r_Md_also.2.1 82 = some (.aload_n 0) := by decide +kernel
theorem f_Md_also_83 : fch r_Md_also.2.1 83 = some (.getfield 106) := by decide +kernel
theorem f_Md_also_86 : fch r_Md_also.2.1 86 = some (.iload 5) := by decide +kernel
theorem f_Md_also_88 : fch r_Md_also.2.1 88 = some (.iaload) := by decide +kernel
theorem f_Md_also_89 : fch r_Md_also.2.1 89 = some (.goto 4) := by decide +kernel
theorem f_Md_also_92 : fch r_Md_also.2.1 92 = some (.iconst (-1)) := by decide +kernel
theorem f_Md_also_93 : fch r_Md_also.2.1 93 = some (.ireturn) := by decide +kernel
theorem f_Md_kept_0 : fch r_Md_kept.2.1 0 = some (.iload_n 1) := by decide +kernel
theorem f_Md_kept_1 : fch r_Md_kept.2.1 1 = some (.invokestatic 23) := by decide +kernel
theorem f_Md_kept_4 : fch r_Md_kept.2.1 4 = some (.ifCond .eq 17) := by decide +kernel
theorem f_Md_kept_7 : fch r_Md_kept.2.1 7 = some (.iload_n 2) := by decide +kernel
theorem f_Md_kept_8 : fch r_Md_kept.2.1 8 = some (.iconst 0) := by decide +kernel
theorem f_Md_kept_9 : fch r_Md_kept.2.1 9 = some (.aload_n 0) := by decide +kernel
theorem f_Md_kept_10 : fch r_Md_kept.2.1 10 = some (.getfield 66) := by decide +kernel
theorem f_Md_kept_13 : fch r_Md_kept.2.1 13 = some (.iconst 1) := by decide +kernel
theorem f_Md_kept_14 : fch r_Md_kept.2.1 14 = some (.isub) := by decide +kernel
theorem f_Md_kept_15 : fch r_Md_kept.2.1 15 = some (.invokestatic 1) := by decide +kernel
theorem f_Md_kept_18 : fch r_Md_kept.2.1 18 = some (.ifCond .ne 5) := by decide +kernel
theorem f_Md_kept_21 : fch r_Md_kept.2.1 21 = some (.iconst (-1)) := by decide +kernel
theorem f_Md_kept_22 : fch r_Md_kept.2.1 22 = some (.ireturn) := by decide +kernel
theorem f_Md_kept_23 : fch r_Md_kept.2.1 23 = some (.aload_n 0) := by decide +kernel
theorem f_Md_kept_24 : fch r_Md_kept.2.1 24 = some (.iload_n 1) := by decide +kernel
theorem f_Md_kept_25 : fch r_Md_kept.2.1 25 = some (.invokevirtual 182) := by decide +kernel
theorem f_Md_kept_28 : fch r_Md_kept.2.1 28 = some (.aload_n 0) := by decide +kernel
theorem f_Md_kept_29 : fch r_Md_kept.2.1 29 = some (.iload_n 1) := by decide +kernel
theorem f_Md_kept_30 : fch r_Md_kept.2.1 30 = some (.iload_n 2) := by decide +kernel
theorem f_Md_kept_31 : fch r_Md_kept.2.1 31 = some (.invokevirtual 189) := by decide +kernel
theorem f_Md_kept_34 : fch r_Md_kept.2.1 34 = some (.ireturn) := by decide +kernel
theorem f_Md_keptDay_0 : fch r_Md_keptDay.2.1 0 = some (.aload_n 0) := by decide +kernel
theorem f_Md_keptDay_1 : fch r_Md_keptDay.2.1 1 = some (.getfield 129) := by decide +kernel
theorem f_Md_keptDay_4 : fch r_Md_keptDay.2.1 4 = some (.iload_n 2) := by decide +kernel
theorem f_Md_keptDay_5 : fch r_Md_keptDay.2.1 5 = some (.iaload) := by decide +kernel
theorem f_Md_keptDay_6 : fch r_Md_keptDay.2.1 6 = some (.iconst (-1)) := by decide +kernel
theorem f_Md_keptDay_7 : fch r_Md_keptDay.2.1 7 = some (.if_icmp .ne 6) := by decide +kernel
theorem f_Md_keptDay_10 : fch r_Md_keptDay.2.1 10 = some (.bipush (-5)) := by decide +kernel
theorem f_Md_keptDay_12 : fch r_Md_keptDay.2.1 12 = some (.ireturn) := by decide +kernel
theorem f_Md_keptDay_13 : fch r_Md_keptDay.2.1 13 = some (.aload_n 0) := by decide +kernel
theorem f_Md_keptDay_14 : fch r_Md_keptDay.2.1 14 = some (.aload_n 0) := by decide +kernel
theorem f_Md_keptDay_15 : fch r_Md_keptDay.2.1 15 = some (.getfield 129) := by decide +kernel
theorem f_Md_keptDay_18 : fch r_Md_keptDay.2.1 18 = some (.iload_n 2) := by decide +kernel
theorem f_Md_keptDay_19 : fch r_Md_keptDay.2.1 19 = some (.iaload) := by decide +kernel
theorem f_Md_keptDay_20 : fch r_Md_keptDay.2.1 20 = some (.iload_n 2) := by decide +kernel
theorem f_Md_keptDay_21 : fch r_Md_keptDay.2.1 21 = some (.invokevirtual 170) := by decide +kernel
theorem f_Md_keptDay_24 : fch r_Md_keptDay.2.1 24 = some (.ifCond .eq 10) := by decide +kernel
theorem f_Md_keptDay_27 : fch r_Md_keptDay.2.1 27 = some (.aload_n 0) := by decide +kernel
theorem f_Md_keptDay_28 : fch r_Md_keptDay.2.1 28 = some (.getfield 129) := by decide +kernel
theorem f_Md_keptDay_31 : fch r_Md_keptDay.2.1 31 = some (.iload_n 2) := by decide +kernel
theorem f_Md_keptDay_32 : fch r_Md_keptDay.2.1 32 = some (.iaload) := by decide +kernel
theorem f_Md_keptDay_33 : fch r_Md_keptDay.2.1 33 = some (.ireturn) := by decide +kernel
theorem f_Md_keptDay_34 : fch r_Md_keptDay.2.1 34 = some (.aload_n 0) := by decide +kernel
theorem f_Md_keptDay_35 : fch r_Md_keptDay.2.1 35 = some (.getfield 85) := by decide +kernel
theorem f_Md_keptDay_38 : fch r_Md_keptDay.2.1 38 = some (.iload_n 2) := by decide +kernel
theorem f_Md_keptDay_39 : fch r_Md_keptDay.2.1 39 = some (.iaload) := by decide +kernel
theorem f_Md_keptDay_40 : fch r_Md_keptDay.2.1 40 = some (.iconst 2) := by decide +kernel
theorem f_Md_keptDay_41 : fch r_Md_keptDay.2.1 41 = some (.if_icmp .ne 26) := by decide +kernel
theorem f_Md_keptDay_44 : fch r_Md_keptDay.2.1 44 = some (.aload_n 0) := by decide +kernel
theorem f_Md_keptDay_45 : fch r_Md_keptDay.2.1 45 = some (.getfield 138) := by decide +kernel
theorem f_Md_keptDay_48 : fch r_Md_keptDay.2.1 48 = some (.iload_n 2) := by decide +kernel
theorem f_Md_keptDay_49 : fch r_Md_keptDay.2.1 49 = some (.iaload) := by decide +kernel
theorem f_Md_keptDay_50 : fch r_Md_keptDay.2.1 50 = some (.bipush (-2)) := by decide +kernel
theorem f_Md_keptDay_52 : fch r_Md_keptDay.2.1 52 = some (.if_icmp .ne 8) := by decide +kernel
theorem f_Md_keptDay_55 : fch r_Md_keptDay.2.1 55 = some (.bipush (-4)) := by decide +kernel
theorem f_Md_keptDay_57 : fch r_Md_keptDay.2.1 57 = some (.goto 9) := by decide +kernel
theorem f_Md_keptDay_60 : fch r_Md_keptDay.2.1 60 = some (.aload_n 0) := by decide +kernel
theorem f_Md_keptDay_61 : fch r_Md_keptDay.2.1 61 = some (.getfield 138) := by decide +kernel
theorem f_Md_keptDay_64 : fch r_Md_keptDay.2.1 64 = some (.iload_n 2) := by decide +kernel
theorem f_Md_keptDay_65 : fch r_Md_keptDay.2.1 65 = some (.iaload) := by decide +kernel
theorem f_Md_keptDay_66 : fch r_Md_keptDay.2.1 66 = some (.ireturn) := by decide +kernel
theorem f_Md_keptDay_67 : fch r_Md_keptDay.2.1 67 = some (.aload_n 0) := by decide +kernel
theorem f_Md_keptDay_68 : fch r_Md_keptDay.2.1 68 = some (.iload_n 1) := by decide +kernel
theorem f_Md_keptDay_69 : fch r_Md_keptDay.2.1 69 = some (.aload_n 0) := by decide +kernel
theorem f_Md_keptDay_70 : fch r_Md_keptDay.2.1 70 = some (.getfield 129) := by decide +kernel
theorem f_Md_keptDay_73 : fch r_Md_keptDay.2.1 73 = some (.iload_n 2) := by decide +kernel
theorem f_Md_keptDay_74 : fch r_Md_keptDay.2.1 74 = some (.iaload) := by decide +kernel
theorem f_Md_keptDay_75 : fch r_Md_keptDay.2.1 75 = some (.invokevirtual 186) := by decide +kernel
theorem f_Md_keptDay_78 : fch r_Md_keptDay.2.1 78 = some (.iconst 0) := by decide +kernel
theorem f_Md_keptDay_79 : fch r_Md_keptDay.2.1 79 = some (.istore_n 3) := by decide +kernel
theorem f_Md_keptDay_80 : fch r_Md_keptDay.2.1 80 = some (.iload_n 3) := by decide +kernel
theorem f_Md_keptDay_81 : fch r_Md_keptDay.2.1 81 = some (.aload_n 0) := by decide +kernel
theorem f_Md_keptDay_82 : fch r_Md_keptDay.2.1 82 = some (.getfield 173) := by decide +kernel
theorem f_Md_keptDay_85 : fch r_Md_keptDay.2.1 85 = some (.if_icmp .ge 42) := by decide +kernel
theorem f_Md_keptDay_88 : fch r_Md_keptDay.2.1 88 = some (.aload_n 0) := by decide +kernel
theorem f_Md_keptDay_89 : fch r_Md_keptDay.2.1 89 = some (.getfield 97) := by decide +kernel
theorem f_Md_keptDay_92 : fch r_Md_keptDay.2.1 92 = some (.aload_n 0) := by decide +kernel
theorem f_Md_keptDay_93 : fch r_Md_keptDay.2.1 93 = some (.getfield 176) := by decide +kernel
theorem f_Md_keptDay_96 : fch r_Md_keptDay.2.1 96 = some (.iload_n 3) := by decide +kernel
theorem f_Md_keptDay_97 : fch r_Md_keptDay.2.1 97 = some (.iaload) := by decide +kernel
theorem f_Md_keptDay_98 : fch r_Md_keptDay.2.1 98 = some (.iaload) := by decide +kernel
theorem f_Md_keptDay_99 : fch r_Md_keptDay.2.1 99 = some (.iconst 2) := by decide +kernel
theorem f_Md_keptDay_100 : fch r_Md_keptDay.2.1 100 = some (.if_icmp .ne 21) := by decide +kernel
theorem f_Md_keptDay_103 : fch r_Md_keptDay.2.1 103 = some (.aload_n 0) := by decide +kernel
theorem f_Md_keptDay_104 : fch r_Md_keptDay.2.1 104 = some (.getfield 103) := by decide +kernel
theorem f_Md_keptDay_107 : fch r_Md_keptDay.2.1 107 = some (.aload_n 0) := by decide +kernel
theorem f_Md_keptDay_108 : fch r_Md_keptDay.2.1 108 = some (.getfield 176) := by decide +kernel
theorem f_Md_keptDay_111 : fch r_Md_keptDay.2.1 111 = some (.iload_n 3) := by decide +kernel
theorem f_Md_keptDay_112 : fch r_Md_keptDay.2.1 112 = some (.iaload) := by decide +kernel
theorem f_Md_keptDay_113 : fch r_Md_keptDay.2.1 113 = some (.iaload) := by decide +kernel
theorem f_Md_keptDay_114 : fch r_Md_keptDay.2.1 114 = some (.iload_n 2) := by decide +kernel
theorem f_Md_keptDay_115 : fch r_Md_keptDay.2.1 115 = some (.if_icmp .ne 6) := by decide +kernel
theorem f_Md_keptDay_118 : fch r_Md_keptDay.2.1 118 = some (.bipush (-2)) := by decide +kernel
theorem f_Md_keptDay_120 : fch r_Md_keptDay.2.1 120 = some (.ireturn) := by decide +kernel
theorem f_Md_keptDay_121 : fch r_Md_keptDay.2.1 121 = some (.iinc 3 1) := by decide +kernel
theorem f_Md_keptDay_124 : fch r_Md_keptDay.2.1 124 = some (.goto (-44)) := by decide +kernel
theorem f_Md_keptDay_127 : fch r_Md_keptDay.2.1 127 = some (.bipush (-3)) := by decide +kernel
theorem f_Md_keptDay_129 : fch r_Md_keptDay.2.1 129 = some (.ireturn) := by decide +kernel
theorem f_Md_tally_0 : fch r_Md_tally.2.1 0 = some (.iload_n 1) := by decide +kernel
theorem f_Md_tally_1 : fch r_Md_tally.2.1 1 = some (.invokestatic 23) := by decide +kernel
theorem f_Md_tally_4 : fch r_Md_tally.2.1 4 = some (.ifCond .eq 22) := by decide +kernel
theorem f_Md_tally_7 : fch r_Md_tally.2.1 7 = some (.iload_n 2) := by decide +kernel
theorem f_Md_tally_8 : fch r_Md_tally.2.1 8 = some (.iconst 0) := by decide +kernel
theorem f_Md_tally_9 : fch r_Md_tally.2.1 9 = some (.bipush 6) := by decide +kernel
theorem f_Md_tally_11 : fch r_Md_tally.2.1 11 = some (.invokestatic 1) := by decide +kernel
theorem f_Md_tally_14 : fch r_Md_tally.2.1 14 = some (.ifCond .eq 12) := by decide +kernel
theorem f_Md_tally_17 : fch r_Md_tally.2.1 17 = some (.iload_n 2) := by decide +kernel
theorem f_Md_tally_18 : fch r_Md_tally.2.1 18 = some (.iconst 2) := by decide +kernel
theorem f_Md_tally_19 : fch r_Md_tally.2.1 19 = some (.if_icmp .le 9) := by decide +kernel
theorem f_Md_tally_22 : fch r_Md_tally.2.1 22 = some (.iload_n 3) := by decide +kernel
theorem f_Md_tally_23 : fch r_Md_tally.2.1 23 = some (.ifCond .eq 5) := by decide +kernel
theorem f_Md_tally_26 : fch r_Md_tally.2.1 26 = some (.iconst (-1)) := by decide +kernel
theorem f_Md_tally_27 : fch r_Md_tally.2.1 27 = some (.ireturn) := by decide +kernel
theorem f_Md_tally_28 : fch r_Md_tally.2.1 28 = some (.aload_n 0) := by decide +kernel
theorem f_Md_tally_29 : fch r_Md_tally.2.1 29 = some (.iload_n 1) := by decide +kernel
theorem f_Md_tally_30 : fch r_Md_tally.2.1 30 = some (.invokevirtual 182) := by decide +kernel
theorem f_Md_tally_33 : fch r_Md_tally.2.1 33 = some (.iconst 0) := by decide +kernel
theorem f_Md_tally_34 : fch r_Md_tally.2.1 34 = some (.istore 4) := by decide +kernel
theorem f_Md_tally_36 : fch r_Md_tally.2.1 36 = some (.iconst 0) := by decide +kernel
theorem f_Md_tally_37 : fch r_Md_tally.2.1 37 = some (.istore 5) := by decide +kernel
theorem f_Md_tally_39 : fch r_Md_tally.2.1 39 = some (.iload 5) := by decide +kernel
theorem f_Md_tally_41 : fch r_Md_tally.2.1 41 = some (.iload_n 1) := by decide +kernel
theorem f_Md_tally_42 : fch r_Md_tally.2.1 42 = some (.invokestatic 15) := by decide +kernel
theorem f_Md_tally_45 : fch r_Md_tally.2.1 45 = some (.if_icmp .ge 68) := by decide +kernel
theorem f_Md_tally_48 : fch r_Md_tally.2.1 48 = some (.iload_n 2) := by decide +kernel
theorem f_Md_tally_49 : fch r_Md_tally.2.1 49 = some (.iconst 3) := by decide +kernel
theorem f_Md_tally_50 : fch r_Md_tally.2.1 50 = some (.if_icmp .ge 63) := by decide +kernel
theorem f_Md_tally_53 : fch r_Md_tally.2.1 53 = some (.iload_n 2) := by decide +kernel
theorem f_Md_tally_54 : fch r_Md_tally.2.1 54 = some (.ifCond .ne 13) := by decide +kernel
theorem f_Md_tally_57 : fch r_Md_tally.2.1 57 = some (.aload_n 0) := by decide +kernel
theorem f_Md_tally_58 : fch r_Md_tally.2.1 58 = some (.getfield 158) := by decide +kernel
theorem f_Md_tally_61 : fch r_Md_tally.2.1 61 = some (.iload 5) := by decide +kernel
theorem f_Md_tally_63 : fch r_Md_tally.2.1 63 = some (.iaload) := by decide +kernel
theorem f_Md_tally_64 : fch r_Md_tally.2.1 64 = some (.goto 25) := by decide +kernel
theorem f_Md_tally_67 : fch r_Md_tally.2.1 67 = some (.iload_n 2) := by decide +kernel
theorem f_Md_tally_68 : fch r_Md_tally.2.1 68 = some (.iconst 1) := by decide +kernel
theorem f_Md_tally_69 : fch r_Md_tally.2.1 69 = some (.if_icmp .ne 13) := by decide +kernel
theorem f_Md_tally_72 : fch r_Md_tally.2.1 72 = some (.aload_n 0) := by decide +kernel
theorem f_Md_tally_73 : fch r_Md_tally.2.1 73 = some (.getfield 164) := by decide +kernel
theorem f_Md_tally_76 : fch r_Md_tally.2.1 76 = some (.iload 5) := by decide +kernel
theorem f_Md_tally_78 : fch r_Md_tally.2.1 78 = some (.iaload) := by decide +kernel
theorem f_Md_tally_79 : fch r_Md_tally.2.1 79 = some (.goto 10) := by decide +kernel
theorem f_Md_tally_82 : fch r_Md_tally.2.1 82 = some (.aload_n 0) := by decide +kernel
theorem f_Md_tally_83 : fch r_Md_tally.2.1 83 = some (.getfield 167) := by decide +kernel
theorem f_Md_tally_86 : fch r_Md_tally.2.1 86 = some (.iload 5) := by decide +kernel
theorem f_Md_tally_88 : fch r_Md_tally.2.1 88 = some (.iaload) := by decide +kernel
theorem f_Md_tally_89 : fch r_Md_tally.2.1 89 = some (.istore 6) := by decide +kernel
theorem f_Md_tally_91 : fch r_Md_tally.2.1 91 = some (.iload 4) := by decide +kernel
theorem f_Md_tally_93 : fch r_Md_tally.2.1 93 = some (.iload 6) := by decide +kernel
theorem f_Md_tally_95 : fch r_Md_tally.2.1 95 = some (.iload_n 3) := by decide +kernel
theorem f_Md_tally_96 : fch r_Md_tally.2.1 96 = some (.if_icmp .ne 7) := by decide +kernel
theorem f_Md_tally_99 : fch r_Md_tally.2.1 99 = some (.iconst 1) := by decide +kernel
theorem f_Md_tally_100 : fch r_Md_tally.2.1 100 = some (.goto 4) := by decide +kernel
theorem f_Md_tally_103 : fch r_Md_tally.2.1 103 = some (.iconst 0) := by decide +kernel
theorem f_Md_tally_104 : fch r_Md_tally.2.1 104 = some (.iadd) := by decide +kernel
theorem f_Md_tally_105 : fch r_Md_tally.2.1 105 = some (.istore 4) := by decide +kernel
theorem f_Md_tally_107 : fch r_Md_tally.2.1 107 = some (.iinc 5 1) := by decide +kernel
theorem f_Md_tally_110 : fch r_Md_tally.2.1 110 = some (.goto (-71)) := by decide +kernel
theorem f_Md_tally_113 : fch r_Md_tally.2.1 113 = some (.iconst 0) := by decide +kernel
theorem f_Md_tally_114 : fch r_Md_tally.2.1 114 = some (.istore 5) := by decide +kernel
theorem f_Md_tally_116 : fch r_Md_tally.2.1 116 = some (.iload 5) := by decide +kernel
theorem f_Md_tally_118 : fch r_Md_tally.2.1 118 = some (.aload_n 0) := by decide +kernel
theorem f_Md_tally_119 : fch r_Md_tally.2.1 119 = some (.getfield 66) := by decide +kernel
theorem f_Md_tally_122 : fch r_Md_tally.2.1 122 = some (.if_icmp .ge 122) := by decide +kernel
theorem f_Md_tally_125 : fch r_Md_tally.2.1 125 = some (.iload_n 2) := by decide +kernel
theorem f_Md_tally_126 : fch r_Md_tally.2.1 126 = some (.iconst 2) := by decide +kernel
theorem f_Md_tally_127 : fch r_Md_tally.2.1 127 = some (.if_icmp .le 117) := by decide +kernel
theorem f_Md_tally_130 : fch r_Md_tally.2.1 130 = some (.aload_n 0) := by decide +kernel
theorem f_Md_tally_131 : fch r_Md_tally.2.1 131 = some (.iload_n 1) := by decide +kernel
theorem f_Md_tally_132 : fch r_Md_tally.2.1 132 = some (.iload 5) := by decide +kernel
theorem f_Md_tally_134 : fch r_Md_tally.2.1 134 = some (.invokevirtual 189) := by decide +kernel
theorem f_Md_tally_137 : fch r_Md_tally.2.1 137 = some (.istore 6) := by decide +kernel
theorem f_Md_tally_139 : fch r_Md_tally.2.1 139 = some (.iload_n 2) := by decide +kernel
theorem f_Md_tally_140 : fch r_Md_tally.2.1 140 = some (.iconst 3) := by decide +kernel
theorem f_Md_tally_141 : fch r_Md_tally.2.1 141 = some (.if_icmp .ne 28) := by decide +kernel
theorem f_Md_tally_144 : fch r_Md_tally.2.1 144 = some (.iload 6) := by decide +kernel
theorem f_Md_tally_146 : fch r_Md_tally.2.1 146 = some (.ifCond .lt 19) := by decide +kernel
theorem f_Md_tally_149 : fch r_Md_tally.2.1 149 = some (.iload 6) := by decide +kernel
theorem f_Md_tally_151 : fch r_Md_tally.2.1 151 = some (.aload_n 0) := by decide +kernel
theorem f_Md_tally_152 : fch r_Md_tally.2.1 152 = some (.getfield 129) := by decide +kernel
theorem f_Md_tally_155 : fch r_Md_tally.2.1 155 = some (.iload 5) := by decide +kernel
theorem f_Md_tally_157 : fch r_Md_tally.2.1 157 = some (.iaload) := by decide +kernel
theorem f_Md_tally_158 : fch r_Md_tally.2.1 158 = some (.if_icmp .eq 7) := by decide +kernel
theorem f_Md_tally_161 : fch r_Md_tally.2.1 161 = some (.iconst 1) := by decide +kernel
theorem f_Md_tally_162 : fch r_Md_tally.2.1 162 = some (.goto 59) := by decide +kernel
theorem f_Md_tally_165 : fch r_Md_tally.2.1 165 = some (.iconst 0) := by decide +kernel
theorem f_Md_tally_166 : fch r_Md_tally.2.1 166 = some (.goto 55) := by decide +kernel
theorem f_Md_tally_169 : fch r_Md_tally.2.1 169 = some (.iload_n 2) := by decide +kernel
theorem f_Md_tally_170 : fch r_Md_tally.2.1 170 = some (.iconst 4) := by decide +kernel
theorem f_Md_tally_171 : fch r_Md_tally.2.1 171 = some (.if_icmp .ne 18) := by decide +kernel
theorem f_Md_tally_174 : fch r_Md_tally.2.1 174 = some (.iload 6) := by decide +kernel
theorem f_Md_tally_176 : fch r_Md_tally.2.1 176 = some (.bipush (-4)) := by decide +kernel
theorem f_Md_tally_178 : fch r_Md_tally.2.1 178 = some (.if_icmp .ne 7) := by decide +kernel
theorem f_Md_tally_181 : fch r_Md_tally.2.1 181 = some (.iconst 1) := by decide +kernel
theorem f_Md_tally_182 : fch r_Md_tally.2.1 182 = some (.goto 39) := by decide +kernel
theorem f_Md_tally_185 : fch r_Md_tally.2.1 185 = some (.iconst 0) := by decide +kernel
theorem f_Md_tally_186 : fch r_Md_tally.2.1 186 = some (.goto 35) := by decide +kernel
theorem f_Md_tally_189 : fch r_Md_tally.2.1 189 = some (.iload_n 2) := by decide +kernel
theorem f_Md_tally_190 : fch r_Md_tally.2.1 190 = some (.iconst 5) := by decide +kernel
theorem f_Md_tally_191 : fch r_Md_tally.2.1 191 = some (.if_icmp .ne 18) := by decide +kernel
theorem f_Md_tally_194 : fch r_Md_tally.2.1 194 = some (.iload 6) := by decide +kernel
theorem f_Md_tally_196 : fch r_Md_tally.2.1 196 = some (.bipush (-2)) := by decide +kernel
theorem f_Md_tally_198 : fch r_Md_tally.2.1 198 = some (.if_icmp .ne 7) := by decide +kernel
theorem f_Md_tally_201 : fch r_Md_tally.2.1 201 = some (.iconst 1) := by decide +kernel
theorem f_Md_tally_202 : fch r_Md_tally.2.1 202 = some (.goto 19) := by decide +kernel
theorem f_Md_tally_205 : fch r_Md_tally.2.1 205 = some (.iconst 0) := by decide +kernel
theorem f_Md_tally_206 : fch r_Md_tally.2.1 206 = some (.goto 15) := by decide +kernel
theorem f_Md_tally_209 : fch r_Md_tally.2.1 209 = some (.iload 6) := by decide +kernel
theorem f_Md_tally_211 : fch r_Md_tally.2.1 211 = some (.bipush (-3)) := by decide +kernel
theorem f_Md_tally_213 : fch r_Md_tally.2.1 213 = some (.if_icmp .ne 7) := by decide +kernel
theorem f_Md_tally_216 : fch r_Md_tally.2.1 216 = some (.iconst 1) := by decide +kernel
theorem f_Md_tally_217 : fch r_Md_tally.2.1 217 = some (.goto 4) := by decide +kernel
theorem f_Md_tally_220 : fch r_Md_tally.2.1 220 = some (.iconst 0) := by decide +kernel
theorem f_Md_tally_221 : fch r_Md_tally.2.1 221 = some (.istore 7) := by decide +kernel
theorem f_Md_tally_223 : fch r_Md_tally.2.1 223 = some (.iload 4) := by decide +kernel
theorem f_Md_tally_225 : fch r_Md_tally.2.1 225 = some (.iload 7) := by decide +kernel
theorem f_Md_tally_227 : fch r_Md_tally.2.1 227 = some (.ifCond .eq 7) := by decide +kernel
theorem f_Md_tally_230 : fch r_Md_tally.2.1 230 = some (.iconst 1) := by decide +kernel
theorem f_Md_tally_231 : fch r_Md_tally.2.1 231 = some (.goto 4) := by decide +kernel
theorem f_Md_tally_234 : fch r_Md_tally.2.1 234 = some (.iconst 0) := by decide +kernel
theorem f_Md_tally_235 : fch r_Md_tally.2.1 235 = some (.iadd) := by decide +kernel
theorem f_Md_tally_236 : fch r_Md_tally.2.1 236 = some (.istore 4) := by decide +kernel
theorem f_Md_tally_238 : fch r_Md_tally.2.1 238 = some (.iinc 5 1) := by decide +kernel
theorem f_Md_tally_241 : fch r_Md_tally.2.1 241 = some (.goto (-125)) := by decide +kernel
theorem f_Md_tally_244 : fch r_Md_tally.2.1 244 = some (.iload 4) := by decide +kernel
theorem f_Md_tally_246 : fch r_Md_tally.2.1 246 = some (.ireturn) := by decide +kernel
theorem f_Md_verses_0 : fch r_Md_verses.2.1 0 = some (.iload_n 1) := by decide +kernel
theorem f_Md_verses_1 : fch r_Md_verses.2.1 1 = some (.iconst 1) := by decide +kernel
theorem f_Md_verses_2 : fch r_Md_verses.2.1 2 = some (.sipush 150) := by decide +kernel
theorem f_Md_verses_5 : fch r_Md_verses.2.1 5 = some (.invokestatic 1) := by decide +kernel
theorem f_Md_verses_8 : fch r_Md_verses.2.1 8 = some (.ifCond .eq 14) := by decide +kernel
theorem f_Md_verses_11 : fch r_Md_verses.2.1 11 = some (.iload_n 2) := by decide +kernel
theorem f_Md_verses_12 : fch r_Md_verses.2.1 12 = some (.iconst 1) := by decide +kernel
theorem f_Md_verses_13 : fch r_Md_verses.2.1 13 = some (.sipush 200) := by decide +kernel
theorem f_Md_verses_16 : fch r_Md_verses.2.1 16 = some (.invokestatic 1) := by decide +kernel
theorem f_Md_verses_19 : fch r_Md_verses.2.1 19 = some (.ifCond .ne 5) := by decide +kernel
theorem f_Md_verses_22 : fch r_Md_verses.2.1 22 = some (.iconst (-1)) := by decide +kernel
theorem f_Md_verses_23 : fch r_Md_verses.2.1 23 = some (.ireturn) := by decide +kernel
theorem f_Md_verses_24 : fch r_Md_verses.2.1 24 = some (.aload_n 0) := by decide +kernel
theorem f_Md_verses_25 : fch r_Md_verses.2.1 25 = some (.getfield 198) := by decide +kernel
theorem f_Md_verses_28 : fch r_Md_verses.2.1 28 = some (.iload_n 1) := by decide +kernel
theorem f_Md_verses_29 : fch r_Md_verses.2.1 29 = some (.iconst 1) := by decide +kernel
theorem f_Md_verses_30 : fch r_Md_verses.2.1 30 = some (.isub) := by decide +kernel
theorem f_Md_verses_31 : fch r_Md_verses.2.1 31 = some (.iaload) := by decide +kernel
theorem f_Md_verses_32 : fch r_Md_verses.2.1 32 = some (.istore_n 3) := by decide +kernel
theorem f_Md_verses_33 : fch r_Md_verses.2.1 33 = some (.aload_n 0) := by decide +kernel
theorem f_Md_verses_34 : fch r_Md_verses.2.1 34 = some (.getfield 198) := by decide +kernel
theorem f_Md_verses_37 : fch r_Md_verses.2.1 37 = some (.iload_n 1) := by decide +kernel
theorem f_Md_verses_38 : fch r_Md_verses.2.1 38 = some (.iconst 1) := by decide +kernel
theorem f_Md_verses_39 : fch r_Md_verses.2.1 39 = some (.isub) := by decide +kernel
theorem f_Md_verses_40 : fch r_Md_verses.2.1 40 = some (.iload_n 2) := by decide +kernel
theorem f_Md_verses_41 : fch r_Md_verses.2.1 41 = some (.iastore) := by decide +kernel
theorem f_Md_verses_42 : fch r_Md_verses.2.1 42 = some (.iload_n 3) := by decide +kernel
theorem f_Md_verses_43 : fch r_Md_verses.2.1 43 = some (.ireturn) := by decide +kernel
theorem f_Md_hours_0 : fch r_Md_hours.2.1 0 = some (.iload_n 1) := by decide +kernel
theorem f_Md_hours_1 : fch r_Md_hours.2.1 1 = some (.iconst 1) := by decide +kernel
theorem f_Md_hours_2 : fch r_Md_hours.2.1 2 = some (.bipush 8) := by decide +kernel
theorem f_Md_hours_4 : fch r_Md_hours.2.1 4 = some (.invokestatic 1) := by decide +kernel
theorem f_Md_hours_7 : fch r_Md_hours.2.1 7 = some (.ifCond .ne 5) := by decide +kernel
theorem f_Md_hours_10 : fch r_Md_hours.2.1 10 = some (.iconst (-1)) := by decide +kernel
theorem f_Md_hours_11 : fch r_Md_hours.2.1 11 = some (.ireturn) := by decide +kernel
theorem f_Md_hours_12 : fch r_Md_hours.2.1 12 = some (.iconst 0) := by decide +kernel
theorem f_Md_hours_13 : fch r_Md_hours.2.1 13 = some (.istore_n 2) := by decide +kernel
theorem f_Md_hours_14 : fch r_Md_hours.2.1 14 = some (.iload_n 2) := by decide +kernel
theorem f_Md_hours_15 : fch r_Md_hours.2.1 15 = some (.sipush 150) := by decide +kernel
theorem f_Md_hours_18 : fch r_Md_hours.2.1 18 = some (.if_icmp .ge 21) := by decide +kernel
theorem f_Md_hours_21 : fch r_Md_hours.2.1 21 = some (.aload_n 0) := by decide +kernel
theorem f_Md_hours_22 : fch r_Md_hours.2.1 22 = some (.getfield 201) := by decide +kernel
theorem f_Md_hours_25 : fch r_Md_hours.2.1 25 = some (.iload_n 2) := by decide +kernel
theorem f_Md_hours_26 : fch r_Md_hours.2.1 26 = some (.iaload) := by decide +kernel
theorem f_Md_hours_27 : fch r_Md_hours.2.1 27 = some (.iload_n 1) := by decide +kernel
theorem f_Md_hours_28 : fch r_Md_hours.2.1 28 = some (.if_icmp .lt 5) := by decide +kernel
theorem f_Md_hours_31 : fch r_Md_hours.2.1 31 = some (.iconst (-1)) := by decide +kernel
theorem f_Md_hours_32 : fch r_Md_hours.2.1 32 = some (.ireturn) := by decide +kernel
theorem f_Md_hours_33 : fch r_Md_hours.2.1 33 = some (.iinc 2 1) := by decide +kernel
theorem f_Md_hours_36 : fch r_Md_hours.2.1 36 = some (.goto (-22)) := by decide +kernel
theorem f_Md_hours_39 : fch r_Md_hours.2.1 39 = some (.iload_n 1) := by decide +kernel
theorem f_Md_hours_40 : fch r_Md_hours.2.1 40 = some (.istore_n 2) := by decide +kernel
theorem f_Md_hours_41 : fch r_Md_hours.2.1 41 = some (.iload_n 2) := by decide +kernel
theorem f_Md_hours_42 : fch r_Md_hours.2.1 42 = some (.bipush 8) := by decide +kernel
theorem f_Md_hours_44 : fch r_Md_hours.2.1 44 = some (.if_icmp .ge 20) := by decide +kernel
theorem f_Md_hours_47 : fch r_Md_hours.2.1 47 = some (.aload_n 0) := by decide +kernel
theorem f_Md_hours_48 : fch r_Md_hours.2.1 48 = some (.getfield 204) := by decide +kernel
theorem f_Md_hours_51 : fch r_Md_hours.2.1 51 = some (.iload_n 2) := by decide +kernel
theorem f_Md_hours_52 : fch r_Md_hours.2.1 52 = some (.iaload) := by decide +kernel
theorem f_Md_hours_53 : fch r_Md_hours.2.1 53 = some (.ifCond .le 5) := by decide +kernel
theorem f_Md_hours_56 : fch r_Md_hours.2.1 56 = some (.iconst (-1)) := by decide +kernel
theorem f_Md_hours_57 : fch r_Md_hours.2.1 57 = some (.ireturn) := by decide +kernel
theorem f_Md_hours_58 : fch r_Md_hours.2.1 58 = some (.iinc 2 1) := by decide +kernel
theorem f_Md_hours_61 : fch r_Md_hours.2.1 61 = some (.goto (-20)) := by decide +kernel
theorem f_Md_hours_64 : fch r_Md_hours.2.1 64 = some (.aload_n 0) := by decide +kernel
theorem f_Md_hours_65 : fch r_Md_hours.2.1 65 = some (.getfield 210) := by decide +kernel
theorem f_Md_hours_68 : fch r_Md_hours.2.1 68 = some (.istore_n 2) := by decide +kernel
theorem f_Md_hours_69 : fch r_Md_hours.2.1 69 = some (.aload_n 0) := by decide +kernel
theorem f_Md_hours_70 : fch r_Md_hours.2.1 70 = some (.iload_n 1) := by decide +kernel
theorem f_Md_hours_71 : fch r_Md_hours.2.1 71 = some (.putfield 210) := by decide +kernel
theorem f_Md_hours_74 : fch r_Md_hours.2.1 74 = some (.iload_n 2) := by decide +kernel
theorem f_Md_hours_75 : fch r_Md_hours.2.1 75 = some (.ireturn) := by decide +kernel
theorem f_Md_fix_0 : fch r_Md_fix.2.1 0 = some (.iload_n 1) := by decide +kernel
theorem f_Md_fix_1 : fch r_Md_fix.2.1 1 = some (.iconst 1) := by decide +kernel
theorem f_Md_fix_2 : fch r_Md_fix.2.1 2 = some (.sipush 150) := by decide +kernel
theorem f_Md_fix_5 : fch r_Md_fix.2.1 5 = some (.invokestatic 1) := by decide +kernel
theorem f_Md_fix_8 : fch r_Md_fix.2.1 8 = some (.ifCond .eq 17) := by decide +kernel
theorem f_Md_fix_11 : fch r_Md_fix.2.1 11 = some (.iload_n 2) := by decide +kernel
theorem f_Md_fix_12 : fch r_Md_fix.2.1 12 = some (.iconst (-1)) := by decide +kernel
theorem f_Md_fix_13 : fch r_Md_fix.2.1 13 = some (.aload_n 0) := by decide +kernel
theorem f_Md_fix_14 : fch r_Md_fix.2.1 14 = some (.getfield 210) := by decide +kernel
theorem f_Md_fix_17 : fch r_Md_fix.2.1 17 = some (.iconst 1) := by decide +kernel
theorem f_Md_fix_18 : fch r_Md_fix.2.1 18 = some (.isub) := by decide +kernel
theorem f_Md_fix_19 : fch r_Md_fix.2.1 19 = some (.invokestatic 1) := by decide +kernel
theorem f_Md_fix_22 : fch r_Md_fix.2.1 22 = some (.ifCond .ne 6) := by decide +kernel
theorem f_Md_fix_25 : fch r_Md_fix.2.1 25 = some (.bipush (-2)) := by decide +kernel
theorem f_Md_fix_27 : fch r_Md_fix.2.1 27 = some (.ireturn) := by decide +kernel
theorem f_Md_fix_28 : fch r_Md_fix.2.1 28 = some (.aload_n 0) := by decide +kernel
theorem f_Md_fix_29 : fch r_Md_fix.2.1 29 = some (.getfield 201) := by decide +kernel
theorem f_Md_fix_32 : fch r_Md_fix.2.1 32 = some (.iload_n 1) := by decide +kernel
theorem f_Md_fix_33 : fch r_Md_fix.2.1 33 = some (.iconst 1) := by decide +kernel
theorem f_Md_fix_34 : fch r_Md_fix.2.1 34 = some (.isub) := by decide +kernel
theorem f_Md_fix_35 : fch r_Md_fix.2.1 35 = some (.iaload) := by decide +kernel
theorem f_Md_fix_36 : fch r_Md_fix.2.1 36 = some (.istore_n 3) := by decide +kernel
theorem f_Md_fix_37 : fch r_Md_fix.2.1 37 = some (.aload_n 0) := by decide +kernel
theorem f_Md_fix_38 : fch r_Md_fix.2.1 38 = some (.getfield 201) := by decide +kernel
theorem f_Md_fix_41 : fch r_Md_fix.2.1 41 = some (.iload_n 1) := by decide +kernel
theorem f_Md_fix_42 : fch r_Md_fix.2.1 42 = some (.iconst 1) := by decide +kernel
theorem f_Md_fix_43 : fch r_Md_fix.2.1 43 = some (.isub) := by decide +kernel
theorem f_Md_fix_44 : fch r_Md_fix.2.1 44 = some (.iload_n 2) := by decide +kernel
theorem f_Md_fix_45 : fch r_Md_fix.2.1 45 = some (.iastore) := by decide +kernel
theorem f_Md_fix_46 : fch r_Md_fix.2.1 46 = some (.iload_n 3) := by decide +kernel
theorem f_Md_fix_47 : fch r_Md_fix.2.1 47 = some (.ireturn) := by decide +kernel
theorem f_Md_festal_0 : fch r_Md_festal.2.1 0 = some (.iload_n 1) := by decide +kernel
theorem f_Md_festal_1 : fch r_Md_festal.2.1 1 = some (.iconst 0) := by decide +kernel
theorem f_Md_festal_2 : fch r_Md_festal.2.1 2 = some (.aload_n 0) := by decide +kernel
theorem f_Md_festal_3 : fch r_Md_festal.2.1 3 = some (.getfield 210) := by decide +kernel
theorem f_Md_festal_6 : fch r_Md_festal.2.1 6 = some (.iconst 1) := by decide +kernel
theorem f_Md_festal_7 : fch r_Md_festal.2.1 7 = some (.isub) := by decide +kernel
theorem f_Md_festal_8 : fch r_Md_festal.2.1 8 = some (.invokestatic 1) := by decide +kernel
theorem f_Md_festal_11 : fch r_Md_festal.2.1 11 = some (.ifCond .eq 25) := by decide +kernel
theorem f_Md_festal_14 : fch r_Md_festal.2.1 14 = some (.iload_n 2) := by decide +kernel
theorem f_Md_festal_15 : fch r_Md_festal.2.1 15 = some (.iconst 1) := by decide +kernel
theorem f_Md_festal_16 : fch r_Md_festal.2.1 16 = some (.sipush 150) := by decide +kernel
theorem f_Md_festal_19 : fch r_Md_festal.2.1 19 = some (.invokestatic 1) := by decide +kernel
theorem f_Md_festal_22 : fch r_Md_festal.2.1 22 = some (.ifCond .eq 14) := by decide +kernel
theorem f_Md_festal_25 : fch r_Md_festal.2.1 25 = some (.aload_n 0) := by decide +kernel
theorem f_Md_festal_26 : fch r_Md_festal.2.1 26 = some (.getfield 204) := by decide +kernel
theorem f_Md_festal_29 : fch r_Md_festal.2.1 29 = some (.iload_n 1) := by decide +kernel
theorem f_Md_festal_30 : fch r_Md_festal.2.1 30 = some (.iaload) := by decide +kernel
theorem f_Md_festal_31 : fch r_Md_festal.2.1 31 = some (.bipush 6) := by decide +kernel
theorem f_Md_festal_33 : fch r_Md_festal.2.1 33 = some (.if_icmp .ne 5) := by decide +kernel
theorem f_Md_festal_36 : fch r_Md_festal.2.1 36 = some (.iconst (-1)) := by decide +kernel
theorem f_Md_festal_37 : fch r_Md_festal.2.1 37 = some (.ireturn) := by decide +kernel
theorem f_Md_festal_38 : fch r_Md_festal.2.1 38 = some (.aload_n 0) := by decide +kernel
theorem f_Md_festal_39 : fch r_Md_festal.2.1 39 = some (.getfield 207) := by decide +kernel
theorem f_Md_festal_42 : fch r_Md_festal.2.1 42 = some (.bipush 6) := by decide +kernel
theorem f_Md_festal_44 : fch r_Md_festal.2.1 44 = some (.iload_n 1) := by decide +kernel
theorem f_Md_festal_45 : fch r_Md_festal.2.1 45 = some (.imul) := by decide +kernel
theorem f_Md_festal_46 : fch r_Md_festal.2.1 46 = some (.aload_n 0) := by decide +kernel
theorem f_Md_festal_47 : fch r_Md_festal.2.1 47 = some (.getfield 204) := by decide +kernel
theorem f_Md_festal_50 : fch r_Md_festal.2.1 50 = some (.iload_n 1) := by decide +kernel
theorem f_Md_festal_51 : fch r_Md_festal.2.1 51 = some (.iaload) := by decide +kernel
theorem f_Md_festal_52 : fch r_Md_festal.2.1 52 = some (.iadd) := by decide +kernel
theorem f_Md_festal_53 : fch r_Md_festal.2.1 53 = some (.iload_n 2) := by decide +kernel
theorem f_Md_festal_54 : fch r_Md_festal.2.1 54 = some (.iastore) := by decide +kernel
theorem f_Md_festal_55 : fch r_Md_festal.2.1 55 = some (.aload_n 0) := by decide +kernel
theorem f_Md_festal_56 : fch r_Md_festal.2.1 56 = some (.getfield 204) := by decide +kernel
theorem f_Md_festal_59 : fch r_Md_festal.2.1 59 = some (.iload_n 1) := by decide +kernel
theorem f_Md_festal_60 : fch r_Md_festal.2.1 60 = some (.dup2) := by decide +kernel
theorem f_Md_festal_61 : fch r_Md_festal.2.1 61 = some (.iaload) := by decide +kernel
theorem f_Md_festal_62 : fch r_Md_festal.2.1 62 = some (.iconst 1) := by decide +kernel
theorem f_Md_festal_63 : fch r_Md_festal.2.1 63 = some (.iadd) := by decide +kernel
theorem f_Md_festal_64 : fch r_Md_festal.2.1 64 = some (.iastore) := by decide +kernel
theorem f_Md_festal_65 : fch r_Md_festal.2.1 65 = some (.aload_n 0) := by decide +kernel
theorem f_Md_festal_66 : fch r_Md_festal.2.1 66 = some (.getfield 204) := by decide +kernel
theorem f_Md_festal_69 : fch r_Md_festal.2.1 69 = some (.iload_n 1) := by decide +kernel
theorem f_Md_festal_70 : fch r_Md_festal.2.1 70 = some (.iaload) := by decide +kernel
theorem f_Md_festal_71 : fch r_Md_festal.2.1 71 = some (.ireturn) := by decide +kernel
theorem f_Md_limit_0 : fch r_Md_limit.2.1 0 = some (.iload_n 1) := by decide +kernel
theorem f_Md_limit_1 : fch r_Md_limit.2.1 1 = some (.iconst 1) := by decide +kernel
theorem f_Md_limit_2 : fch r_Md_limit.2.1 2 = some (.bipush 10) := by decide +kernel
theorem f_Md_limit_4 : fch r_Md_limit.2.1 4 = some (.invokestatic 1) := by decide +kernel
theorem f_Md_limit_7 : fch r_Md_limit.2.1 7 = some (.ifCond .ne 5) := by decide +kernel
theorem f_Md_limit_10 : fch r_Md_limit.2.1 10 = some (.iconst (-1)) := by decide +kernel
theorem f_Md_limit_11 : fch r_Md_limit.2.1 11 = some (.ireturn) := by decide +kernel
theorem f_Md_limit_12 : fch r_Md_limit.2.1 12 = some (.aload_n 0) := by decide +kernel
theorem f_Md_limit_13 : fch r_Md_limit.2.1 13 = some (.getfield 213) := by decide +kernel
theorem f_Md_limit_16 : fch r_Md_limit.2.1 16 = some (.istore_n 2) := by decide +kernel
theorem f_Md_limit_17 : fch r_Md_limit.2.1 17 = some (.aload_n 0) := by decide +kernel
theorem f_Md_limit_18 : fch r_Md_limit.2.1 18 = some (.iload_n 1) := by decide +kernel
theorem f_Md_limit_19 : fch r_Md_limit.2.1 19 = some (.putfield 213) := by decide +kernel
theorem f_Md_limit_22 : fch r_Md_limit.2.1 22 = some (.iload_n 2) := by decide +kernel
theorem f_Md_limit_23 : fch r_Md_limit.2.1 23 = some (.ireturn) := by decide +kernel
theorem f_Md_dealt_0 : fch r_Md_dealt.2.1 0 = some (.iload_n 3) := by decide +kernel
theorem f_Md_dealt_1 : fch r_Md_dealt.2.1 1 = some (.iconst 3) := by decide +kernel
theorem f_Md_dealt_2 : fch r_Md_dealt.2.1 2 = some (.if_icmp .ne 12) := by decide +kernel
theorem f_Md_dealt_5 : fch r_Md_dealt.2.1 5 = some (.aload_n 0) := by decide +kernel
theorem f_Md_dealt_6 : fch r_Md_dealt.2.1 6 = some (.invokevirtual 285) := by decide +kernel
theorem f_Md_dealt_9 : fch r_Md_dealt.2.1 9 = some (.aload_n 0) := by decide +kernel
theorem f_Md_dealt_10 : fch r_Md_dealt.2.1 10 = some (.getfield 282) := by decide +kernel
theorem f_Md_dealt_13 : fch r_Md_dealt.2.1 13 = some (.ireturn) := by decide +kernel
theorem f_Md_dealt_14 : fch r_Md_dealt.2.1 14 = some (.iload_n 1) := by decide +kernel
theorem f_Md_dealt_15 : fch r_Md_dealt.2.1 15 = some (.iconst 0) := by decide +kernel
theorem f_Md_dealt_16 : fch r_Md_dealt.2.1 16 = some (.bipush 6) := by decide +kernel
theorem f_Md_dealt_18 : fch r_Md_dealt.2.1 18 = some (.invokestatic 1) := by decide +kernel
theorem f_Md_dealt_21 : fch r_Md_dealt.2.1 21 = some (.ifCond .eq 26) := by decide +kernel
theorem f_Md_dealt_24 : fch r_Md_dealt.2.1 24 = some (.iload_n 2) := by decide +kernel
theorem f_Md_dealt_25 : fch r_Md_dealt.2.1 25 = some (.iconst 0) := by decide +kernel
theorem f_Md_dealt_26 : fch r_Md_dealt.2.1 26 = some (.aload_n 0) := by decide +kernel
theorem f_Md_dealt_27 : fch r_Md_dealt.2.1 27 = some (.getfield 210) := by decide +kernel
theorem f_Md_dealt_30 : fch r_Md_dealt.2.1 30 = some (.iconst 1) := by decide +kernel
theorem f_Md_dealt_31 : fch r_Md_dealt.2.1 31 = some (.isub) := by decide +kernel
theorem f_Md_dealt_32 : fch r_Md_dealt.2.1 32 = some (.invokestatic 1) := by decide +kernel
theorem f_Md_dealt_35 : fch r_Md_dealt.2.1 35 = some (.ifCond .eq 12) := by decide +kernel
theorem f_Md_dealt_38 : fch r_Md_dealt.2.1 38 = some (.iload_n 3) := by decide +kernel
theorem f_Md_dealt_39 : fch r_Md_dealt.2.1 39 = some (.iconst 0) := by decide +kernel
theorem f_Md_dealt_40 : fch r_Md_dealt.2.1 40 = some (.iconst 2) := by decide +kernel
theorem f_Md_dealt_41 : fch r_Md_dealt.2.1 41 = some (.invokestatic 1) := by decide +kernel
theorem f_Md_dealt_44 : fch r_Md_dealt.2.1 44 = some (.ifCond .ne 5) := by decide +kernel
theorem f_Md_dealt_47 : fch r_Md_dealt.2.1 47 = some (.iconst (-1)) := by decide +kernel
theorem f_Md_dealt_48 : fch r_Md_dealt.2.1 48 = some (.ireturn) := by decide +kernel
theorem f_Md_dealt_49 : fch r_Md_dealt.2.1 49 = some (.aload_n 0) := by decide +kernel
theorem f_Md_dealt_50 : fch r_Md_dealt.2.1 50 = some (.invokevirtual 285) := by decide +kernel
theorem f_Md_dealt_53 : fch r_Md_dealt.2.1 53 = some (.aload_n 0) := by decide +kernel
theorem f_Md_dealt_54 : fch r_Md_dealt.2.1 54 = some (.getfield 210) := by decide +kernel
theorem f_Md_dealt_57 : fch r_Md_dealt.2.1 57 = some (.iload_n 1) := by decide +kernel
theorem f_Md_dealt_58 : fch r_Md_dealt.2.1 58 = some (.imul) := by decide +kernel
theorem f_Md_dealt_59 : fch r_Md_dealt.2.1 59 = some (.iload_n 2) := by decide +kernel
theorem f_Md_dealt_60 : fch r_Md_dealt.2.1 60 = some (.iadd) := by decide +kernel
theorem f_Md_dealt_61 : fch r_Md_dealt.2.1 61 = some (.istore 4) := by decide +kernel
theorem f_Md_dealt_63 : fch r_Md_dealt.2.1 63 = some (.iload_n 3) := by decide +kernel
theorem f_Md_dealt_64 : fch r_Md_dealt.2.1 64 = some (.ifCond .ne 13) := by decide +kernel
theorem f_Md_dealt_67 : fch r_Md_dealt.2.1 67 = some (.aload_n 0) := by decide +kernel
theorem f_Md_dealt_68 : fch r_Md_dealt.2.1 68 = some (.getfield 216) := by decide +kernel
theorem f_Md_dealt_71 : fch r_Md_dealt.2.1 71 = some (.iload 4) := by decide +kernel
theorem f_Md_dealt_73 : fch r_Md_dealt.2.1 73 = some (.iaload) := by decide +kernel
theorem f_Md_dealt_74 : fch r_Md_dealt.2.1 74 = some (.goto 25) := by decide +kernel
theorem f_Md_dealt_77 : fch r_Md_dealt.2.1 77 = some (.iload_n 3) := by decide +kernel
theorem f_Md_dealt_78 : fch r_Md_dealt.2.1 78 = some (.iconst 1) := by decide +kernel
theorem f_Md_dealt_79 : fch r_Md_dealt.2.1 79 = some (.if_icmp .ne 13) := by decide +kernel
theorem f_Md_dealt_82 : fch r_Md_dealt.2.1 82 = some (.aload_n 0) := by decide +kernel
theorem f_Md_dealt_83 : fch r_Md_dealt.2.1 83 = some (.getfield 219) := by decide +kernel
theorem f_Md_dealt_86 : fch r_Md_dealt.2.1 86 = some (.iload 4) := by decide +kernel
theorem f_Md_dealt_88 : fch r_Md_dealt.2.1 88 = some (.iaload) := by decide +kernel
theorem f_Md_dealt_89 : fch r_Md_dealt.2.1 89 = some (.goto 10) := by decide +kernel
theorem f_Md_dealt_92 : fch r_Md_dealt.2.1 92 = some (.aload_n 0) := by decide +kernel
theorem f_Md_dealt_93 : fch r_Md_dealt.2.1 93 = some (.getfield 222) := by decide +kernel
theorem f_Md_dealt_96 : fch r_Md_dealt.2.1 96 = some (.iload 4) := by decide +kernel
theorem f_Md_dealt_98 : fch r_Md_dealt.2.1 98 = some (.iaload) := by decide +kernel
theorem f_Md_dealt_99 : fch r_Md_dealt.2.1 99 = some (.ireturn) := by decide +kernel
theorem f_Md_deal_0 : fch r_Md_deal.2.1 0 = some (.iconst 0) := by decide +kernel
theorem f_Md_deal_1 : fch r_Md_deal.2.1 1 = some (.istore_n 1) := by decide +kernel
theorem f_Md_deal_2 : fch r_Md_deal.2.1 2 = some (.sipush 30000) := by decide +kernel
theorem f_Md_deal_5 : fch r_Md_deal.2.1 5 = some (.istore_n 2) := by decide +kernel
theorem f_Md_deal_6 : fch r_Md_deal.2.1 6 = some (.iload_n 1) := by decide +kernel
theorem f_Md_deal_7 : fch r_Md_deal.2.1 7 = some (.iload_n 2) := by decide +kernel
theorem f_Md_deal_8 : fch r_Md_deal.2.1 8 = some (.if_icmp .ge 29) := by decide +kernel
theorem f_Md_deal_11 : fch r_Md_deal.2.1 11 = some (.iload_n 1) := by decide +kernel
theorem f_Md_deal_12 : fch r_Md_deal.2.1 12 = some (.iload_n 2) := by decide +kernel
theorem f_Md_deal_13 : fch r_Md_deal.2.1 13 = some (.iadd) := by decide +kernel
theorem f_Md_deal_14 : fch r_Md_deal.2.1 14 = some (.iconst 2) := by decide +kernel
theorem f_Md_deal_15 : fch r_Md_deal.2.1 15 = some (.idiv) := by decide +kernel
theorem f_Md_deal_16 : fch r_Md_deal.2.1 16 = some (.istore_n 3) := by decide +kernel
theorem f_Md_deal_17 : fch r_Md_deal.2.1 17 = some (.aload_n 0) := by decide +kernel
theorem f_Md_deal_18 : fch r_Md_deal.2.1 18 = some (.iload_n 3) := by decide +kernel
theorem f_Md_deal_19 : fch r_Md_deal.2.1 19 = some (.invokevirtual 279) := by decide +kernel
theorem f_Md_deal_22 : fch r_Md_deal.2.1 22 = some (.ifCond .eq 8) := by decide +kernel
theorem f_Md_deal_25 : fch r_Md_deal.2.1 25 = some (.iload_n 3) := by decide +kernel
theorem f_Md_deal_26 : fch r_Md_deal.2.1 26 = some (.istore_n 2) := by decide +kernel
theorem f_Md_deal_27 : fch r_Md_deal.2.1 27 = some (.goto 7) := by decide +kernel
theorem f_Md_deal_30 : fch r_Md_deal.2.1 30 = some (.iload_n 3) := by decide +kernel
theorem f_Md_deal_31 : fch r_Md_deal.2.1 31 = some (.iconst 1) := by decide +kernel
theorem f_Md_deal_32 : fch r_Md_deal.2.1 32 = some (.iadd) := by decide +kernel
theorem f_Md_deal_33 : fch r_Md_deal.2.1 33 = some (.istore_n 1) := by decide +kernel
theorem f_Md_deal_34 : fch r_Md_deal.2.1 34 = some (.goto (-28)) := by decide +kernel
theorem f_Md_deal_37 : fch r_Md_deal.2.1 37 = some (.aload_n 0) := by decide +kernel
theorem f_Md_deal_38 : fch r_Md_deal.2.1 38 = some (.iload_n 1) := by decide +kernel
theorem f_Md_deal_39 : fch r_Md_deal.2.1 39 = some (.putfield 282) := by decide +kernel
theorem f_Md_deal_42 : fch r_Md_deal.2.1 42 = some (.aload_n 0) := by decide +kernel
theorem f_Md_deal_43 : fch r_Md_deal.2.1 43 = some (.aload_n 0) := by decide +kernel
theorem f_Md_deal_44 : fch r_Md_deal.2.1 44 = some (.getfield 282) := by decide +kernel
theorem f_Md_deal_47 : fch r_Md_deal.2.1 47 = some (.invokevirtual 279) := by decide +kernel
theorem f_Md_deal_50 : fch r_Md_deal.2.1 50 = some (.pop) := by decide +kernel
theorem f_Md_deal_51 : fch r_Md_deal.2.1 51 = some (.return_) := by decide +kernel
theorem f_Md_deals_0 : fch r_Md_deals.2.1 0 = some (.bipush 7) := by decide +kernel
theorem f_Md_deals_2 : fch r_Md_deals.2.1 2 = some (.aload_n 0) := by decide +kernel
theorem f_Md_deals_3 : fch r_Md_deals.2.1 3 = some (.getfield 210) := by decide +kernel
theorem f_Md_deals_6 : fch r_Md_deals.2.1 6 = some (.imul) := by decide +kernel
theorem f_Md_deals_7 : fch r_Md_deals.2.1 7 = some (.istore_n 2) := by decide +kernel
theorem f_Md_deals_8 : fch r_Md_deals.2.1 8 = some (.iconst 0) := by decide +kernel
theorem f_Md_deals_9 : fch r_Md_deals.2.1 9 = some (.istore_n 3) := by decide +kernel
theorem f_Md_deals_10 : fch r_Md_deals.2.1 10 = some (.iload_n 3) := by decide +kernel
theorem f_Md_deals_11 : fch r_Md_deals.2.1 11 = some (.iload_n 2) := by decide +kernel
theorem f_Md_deals_12 : fch r_Md_deals.2.1 12 = some (.if_icmp .ge 30) := by decide +kernel
theorem f_Md_deals_15 : fch r_Md_deals.2.1 15 = some (.aload_n 0) := by decide +kernel
theorem f_Md_deals_16 : fch r_Md_deals.2.1 16 = some (.getfield 216) := by decide +kernel
theorem f_Md_deals_19 : fch r_Md_deals.2.1 19 = some (.iload_n 3) := by decide +kernel
theorem f_Md_deals_20 : fch r_Md_deals.2.1 20 = some (.iconst (-1)) := by decide +kernel
theorem f_Md_deals_21 : fch r_Md_deals.2.1 21 = some (.iastore) := by decide +kernel
theorem f_Md_deals_22 : fch r_Md_deals.2.1 22 = some (.aload_n 0) := by decide +kernel
theorem f_Md_deals_23 : fch r_Md_deals.2.1 23 = some (.getfield 219) := by decide +kernel
theorem f_Md_deals_26 : fch r_Md_deals.2.1 26 = some (.iload_n 3) := by decide +kernel
theorem f_Md_deals_27 : fch r_Md_deals.2.1 27 = some (.iconst 0) := by decide +kernel
theorem f_Md_deals_28 : fch r_Md_deals.2.1 28 = some (.iastore) := by decide +kernel
theorem f_Md_deals_29 : fch r_Md_deals.2.1 29 = some (.aload_n 0) := by decide +kernel
theorem f_Md_deals_30 : fch r_Md_deals.2.1 30 = some (.getfield 222) := by decide +kernel
theorem f_Md_deals_33 : fch r_Md_deals.2.1 33 = some (.iload_n 3) := by decide +kernel
theorem f_Md_deals_34 : fch r_Md_deals.2.1 34 = some (.iconst 0) := by decide +kernel
theorem f_Md_deals_35 : fch r_Md_deals.2.1 35 = some (.iastore) := by decide +kernel
theorem f_Md_deals_36 : fch r_Md_deals.2.1 36 = some (.iinc 3 1) := by decide +kernel
theorem f_Md_deals_39 : fch r_Md_deals.2.1 39 = some (.goto (-29)) := by decide +kernel
theorem f_Md_deals_42 : fch r_Md_deals.2.1 42 = some (.iconst 0) := by decide +kernel
theorem f_Md_deals_43 : fch r_Md_deals.2.1 43 = some (.istore_n 3) := by decide +kernel
theorem f_Md_deals_44 : fch r_Md_deals.2.1 44 = some (.iconst 0) := by decide +kernel
theorem f_Md_deals_45 : fch r_Md_deals.2.1 45 = some (.istore 4) := by decide +kernel
theorem f_Md_deals_47 : fch r_Md_deals.2.1 47 = some (.iload 4) := by decide +kernel
theorem f_Md_deals_49 : fch r_Md_deals.2.1 49 = some (.sipush 150) := by decide +kernel
theorem f_Md_deals_52 : fch r_Md_deals.2.1 52 = some (.if_icmp .ge 109) := by decide +kernel
theorem f_Md_deals_55 : fch r_Md_deals.2.1 55 = some (.aload_n 0) := by decide +kernel
theorem f_Md_deals_56 : fch r_Md_deals.2.1 56 = some (.getfield 201) := by decide +kernel
theorem f_Md_deals_59 : fch r_Md_deals.2.1 59 = some (.iload 4) := by decide +kernel
theorem f_Md_deals_61 : fch r_Md_deals.2.1 61 = some (.iaload) := by decide +kernel
theorem f_Md_deals_62 : fch r_Md_deals.2.1 62 = some (.iconst (-1)) := by decide +kernel
theorem f_Md_deals_63 : fch r_Md_deals.2.1 63 = some (.if_icmp .eq 6) := by decide +kernel
theorem f_Md_deals_66 : fch r_Md_deals.2.1 66 = some (.goto 89) := by decide +kernel
theorem f_Md_deals_69 : fch r_Md_deals.2.1 69 = some (.aload_n 0) := by decide +kernel
theorem f_Md_deals_70 : fch r_Md_deals.2.1 70 = some (.getfield 198) := by decide +kernel
theorem f_Md_deals_73 : fch r_Md_deals.2.1 73 = some (.iload 4) := by decide +kernel
theorem f_Md_deals_75 : fch r_Md_deals.2.1 75 = some (.iaload) := by decide +kernel
theorem f_Md_deals_76 : fch r_Md_deals.2.1 76 = some (.iload_n 1) := by decide +kernel
theorem f_Md_deals_77 : fch r_Md_deals.2.1 77 = some (.if_icmp .le 5) := by decide +kernel
theorem f_Md_deals_80 : fch r_Md_deals.2.1 80 = some (.iconst 0) := by decide +kernel
theorem f_Md_deals_81 : fch r_Md_deals.2.1 81 = some (.ireturn) := by decide +kernel
theorem f_Md_deals_82 : fch r_Md_deals.2.1 82 = some (.aload_n 0) := by decide +kernel
theorem f_Md_deals_83 : fch r_Md_deals.2.1 83 = some (.getfield 222) := by decide +kernel
theorem f_Md_deals_86 : fch r_Md_deals.2.1 86 = some (.iload_n 3) := by decide +kernel
theorem f_Md_deals_87 : fch r_Md_deals.2.1 87 = some (.iaload) := by decide +kernel
theorem f_Md_deals_88 : fch r_Md_deals.2.1 88 = some (.aload_n 0) := by decide +kernel
theorem f_Md_deals_89 : fch r_Md_deals.2.1 89 = some (.getfield 198) := by decide +kernel
theorem f_Md_deals_92 : fch r_Md_deals.2.1 92 = some (.iload 4) := by decide +kernel
theorem f_Md_deals_94 : fch r_Md_deals.2.1 94 = some (.iaload) := by decide +kernel
theorem f_Md_deals_95 : fch r_Md_deals.2.1 95 = some (.iadd) := by decide +kernel
theorem f_Md_deals_96 : fch r_Md_deals.2.1 96 = some (.iload_n 1) := by decide +kernel
theorem f_Md_deals_97 : fch r_Md_deals.2.1 97 = some (.if_icmp .le 6) := by decide +kernel
theorem f_Md_deals_100 : fch r_Md_deals.2.1 100 = some (.iinc 3 1) := by decide +kernel
theorem f_Md_deals_103 : fch r_Md_deals.2.1 103 = some (.iload_n 3) := by decide +kernel
theorem f_Md_deals_104 : fch r_Md_deals.2.1 104 = some (.iload_n 2) := by decide +kernel
theorem f_Md_deals_105 : fch r_Md_deals.2.1 105 = some (.if_icmp .ne 5) := by decide +kernel
theorem f_Md_deals_108 : fch r_Md_deals.2.1 108 = some (.iconst 0) := by decide +kernel
theorem f_Md_deals_109 : fch r_Md_deals.2.1 109 = some (.ireturn) := by decide +kernel
theorem f_Md_deals_110 : fch r_Md_deals.2.1 110 = some (.aload_n 0) := by decide +kernel
theorem f_Md_deals_111 : fch r_Md_deals.2.1 111 = some (.getfield 219) := by decide +kernel
theorem f_Md_deals_114 : fch r_Md_deals.2.1 114 = some (.iload_n 3) := by decide +kernel
theorem f_Md_deals_115 : fch r_Md_deals.2.1 115 = some (.iaload) := by decide +kernel
theorem f_Md_deals_116 : fch r_Md_deals.2.1 116 = some (.ifCond .ne 13) := by decide +kernel
theorem f_Md_deals_119 : fch r_Md_deals.2.1 119 = some (.aload_n 0) := by decide +kernel
theorem f_Md_deals_120 : fch r_Md_deals.2.1 120 = some (.getfield 216) := by decide +kernel
theorem f_Md_deals_123 : fch r_Md_deals.2.1 123 = some (.iload_n 3) := by decide +kernel
theorem f_Md_deals_124 : fch r_Md_deals.2.1 124 = some (.iload 4) := by decide +kernel
theorem f_Md_deals_126 : fch r_Md_deals.2.1 126 = some (.iconst 1) := by decide +kernel
theorem f_Md_deals_127 : fch r_Md_deals.2.1 127 = some (.iadd) := by decide +kernel
theorem f_Md_deals_128 : fch r_Md_deals.2.1 128 = some (.iastore) := by decide +kernel
theorem f_Md_deals_129 : fch r_Md_deals.2.1 129 = some (.aload_n 0) := by decide +kernel
theorem f_Md_deals_130 : fch r_Md_deals.2.1 130 = some (.getfield 219) := by decide +kernel
theorem f_Md_deals_133 : fch r_Md_deals.2.1 133 = some (.iload_n 3) := by decide +kernel
theorem f_Md_deals_134 : fch r_Md_deals.2.1 134 = some (.dup2) := by decide +kernel
theorem f_Md_deals_135 : fch r_Md_deals.2.1 135 = some (.iaload) := by decide +kernel
theorem f_Md_deals_136 : fch r_Md_deals.2.1 136 = some (.iconst 1) := by decide +kernel
theorem f_Md_deals_137 : fch r_Md_deals.2.1 137 = some (.iadd) := by decide +kernel
theorem f_Md_deals_138 : fch r_Md_deals.2.1 138 = some (.iastore) := by decide +kernel
theorem f_Md_deals_139 : fch r_Md_deals.2.1 139 = some (.aload_n 0) := by decide +kernel
theorem f_Md_deals_140 : fch r_Md_deals.2.1 140 = some (.getfield 222) := by decide +kernel
theorem f_Md_deals_143 : fch r_Md_deals.2.1 143 = some (.iload_n 3) := by decide +kernel
theorem f_Md_deals_144 : fch r_Md_deals.2.1 144 = some (.dup2) := by decide +kernel
theorem f_Md_deals_145 : fch r_Md_deals.2.1 145 = some (.iaload) := by decide +kernel
theorem f_Md_deals_146 : fch r_Md_deals.2.1 146 = some (.aload_n 0) := by decide +kernel
theorem f_Md_deals_147 : fch r_Md_deals.2.1 147 = some (.getfield 198) := by decide +kernel
theorem f_Md_deals_150 : fch r_Md_deals.2.1 150 = some (.iload 4) := by decide +kernel
theorem f_Md_deals_152 : fch r_Md_deals.2.1 152 = some (.iaload) := by decide +kernel
theorem f_Md_deals_153 : fch r_Md_deals.2.1 153 = some (.iadd) := by decide +kernel
theorem f_Md_deals_154 : fch r_Md_deals.2.1 154 = some (.iastore) := by decide +kernel
theorem f_Md_deals_155 : fch r_Md_deals.2.1 155 = some (.iinc 4 1) := by decide +kernel
theorem f_Md_deals_158 : fch r_Md_deals.2.1 158 = some (.goto (-111)) := by decide +kernel
theorem f_Md_deals_161 : fch r_Md_deals.2.1 161 = some (.iconst 1) := by decide +kernel
theorem f_Md_deals_162 : fch r_Md_deals.2.1 162 = some (.ireturn) := by decide +kernel
theorem f_Md_sung_0 : fch r_Md_sung.2.1 0 = some (.iload_n 1) := by decide +kernel
theorem f_Md_sung_1 : fch r_Md_sung.2.1 1 = some (.iload_n 2) := by decide +kernel
theorem f_Md_sung_2 : fch r_Md_sung.2.1 2 = some (.invokestatic 179) := by decide +kernel
theorem f_Md_sung_5 : fch r_Md_sung.2.1 5 = some (.ifCond .eq 17) := by decide +kernel
theorem f_Md_sung_8 : fch r_Md_sung.2.1 8 = some (.iload_n 3) := by decide +kernel
theorem f_Md_sung_9 : fch r_Md_sung.2.1 9 = some (.iconst 0) := by decide +kernel
theorem f_Md_sung_10 : fch r_Md_sung.2.1 10 = some (.aload_n 0) := by decide +kernel
theorem f_Md_sung_11 : fch r_Md_sung.2.1 11 = some (.getfield 210) := by decide +kernel
theorem f_Md_sung_14 : fch r_Md_sung.2.1 14 = some (.iconst 1) := by decide +kernel
theorem f_Md_sung_15 : fch r_Md_sung.2.1 15 = some (.isub) := by decide +kernel
theorem f_Md_sung_16 : fch r_Md_sung.2.1 16 = some (.invokestatic 1) := by decide +kernel
theorem f_Md_sung_19 : fch r_Md_sung.2.1 19 = some (.ifCond .ne 5) := by decide +kernel
theorem f_Md_sung_22 : fch r_Md_sung.2.1 22 = some (.iconst (-1)) := by decide +kernel
theorem f_Md_sung_23 : fch r_Md_sung.2.1 23 = some (.ireturn) := by decide +kernel
theorem f_Md_sung_24 : fch r_Md_sung.2.1 24 = some (.aload_n 0) := by decide +kernel
theorem f_Md_sung_25 : fch r_Md_sung.2.1 25 = some (.iload_n 1) := by decide +kernel
theorem f_Md_sung_26 : fch r_Md_sung.2.1 26 = some (.invokevirtual 182) := by decide +kernel
theorem f_Md_sung_29 : fch r_Md_sung.2.1 29 = some (.aload_n 0) := by decide +kernel
theorem f_Md_sung_30 : fch r_Md_sung.2.1 30 = some (.invokevirtual 285) := by decide +kernel
theorem f_Md_sung_33 : fch r_Md_sung.2.1 33 = some (.aload_n 0) := by decide +kernel
theorem f_Md_sung_34 : fch r_Md_sung.2.1 34 = some (.iload_n 2) := by decide +kernel
theorem f_Md_sung_35 : fch r_Md_sung.2.1 35 = some (.iload_n 3) := by decide +kernel
theorem f_Md_sung_36 : fch r_Md_sung.2.1 36 = some (.invokevirtual 294) := by decide +kernel
theorem f_Md_sung_39 : fch r_Md_sung.2.1 39 = some (.iload 4) := by decide +kernel
theorem f_Md_sung_41 : fch r_Md_sung.2.1 41 = some (.iconst 0) := by decide +kernel
theorem f_Md_sung_42 : fch r_Md_sung.2.1 42 = some (.aload_n 0) := by decide +kernel
theorem f_Md_sung_43 : fch r_Md_sung.2.1 43 = some (.getfield 288) := by decide +kernel
theorem f_Md_sung_46 : fch r_Md_sung.2.1 46 = some (.iconst 1) := by decide +kernel
theorem f_Md_sung_47 : fch r_Md_sung.2.1 47 = some (.isub) := by decide +kernel
theorem f_Md_sung_48 : fch r_Md_sung.2.1 48 = some (.invokestatic 1) := by decide +kernel
theorem f_Md_sung_51 : fch r_Md_sung.2.1 51 = some (.ifCond .eq 13) := by decide +kernel
theorem f_Md_sung_54 : fch r_Md_sung.2.1 54 = some (.aload_n 0) := by decide +kernel
theorem f_Md_sung_55 : fch r_Md_sung.2.1 55 = some (.getfield 225) := by decide +kernel
theorem f_Md_sung_58 : fch r_Md_sung.2.1 58 = some (.iload 4) := by decide +kernel
theorem f_Md_sung_60 : fch r_Md_sung.2.1 60 = some (.iaload) := by decide +kernel
theorem f_Md_sung_61 : fch r_Md_sung.2.1 61 = some (.goto 4) := by decide +kernel
theorem f_Md_sung_64 : fch r_Md_sung.2.1 64 = some (.iconst (-1)) := by decide +kernel
theorem f_Md_sung_65 : fch r_Md_sung.2.1 65 = some (.ireturn) := by decide +kernel
theorem f_Md_sings_0 : fch r_Md_sings.2.1 0 = some (.aload_n 0) := by decide +kernel
theorem f_Md_sings_1 : fch r_Md_sings.2.1 1 = some (.iconst 0) := by decide +kernel
theorem f_Md_sings_2 : fch r_Md_sings.2.1 2 = some (.putfield 288) := by decide +kernel
theorem f_Md_sings_5 : fch r_Md_sings.2.1 5 = some (.aload_n 0) := by decide +kernel
theorem f_Md_sings_6 : fch r_Md_sings.2.1 6 = some (.getfield 164) := by decide +kernel
theorem f_Md_sings_9 : fch r_Md_sings.2.1 9 = some (.iload_n 1) := by decide +kernel
theorem f_Md_sings_10 : fch r_Md_sings.2.1 10 = some (.iaload) := by decide +kernel
theorem f_Md_sings_11 : fch r_Md_sings.2.1 11 = some (.aload_n 0) := by decide +kernel
theorem f_Md_sings_12 : fch r_Md_sings.2.1 12 = some (.getfield 213) := by decide +kernel
theorem f_Md_sings_15 : fch r_Md_sings.2.1 15 = some (.if_icmp .lt 48) := by decide +kernel
theorem f_Md_sings_18 : fch r_Md_sings.2.1 18 = some (.aload_n 0) := by decide +kernel
theorem f_Md_sings_19 : fch r_Md_sings.2.1 19 = some (.getfield 204) := by decide +kernel
theorem f_Md_sings_22 : fch r_Md_sings.2.1 22 = some (.iload_n 2) := by decide +kernel
theorem f_Md_sings_23 : fch r_Md_sings.2.1 23 = some (.iaload) := by decide +kernel
theorem f_Md_sings_24 : fch r_Md_sings.2.1 24 = some (.ifCond .le 39) := by decide +kernel
theorem f_Md_sings_27 : fch r_Md_sings.2.1 27 = some (.iconst 0) := by decide +kernel
theorem f_Md_sings_28 : fch r_Md_sings.2.1 28 = some (.istore_n 3) := by decide +kernel
theorem f_Md_sings_29 : fch r_Md_sings.2.1 29 = some (.iload_n 3) := by decide +kernel
theorem f_Md_sings_30 : fch r_Md_sings.2.1 30 = some (.aload_n 0) := by decide +kernel
theorem f_Md_sings_31 : fch r_Md_sings.2.1 31 = some (.getfield 204) := by decide +kernel
theorem f_Md_sings_34 : fch r_Md_sings.2.1 34 = some (.iload_n 2) := by decide +kernel
theorem f_Md_sings_35 : fch r_Md_sings.2.1 35 = some (.iaload) := by decide +kernel
theorem f_Md_sings_36 : fch r_Md_sings.2.1 36 = some (.if_icmp .ge 24) := by decide +kernel
theorem f_Md_sings_39 : fch r_Md_sings.2.1 39 = some (.aload_n 0) := by decide +kernel
theorem f_Md_sings_40 : fch r_Md_sings.2.1 40 = some (.aload_n 0) := by decide +kernel
theorem f_Md_sings_41 : fch r_Md_sings.2.1 41 = some (.getfield 207) := by decide +kernel
theorem f_Md_sings_44 : fch r_Md_sings.2.1 44 = some (.bipush 6) := by decide +kernel
theorem f_Md_sings_46 : fch r_Md_sings.2.1 46 = some (.iload_n 2) := by decide +kernel
theorem f_Md_sings_47 : fch r_Md_sings.2.1 47 = some (.imul) := by decide +kernel
theorem f_Md_sings_48 : fch r_Md_sings.2.1 48 = some (.iload_n 3) := by decide +kernel
theorem f_Md_sings_49 : fch r_Md_sings.2.1 49 = some (.iadd) := by decide +kernel
theorem f_Md_sings_50 : fch r_Md_sings.2.1 50 = some (.iaload) := by decide +kernel
theorem f_Md_sings_51 : fch r_Md_sings.2.1 51 = some (.invokevirtual 291) := by decide +kernel
theorem f_Md_sings_54 : fch r_Md_sings.2.1 54 = some (.iinc 3 1) := by decide +kernel
theorem f_Md_sings_57 : fch r_Md_sings.2.1 57 = some (.goto (-28)) := by decide +kernel
theorem f_Md_sings_60 : fch r_Md_sings.2.1 60 = some (.goto 72) := by decide +kernel
theorem f_Md_sings_63 : fch r_Md_sings.2.1 63 = some (.aload_n 0) := by decide +kernel
theorem f_Md_sings_64 : fch r_Md_sings.2.1 64 = some (.getfield 210) := by decide +kernel
theorem f_Md_sings_67 : fch r_Md_sings.2.1 67 = some (.aload_n 0) := by decide +kernel
theorem f_Md_sings_68 : fch r_Md_sings.2.1 68 = some (.getfield 122) := by decide +kernel
theorem f_Md_sings_71 : fch r_Md_sings.2.1 71 = some (.iload_n 1) := by decide +kernel
theorem f_Md_sings_72 : fch r_Md_sings.2.1 72 = some (.iadd) := by decide +kernel
theorem f_Md_sings_73 : fch r_Md_sings.2.1 73 = some (.bipush 7) := by decide +kernel
theorem f_Md_sings_75 : fch r_Md_sings.2.1 75 = some (.irem) := by decide +kernel
theorem f_Md_sings_76 : fch r_Md_sings.2.1 76 = some (.imul) := by decide +kernel
theorem f_Md_sings_77 : fch r_Md_sings.2.1 77 = some (.iload_n 2) := by decide +kernel
theorem f_Md_sings_78 : fch r_Md_sings.2.1 78 = some (.iadd) := by decide +kernel
theorem f_Md_sings_79 : fch r_Md_sings.2.1 79 = some (.istore_n 3) := by decide +kernel
theorem f_Md_sings_80 : fch r_Md_sings.2.1 80 = some (.aload_n 0) := by decide +kernel
theorem f_Md_sings_81 : fch r_Md_sings.2.1 81 = some (.getfield 219) := by decide +kernel
theorem f_Md_sings_84 : fch r_Md_sings.2.1 84 = some (.iload_n 3) := by decide +kernel
theorem f_Md_sings_85 : fch r_Md_sings.2.1 85 = some (.iaload) := by decide +kernel
theorem f_Md_sings_86 : fch r_Md_sings.2.1 86 = some (.istore 4) := by decide +kernel
theorem f_Md_sings_88 : fch r_Md_sings.2.1 88 = some (.aload_n 0) := by decide +kernel
theorem f_Md_sings_89 : fch r_Md_sings.2.1 89 = some (.getfield 216) := by decide +kernel
theorem f_Md_sings_92 : fch r_Md_sings.2.1 92 = some (.iload_n 3) := by decide +kernel
theorem f_Md_sings_93 : fch r_Md_sings.2.1 93 = some (.iaload) := by decide +kernel
theorem f_Md_sings_94 : fch r_Md_sings.2.1 94 = some (.istore 5) := by decide +kernel
theorem f_Md_sings_96 : fch r_Md_sings.2.1 96 = some (.iload 4) := by decide +kernel
theorem f_Md_sings_98 : fch r_Md_sings.2.1 98 = some (.ifCond .le 34) := by decide +kernel
theorem f_Md_sings_101 : fch r_Md_sings.2.1 101 = some (.aload_n 0) := by decide +kernel
theorem f_Md_sings_102 : fch r_Md_sings.2.1 102 = some (.getfield 201) := by decide +kernel
theorem f_Md_sings_105 : fch r_Md_sings.2.1 105 = some (.iload 5) := by decide +kernel
theorem f_Md_sings_107 : fch r_Md_sings.2.1 107 = some (.iconst 1) := by decide +kernel
theorem f_Md_sings_108 : fch r_Md_sings.2.1 108 = some (.isub) := by decide +kernel
theorem f_Md_sings_109 : fch r_Md_sings.2.1 109 = some (.iaload) := by decide +kernel
theorem f_Md_sings_110 : fch r_Md_sings.2.1 110 = some (.iconst (-1)) := by decide +kernel
theorem f_Md_sings_111 : fch r_Md_sings.2.1 111 = some (.if_icmp .eq 6) := by decide +kernel
theorem f_Md_sings_114 : fch r_Md_sings.2.1 114 = some (.goto 12) := by decide +kernel
theorem f_Md_sings_117 : fch r_Md_sings.2.1 117 = some (.aload_n 0) := by decide +kernel
theorem f_Md_sings_118 : fch r_Md_sings.2.1 118 = some (.iload 5) := by decide +kernel
theorem f_Md_sings_120 : fch r_Md_sings.2.1 120 = some (.invokevirtual 291) := by decide +kernel
theorem f_Md_sings_123 : fch r_Md_sings.2.1 123 = some (.iinc 4 (-1)) := by decide +kernel
theorem f_Md_sings_126 : fch r_Md_sings.2.1 126 = some (.iinc 5 1) := by decide +kernel
theorem f_Md_sings_129 : fch r_Md_sings.2.1 129 = some (.goto (-33)) := by decide +kernel
theorem f_Md_sings_132 : fch r_Md_sings.2.1 132 = some (.iconst 0) := by decide +kernel
theorem f_Md_sings_133 : fch r_Md_sings.2.1 133 = some (.istore_n 3) := by decide +kernel
theorem f_Md_sings_134 : fch r_Md_sings.2.1 134 = some (.iload_n 3) := by decide +kernel
theorem f_Md_sings_135 : fch r_Md_sings.2.1 135 = some (.sipush 150) := by decide +kernel
theorem f_Md_sings_138 : fch r_Md_sings.2.1 138 = some (.if_icmp .ge 26) := by decide +kernel
theorem f_Md_sings_141 : fch r_Md_sings.2.1 141 = some (.aload_n 0) := by decide +kernel
theorem f_Md_sings_142 : fch r_Md_sings.2.1 142 = some (.getfield 201) := by decide +kernel
theorem f_Md_sings_145 : fch r_Md_sings.2.1 145 = some (.iload_n 3) := by decide +kernel
theorem f_Md_sings_146 : fch r_Md_sings.2.1 146 = some (.iaload) := by decide +kernel
theorem f_Md_sings_147 : fch r_Md_sings.2.1 147 = some (.iload_n 2) := by decide +kernel
theorem f_Md_sings_148 : fch r_Md_sings.2.1 148 = some (.if_icmp .ne 10) := by decide +kernel
theorem f_Md_sings_151 : fch r_Md_sings.2.1 151 = some (.aload_n 0) := by decide +kernel
theorem f_Md_sings_152 : fch r_Md_sings.2.1 152 = some (.iload_n 3) := by decide +kernel
theorem f_Md_sings_153 : fch r_Md_sings.2.1 153 = some (.iconst 1) := by decide +kernel
theorem f_Md_sings_154 : fch r_Md_sings.2.1 154 = some (.iadd) := by decide +kernel
theorem f_Md_sings_155 : fch r_Md_sings.2.1 155 = some (.invokevirtual 291) := by decide +kernel
theorem f_Md_sings_158 : fch r_Md_sings.2.1 158 = some (.iinc 3 1) := by decide +kernel
theorem f_Md_sings_161 : fch r_Md_sings.2.1 161 = some (.goto (-27)) := by decide +kernel
theorem f_Md_sings_164 : fch r_Md_sings.2.1 164 = some (.return_) := by decide +kernel
theorem f_Md_adds_0 : fch r_Md_adds.2.1 0 = some (.aload_n 0) := by decide +kernel
theorem f_Md_adds_1 : fch r_Md_adds.2.1 1 = some (.getfield 225) := by decide +kernel
theorem f_Md_adds_4 : fch r_Md_adds.2.1 4 = some (.aload_n 0) := by decide +kernel
theorem f_Md_adds_5 : fch r_Md_adds.2.1 5 = some (.getfield 288) := by decide +kernel
theorem f_Md_adds_8 : fch r_Md_adds.2.1 8 = some (.iload_n 1) := by decide +kernel
theorem f_Md_adds_9 : fch r_Md_adds.2.1 9 = some (.iastore) := by decide +kernel
theorem f_Md_adds_10 : fch r_Md_adds.2.1 10 = some (.aload_n 0) := by decide +kernel
theorem f_Md_adds_11 : fch r_Md_adds.2.1 11 = some (.dup) := by decide +kernel
theorem f_Md_adds_12 : fch r_Md_adds.2.1 12 = some (.getfield 288) := by decide +kernel
theorem f_Md_adds_15 : fch r_Md_adds.2.1 15 = some (.iconst 1) := by decide +kernel
theorem f_Md_adds_16 : fch r_Md_adds.2.1 16 = some (.iadd) := by decide +kernel
theorem f_Md_adds_17 : fch r_Md_adds.2.1 17 = some (.putfield 288) := by decide +kernel
theorem f_Md_adds_20 : fch r_Md_adds.2.1 20 = some (.return_) := by decide +kernel
theorem f_Md_times_0 : fch r_Md_times.2.1 0 = some (.iload_n 1) := by decide +kernel
theorem f_Md_times_1 : fch r_Md_times.2.1 1 = some (.iload_n 2) := by decide +kernel
theorem f_Md_times_2 : fch r_Md_times.2.1 2 = some (.invokestatic 179) := by decide +kernel
theorem f_Md_times_5 : fch r_Md_times.2.1 5 = some (.ifCond .eq 28) := by decide +kernel
theorem f_Md_times_8 : fch r_Md_times.2.1 8 = some (.iload_n 1) := by decide +kernel
theorem f_Md_times_9 : fch r_Md_times.2.1 9 = some (.iload_n 3) := by decide +kernel
theorem f_Md_times_10 : fch r_Md_times.2.1 10 = some (.invokestatic 179) := by decide +kernel
theorem f_Md_times_13 : fch r_Md_times.2.1 13 = some (.ifCond .eq 20) := by decide +kernel
theorem f_Md_times_16 : fch r_Md_times.2.1 16 = some (.iload_n 2) := by decide +kernel
theorem f_Md_times_17 : fch r_Md_times.2.1 17 = some (.iload_n 3) := by decide +kernel
theorem f_Md_times_18 : fch r_Md_times.2.1 18 = some (.if_icmp .gt 15) := by decide +kernel
theorem f_Md_times_21 : fch r_Md_times.2.1 21 = some (.iload 4) := by decide +kernel
theorem f_Md_times_23 : fch r_Md_times.2.1 23 = some (.iconst 1) := by decide +kernel
theorem f_Md_times_24 : fch r_Md_times.2.1 24 = some (.sipush 150) := by decide +kernel
theorem f_Md_times_27 : fch r_Md_times.2.1 27 = some (.invokestatic 1) := by decide +kernel
theorem f_Md_times_30 : fch r_Md_times.2.1 30 = some (.ifCond .ne 5) := by decide +kernel
theorem f_Md_times_33 : fch r_Md_times.2.1 33 = some (.iconst (-1)) := by decide +kernel
theorem f_Md_times_34 : fch r_Md_times.2.1 34 = some (.ireturn) := by decide +kernel
theorem f_Md_times_35 : fch r_Md_times.2.1 35 = some (.aload_n 0) := by decide +kernel
theorem f_Md_times_36 : fch r_Md_times.2.1 36 = some (.iload_n 1) := by decide +kernel
theorem f_Md_times_37 : fch r_Md_times.2.1 37 = some (.invokevirtual 182) := by decide +kernel
theorem f_Md_times_40 : fch r_Md_times.2.1 40 = some (.aload_n 0) := by decide +kernel
theorem f_Md_times_41 : fch r_Md_times.2.1 41 = some (.invokevirtual 285) := by decide +kernel
theorem f_Md_times_44 : fch r_Md_times.2.1 44 = some (.iconst 0) := by decide +kernel
theorem f_Md_times_45 : fch r_Md_times.2.1 45 = some (.istore 5) := by decide +kernel
theorem f_Md_times_47 : fch r_Md_times.2.1 47 = some (.iload_n 2) := by decide +kernel
theorem f_Md_times_48 : fch r_Md_times.2.1 48 = some (.istore 6) := by decide +kernel
theorem f_Md_times_50 : fch r_Md_times.2.1 50 = some (.iload 6) := by decide +kernel
theorem f_Md_times_52 : fch r_Md_times.2.1 52 = some (.iload_n 3) := by decide +kernel
theorem f_Md_times_53 : fch r_Md_times.2.1 53 = some (.if_icmp .gt 75) := by decide +kernel
theorem f_Md_times_56 : fch r_Md_times.2.1 56 = some (.iconst 0) := by decide +kernel
theorem f_Md_times_57 : fch r_Md_times.2.1 57 = some (.istore 7) := by decide +kernel
theorem f_Md_times_59 : fch r_Md_times.2.1 59 = some (.iload 7) := by decide +kernel
theorem f_Md_times_61 : fch r_Md_times.2.1 61 = some (.aload_n 0) := by decide +kernel
theorem f_Md_times_62 : fch r_Md_times.2.1 62 = some (.getfield 210) := by decide +kernel
theorem f_Md_times_65 : fch r_Md_times.2.1 65 = some (.if_icmp .ge 57) := by decide +kernel
theorem f_Md_times_68 : fch r_Md_times.2.1 68 = some (.aload_n 0) := by decide +kernel
theorem f_Md_times_69 : fch r_Md_times.2.1 69 = some (.iload 6) := by decide +kernel
theorem f_Md_times_71 : fch r_Md_times.2.1 71 = some (.iload 7) := by decide +kernel
theorem f_Md_times_73 : fch r_Md_times.2.1 73 = some (.invokevirtual 294) := by decide +kernel
theorem f_Md_times_76 : fch r_Md_times.2.1 76 = some (.iconst 0) := by decide +kernel
theorem f_Md_times_77 : fch r_Md_times.2.1 77 = some (.istore 8) := by decide +kernel
theorem f_Md_times_79 : fch r_Md_times.2.1 79 = some (.iload 8) := by decide +kernel
theorem f_Md_times_81 : fch r_Md_times.2.1 81 = some (.aload_n 0) := by decide +kernel
theorem f_Md_times_82 : fch r_Md_times.2.1 82 = some (.getfield 288) := by decide +kernel
theorem f_Md_times_85 : fch r_Md_times.2.1 85 = some (.if_icmp .ge 31) := by decide +kernel
theorem f_Md_times_88 : fch r_Md_times.2.1 88 = some (.iload 5) := by decide +kernel
theorem f_Md_times_90 : fch r_Md_times.2.1 90 = some (.aload_n 0) := by decide +kernel
theorem f_Md_times_91 : fch r_Md_times.2.1 91 = some (.getfield 225) := by decide +kernel
theorem f_Md_times_94 : fch r_Md_times.2.1 94 = some (.iload 8) := by decide +kernel
theorem f_Md_times_96 : fch r_Md_times.2.1 96 = some (.iaload) := by decide +kernel
theorem f_Md_times_97 : fch r_Md_times.2.1 97 = some (.iload 4) := by decide +kernel
theorem f_Md_times_99 : fch r_Md_times.2.1 99 = some (.if_icmp .ne 7) := by decide +kernel
theorem f_Md_times_102 : fch r_Md_times.2.1 102 = some (.iconst 1) := by decide +kernel
theorem f_Md_times_103 : fch r_Md_times.2.1 103 = some (.goto 4) := by decide +kernel
theorem f_Md_times_106 : fch r_Md_times.2.1 106 = some (.iconst 0) := by decide +kernel
theorem f_Md_times_107 : fch r_Md_times.2.1 107 = some (.iadd) := by decide +kernel
theorem f_Md_times_108 : fch r_Md_times.2.1 108 = some (.istore 5) := by decide +kernel
theorem f_Md_times_110 : fch r_Md_times.2.1 110 = some (.iinc 8 1) := by decide +kernel
theorem f_Md_times_113 : fch r_Md_times.2.1 113 = some (.goto (-34)) := by decide +kernel
theorem f_Md_times_116 : fch r_Md_times.2.1 116 = some (.iinc 7 1) := by decide +kernel
theorem f_Md_times_119 : fch r_Md_times.2.1 119 = some (.goto (-60)) := by decide +kernel
theorem f_Md_times_122 : fch r_Md_times.2.1 122 = some (.iinc 6 1) := by decide +kernel
theorem f_Md_times_125 : fch r_Md_times.2.1 125 = some (.goto (-75)) := by decide +kernel
theorem f_Md_times_128 : fch r_Md_times.2.1 128 = some (.iload 5) := by decide +kernel
theorem f_Md_times_130 : fch r_Md_times.2.1 130 = some (.ireturn) := by decide +kernel
theorem f_Md_tenor_0 : fch r_Md_tenor.2.1 0 = some (.iload_n 1) := by decide +kernel
theorem f_Md_tenor_1 : fch r_Md_tenor.2.1 1 = some (.iconst 0) := by decide +kernel
theorem f_Md_tenor_2 : fch r_Md_tenor.2.1 2 = some (.bipush 8) := by decide +kernel
theorem f_Md_tenor_4 : fch r_Md_tenor.2.1 4 = some (.invokestatic 1) := by decide +kernel
theorem f_Md_tenor_7 : fch r_Md_tenor.2.1 7 = some (.ifCond .eq 10) := by decide +kernel
theorem f_Md_tenor_10 : fch r_Md_tenor.2.1 10 = some (.iload_n 2) := by decide +kernel
theorem f_Md_tenor_11 : fch r_Md_tenor.2.1 11 = some (.invokestatic 297) := by decide +kernel
theorem f_Md_tenor_14 : fch r_Md_tenor.2.1 14 = some (.ifCond .ne 5) := by decide +kernel
theorem f_Md_tenor_17 : fch r_Md_tenor.2.1 17 = some (.iconst (-1)) := by decide +kernel
theorem f_Md_tenor_18 : fch r_Md_tenor.2.1 18 = some (.ireturn) := by decide +kernel
theorem f_Md_tenor_19 : fch r_Md_tenor.2.1 19 = some (.aload_n 0) := by decide +kernel
theorem f_Md_tenor_20 : fch r_Md_tenor.2.1 20 = some (.getfield 228) := by decide +kernel
theorem f_Md_tenor_23 : fch r_Md_tenor.2.1 23 = some (.iload_n 1) := by decide +kernel
theorem f_Md_tenor_24 : fch r_Md_tenor.2.1 24 = some (.iload_n 2) := by decide +kernel
theorem f_Md_tenor_25 : fch r_Md_tenor.2.1 25 = some (.iastore) := by decide +kernel
theorem f_Md_tenor_26 : fch r_Md_tenor.2.1 26 = some (.iconst 0) := by decide +kernel
theorem f_Md_tenor_27 : fch r_Md_tenor.2.1 27 = some (.ireturn) := by decide +kernel
theorem f_Md_isNote_0 : fch r_Md_isNote.2.1 0 = some (.iload_n 0) := by decide +kernel
theorem f_Md_isNote_1 : fch r_Md_isNote.2.1 1 = some (.iconst 0) := by decide +kernel
theorem f_Md_isNote_2 : fch r_Md_isNote.2.1 2 = some (.bipush 30) := by decide +kernel
theorem f_Md_isNote_4 : fch r_Md_isNote.2.1 4 = some (.invokestatic 1) := by decide +kernel
theorem f_Md_isNote_7 : fch r_Md_isNote.2.1 7 = some (.ireturn) := by decide +kernel
theorem f_Md_note_0 : fch r_Md_note.2.1 0 = some (.iload_n 1) := by decide +kernel
theorem f_Md_note_1 : fch r_Md_note.2.1 1 = some (.iconst 0) := by decide +kernel
theorem f_Md_note_2 : fch r_Md_note.2.1 2 = some (.bipush 8) := by decide +kernel
theorem f_Md_note_4 : fch r_Md_note.2.1 4 = some (.invokestatic 1) := by decide +kernel
theorem f_Md_note_7 : fch r_Md_note.2.1 7 = some (.ifCond .eq 19) := by decide +kernel
theorem f_Md_note_10 : fch r_Md_note.2.1 10 = some (.iload_n 2) := by decide +kernel
theorem f_Md_note_11 : fch r_Md_note.2.1 11 = some (.iconst 0) := by decide +kernel
theorem f_Md_note_12 : fch r_Md_note.2.1 12 = some (.iconst 2) := by decide +kernel
theorem f_Md_note_13 : fch r_Md_note.2.1 13 = some (.invokestatic 1) := by decide +kernel
theorem f_Md_note_16 : fch r_Md_note.2.1 16 = some (.ifCond .eq 10) := by decide +kernel
theorem f_Md_note_19 : fch r_Md_note.2.1 19 = some (.iload_n 3) := by decide +kernel
theorem f_Md_note_20 : fch r_Md_note.2.1 20 = some (.invokestatic 297) := by decide +kernel
theorem f_Md_note_23 : fch r_Md_note.2.1 23 = some (.ifCond .ne 5) := by decide +kernel
theorem f_Md_note_26 : fch r_Md_note.2.1 26 = some (.iconst (-1)) := by decide +kernel
theorem f_Md_note_27 : fch r_Md_note.2.1 27 = some (.ireturn) := by decide +kernel
theorem f_Md_note_28 : fch r_Md_note.2.1 28 = some (.iconst 3) := by decide +kernel
theorem f_Md_note_29 : fch r_Md_note.2.1 29 = some (.iload_n 1) := by decide +kernel
theorem f_Md_note_30 : fch r_Md_note.2.1 30 = some (.imul) := by decide +kernel
theorem f_Md_note_31 : fch r_Md_note.2.1 31 = some (.iload_n 2) := by decide +kernel
theorem f_Md_note_32 : fch r_Md_note.2.1 32 = some (.iadd) := by decide +kernel
theorem f_Md_note_33 : fch r_Md_note.2.1 33 = some (.istore 4) := by decide +kernel
theorem f_Md_note_35 : fch r_Md_note.2.1 35 = some (.aload_n 0) := by decide +kernel
theorem f_Md_note_36 : fch r_Md_note.2.1 36 = some (.getfield 231) := by decide +kernel
theorem f_Md_note_39 : fch r_Md_note.2.1 39 = some (.iload 4) := by decide +kernel
theorem f_Md_note_41 : fch r_Md_note.2.1 41 = some (.iaload) := by decide +kernel
theorem f_Md_note_42 : fch r_Md_note.2.1 42 = some (.iload_n 2) := by decide +kernel
theorem f_Md_note_43 : fch r_Md_note.2.1 43 = some (.ifCond .ne 7) := by decide +kernel
theorem f_Md_note_46 : fch r_Md_note.2.1 46 = some (.iconst 4) := by decide +kernel
theorem f_Md_note_47 : fch r_Md_note.2.1 47 = some (.goto 4) := by decide +kernel
theorem f_Md_note_50 : fch r_Md_note.2.1 50 = some (.iconst 3) := by decide +kernel
theorem f_Md_note_51 : fch r_Md_note.2.1 51 = some (.if_icmp .ne 5) := by decide +kernel
theorem f_Md_note_54 : fch r_Md_note.2.1 54 = some (.iconst (-1)) := by decide +kernel
theorem f_Md_note_55 : fch r_Md_note.2.1 55 = some (.ireturn) := by decide +kernel
theorem f_Md_note_56 : fch r_Md_note.2.1 56 = some (.aload_n 0) := by decide +kernel
theorem f_Md_note_57 : fch r_Md_note.2.1 57 = some (.getfield 234) := by decide +kernel
theorem f_Md_note_60 : fch r_Md_note.2.1 60 = some (.iconst 4) := by decide +kernel
theorem f_Md_note_61 : fch r_Md_note.2.1 61 = some (.iload 4) := by decide +kernel
theorem f_Md_note_63 : fch r_Md_note.2.1 63 = some (.imul) := by decide +kernel
theorem f_Md_note_64 : fch r_Md_note.2.1 64 = some (.aload_n 0) := by decide +kernel
theorem f_Md_note_65 : fch r_Md_note.2.1 65 = some (.getfield 231) := by decide +kernel
theorem f_Md_note_68 : fch r_Md_note.2.1 68 = some (.iload 4) := by decide +kernel
theorem f_Md_note_70 : fch r_Md_note.2.1 70 = some (.iaload) := by decide +kernel
theorem f_Md_note_71 : fch r_Md_note.2.1 71 = some (.iadd) := by decide +kernel
theorem f_Md_note_72 : fch r_Md_note.2.1 72 = some (.iload_n 3) := by decide +kernel
theorem f_Md_note_73 : fch r_Md_note.2.1 73 = some (.iastore) := by decide +kernel
theorem f_Md_note_74 : fch r_Md_note.2.1 74 = some (.aload_n 0) := by decide +kernel
theorem f_Md_note_75 : fch r_Md_note.2.1 75 = some (.getfield 231) := by decide +kernel
theorem f_Md_note_78 : fch r_Md_note.2.1 78 = some (.iload 4) := by decide +kernel
theorem f_Md_note_80 : fch r_Md_note.2.1 80 = some (.dup2) := by decide +kernel
theorem f_Md_note_81 : fch r_Md_note.2.1 81 = some (.iaload) := by decide +kernel
theorem f_Md_note_82 : fch r_Md_note.2.1 82 = some (.iconst 1) := by decide +kernel
theorem f_Md_note_83 : fch r_Md_note.2.1 83 = some (.iadd) := by decide +kernel
theorem f_Md_note_84 : fch r_Md_note.2.1 84 = some (.iastore) := by decide +kernel
theorem f_Md_note_85 : fch r_Md_note.2.1 85 = some (.aload_n 0) := by decide +kernel
theorem f_Md_note_86 : fch r_Md_note.2.1 86 = some (.getfield 231) := by decide +kernel
theorem f_Md_note_89 : fch r_Md_note.2.1 89 = some (.iload 4) := by decide +kernel
theorem f_Md_note_91 : fch r_Md_note.2.1 91 = some (.iaload) := by decide +kernel
theorem f_Md_note_92 : fch r_Md_note.2.1 92 = some (.ireturn) := by decide +kernel
theorem f_Md_accent_0 : fch r_Md_accent.2.1 0 = some (.iload_n 1) := by decide +kernel
theorem f_Md_accent_1 : fch r_Md_accent.2.1 1 = some (.iconst 0) := by decide +kernel
theorem f_Md_accent_2 : fch r_Md_accent.2.1 2 = some (.bipush 8) := by decide +kernel
theorem f_Md_accent_4 : fch r_Md_accent.2.1 4 = some (.invokestatic 1) := by decide +kernel
theorem f_Md_accent_7 : fch r_Md_accent.2.1 7 = some (.ifCond .eq 45) := by decide +kernel
theorem f_Md_accent_10 : fch r_Md_accent.2.1 10 = some (.iload_n 2) := by decide +kernel
theorem f_Md_accent_11 : fch r_Md_accent.2.1 11 = some (.iconst 0) := by decide +kernel
theorem f_Md_accent_12 : fch r_Md_accent.2.1 12 = some (.iconst 1) := by decide +kernel
theorem f_Md_accent_13 : fch r_Md_accent.2.1 13 = some (.invokestatic 1) := by decide +kernel
theorem f_Md_accent_16 : fch r_Md_accent.2.1 16 = some (.ifCond .eq 36) := by decide +kernel
theorem f_Md_accent_19 : fch r_Md_accent.2.1 19 = some (.iload_n 3) := by decide +kernel
theorem f_Md_accent_20 : fch r_Md_accent.2.1 20 = some (.iconst 0) := by decide +kernel
theorem f_Md_accent_21 : fch r_Md_accent.2.1 21 = some (.iconst 1) := by decide +kernel
theorem f_Md_accent_22 : fch r_Md_accent.2.1 22 = some (.invokestatic 1) := by decide +kernel
theorem f_Md_accent_25 : fch r_Md_accent.2.1 25 = some (.ifCond .eq 27) := by decide +kernel
theorem f_Md_accent_28 : fch r_Md_accent.2.1 28 = some (.iload 4) := by decide +kernel
theorem f_Md_accent_30 : fch r_Md_accent.2.1 30 = some (.invokestatic 297) := by decide +kernel
theorem f_Md_accent_33 : fch r_Md_accent.2.1 33 = some (.ifCond .eq 19) := by decide +kernel
theorem f_Md_accent_36 : fch r_Md_accent.2.1 36 = some (.iload 5) := by decide +kernel
theorem f_Md_accent_38 : fch r_Md_accent.2.1 38 = some (.invokestatic 297) := by decide +kernel
theorem f_Md_accent_41 : fch r_Md_accent.2.1 41 = some (.ifCond .eq 11) := by decide +kernel
theorem f_Md_accent_44 : fch r_Md_accent.2.1 44 = some (.iload 6) := by decide +kernel
theorem f_Md_accent_46 : fch r_Md_accent.2.1 46 = some (.invokestatic 297) := by decide +kernel
theorem f_Md_accent_49 : fch r_Md_accent.2.1 49 = some (.ifCond .ne 5) := by decide +kernel
theorem f_Md_accent_52 : fch r_Md_accent.2.1 52 = some (.iconst (-1)) := by decide +kernel
theorem f_Md_accent_53 : fch r_Md_accent.2.1 53 = some (.ireturn) := by decide +kernel
theorem f_Md_accent_54 : fch r_Md_accent.2.1 54 = some (.iconst 3) := by decide +kernel
theorem f_Md_accent_55 : fch r_Md_accent.2.1 55 = some (.iconst 4) := by decide +kernel
theorem f_Md_accent_56 : fch r_Md_accent.2.1 56 = some (.iload_n 1) := by decide +kernel
theorem f_Md_accent_57 : fch r_Md_accent.2.1 57 = some (.imul) := by decide +kernel
theorem f_Md_accent_58 : fch r_Md_accent.2.1 58 = some (.iconst 2) := by decide +kernel
theorem f_Md_accent_59 : fch r_Md_accent.2.1 59 = some (.iload_n 2) := by decide +kernel
theorem f_Md_accent_60 : fch r_Md_accent.2.1 60 = some (.imul) := by decide +kernel
theorem f_Md_accent_61 : fch r_Md_accent.2.1 61 = some (.iadd) := by decide +kernel
theorem f_Md_accent_62 : fch r_Md_accent.2.1 62 = some (.iload_n 3) := by decide +kernel
theorem f_Md_accent_63 : fch r_Md_accent.2.1 63 = some (.iadd) := by decide +kernel
theorem f_Md_accent_64 : fch r_Md_accent.2.1 64 = some (.imul) := by decide +kernel
theorem f_Md_accent_65 : fch r_Md_accent.2.1 65 = some (.istore 7) := by decide +kernel
theorem f_Md_accent_67 : fch r_Md_accent.2.1 67 = some (.aload_n 0) := by decide +kernel
theorem f_Md_accent_68 : fch r_Md_accent.2.1 68 = some (.getfield 240) := by decide +kernel
theorem f_Md_accent_71 : fch r_Md_accent.2.1 71 = some (.iload 7) := by decide +kernel
theorem f_Md_accent_73 : fch r_Md_accent.2.1 73 = some (.iload 4) := by decide +kernel
theorem f_Md_accent_75 : fch r_Md_accent.2.1 75 = some (.iastore) := by decide +kernel
theorem f_Md_accent_76 : fch r_Md_accent.2.1 76 = some (.aload_n 0) := by decide +kernel
theorem f_Md_accent_77 : fch r_Md_accent.2.1 77 = some (.getfield 240) := by decide +kernel
theorem f_Md_accent_80 : fch r_Md_accent.2.1 80 = some (.iload 7) := by decide +kernel
theorem f_Md_accent_82 : fch r_Md_accent.2.1 82 = some (.iconst 1) := by decide +kernel
theorem f_Md_accent_83 : fch r_Md_accent.2.1 83 = some (.iadd) := by decide +kernel
theorem f_Md_accent_84 : fch r_Md_accent.2.1 84 = some (.iload 5) := by decide +kernel
theorem f_Md_accent_86 : fch r_Md_accent.2.1 86 = some (.iastore) := by decide +kernel
theorem f_Md_accent_87 : fch r_Md_accent.2.1 87 = some (.aload_n 0) := by decide +kernel
theorem f_Md_accent_88 : fch r_Md_accent.2.1 88 = some (.getfield 240) := by decide +kernel
theorem f_Md_accent_91 : fch r_Md_accent.2.1 91 = some (.iload 7) := by decide +kernel
theorem f_Md_accent_93 : fch r_Md_accent.2.1 93 = some (.iconst 2) := by decide +kernel
theorem f_Md_accent_94 : fch r_Md_accent.2.1 94 = some (.iadd) := by decide +kernel
theorem f_Md_accent_95 : fch r_Md_accent.2.1 95 = some (.iload 6) := by decide +kernel
theorem f_Md_accent_97 : fch r_Md_accent.2.1 97 = some (.iastore) := by decide +kernel
theorem f_Md_accent_98 : fch r_Md_accent.2.1 98 = some (.iconst 0) := by decide +kernel
theorem f_Md_accent_99 : fch r_Md_accent.2.1 99 = some (.ireturn) := by decide +kernel
theorem f_Md_accents_0 : fch r_Md_accents.2.1 0 = some (.iload_n 1) := by decide +kernel
theorem f_Md_accents_1 : fch r_Md_accents.2.1 1 = some (.iconst 0) := by decide +kernel
theorem f_Md_accents_2 : fch r_Md_accents.2.1 2 = some (.bipush 8) := by decide +kernel
theorem f_Md_accents_4 : fch r_Md_accents.2.1 4 = some (.invokestatic 1) := by decide +kernel
theorem f_Md_accents_7 : fch r_Md_accents.2.1 7 = some (.ifCond .eq 21) := by decide +kernel
theorem f_Md_accents_10 : fch r_Md_accents.2.1 10 = some (.iload_n 2) := by decide +kernel
theorem f_Md_accents_11 : fch r_Md_accents.2.1 11 = some (.iconst 0) := by decide +kernel
theorem f_Md_accents_12 : fch r_Md_accents.2.1 12 = some (.iconst 1) := by decide +kernel
theorem f_Md_accents_13 : fch r_Md_accents.2.1 13 = some (.invokestatic 1) := by decide +kernel
theorem f_Md_accents_16 : fch r_Md_accents.2.1 16 = some (.ifCond .eq 12) := by decide +kernel
theorem f_Md_accents_19 : fch r_Md_accents.2.1 19 = some (.iload_n 3) := by decide +kernel
theorem f_Md_accents_20 : fch r_Md_accents.2.1 20 = some (.iconst 1) := by decide +kernel
theorem f_Md_accents_21 : fch r_Md_accents.2.1 21 = some (.iconst 2) := by decide +kernel
theorem f_Md_accents_22 : fch r_Md_accents.2.1 22 = some (.invokestatic 1) := by decide +kernel
theorem f_Md_accents_25 : fch r_Md_accents.2.1 25 = some (.ifCond .ne 5) := by decide +kernel
theorem f_Md_accents_28 : fch r_Md_accents.2.1 28 = some (.iconst (-1)) := by decide +kernel
theorem f_Md_accents_29 : fch r_Md_accents.2.1 29 = some (.ireturn) := by decide +kernel
theorem f_Md_accents_30 : fch r_Md_accents.2.1 30 = some (.aload_n 0) := by decide +kernel
theorem f_Md_accents_31 : fch r_Md_accents.2.1 31 = some (.getfield 237) := by decide +kernel
theorem f_Md_accents_34 : fch r_Md_accents.2.1 34 = some (.iconst 2) := by decide +kernel
theorem f_Md_accents_35 : fch r_Md_accents.2.1 35 = some (.iload_n 1) := by decide +kernel
theorem f_Md_accents_36 : fch r_Md_accents.2.1 36 = some (.imul) := by decide +kernel
theorem f_Md_accents_37 : fch r_Md_accents.2.1 37 = some (.iload_n 2) := by decide +kernel
theorem f_Md_accents_38 : fch r_Md_accents.2.1 38 = some (.iadd) := by decide +kernel
theorem f_Md_accents_39 : fch r_Md_accents.2.1 39 = some (.iload_n 3) := by decide +kernel
theorem f_Md_accents_40 : fch r_Md_accents.2.1 40 = some (.iconst 2) := by decide +kernel
theorem f_Md_accents_41 : fch r_Md_accents.2.1 41 = some (.if_icmp .ne 7) := by decide +kernel
theorem f_Md_accents_44 : fch r_Md_accents.2.1 44 = some (.iconst 1) := by decide +kernel
theorem f_Md_accents_45 : fch r_Md_accents.2.1 45 = some (.goto 4) := by decide +kernel
theorem f_Md_accents_48 : fch r_Md_accents.2.1 48 = some (.iconst 0) := by decide +kernel
theorem f_Md_accents_49 : fch r_Md_accents.2.1 49 = some (.bastore) := by decide +kernel
theorem f_Md_accents_50 : fch r_Md_accents.2.1 50 = some (.iconst 0) := by decide +kernel
theorem f_Md_accents_51 : fch r_Md_accents.2.1 51 = some (.ireturn) := by decide +kernel
theorem f_Md_syllable_0 : fch r_Md_syllable.2.1 0 = some (.iload_n 1) := by decide +kernel
theorem f_Md_syllable_1 : fch r_Md_syllable.2.1 1 = some (.iconst 0) := by decide +kernel
theorem f_Md_syllable_2 : fch r_Md_syllable.2.1 2 = some (.bipush 19) := by decide +kernel
theorem f_Md_syllable_4 : fch r_Md_syllable.2.1 4 = some (.invokestatic 1) := by decide +kernel
theorem f_Md_syllable_7 : fch r_Md_syllable.2.1 7 = some (.ifCond .eq 14) := by decide +kernel
theorem f_Md_syllable_10 : fch r_Md_syllable.2.1 10 = some (.aload_n 0) := by decide +kernel
theorem f_Md_syllable_11 : fch r_Md_syllable.2.1 11 = some (.getfield 243) := by decide +kernel
theorem f_Md_syllable_14 : fch r_Md_syllable.2.1 14 = some (.iload_n 1) := by decide +kernel
theorem f_Md_syllable_15 : fch r_Md_syllable.2.1 15 = some (.iaload) := by decide +kernel
theorem f_Md_syllable_16 : fch r_Md_syllable.2.1 16 = some (.bipush 60) := by decide +kernel
theorem f_Md_syllable_18 : fch r_Md_syllable.2.1 18 = some (.if_icmp .ne 5) := by decide +kernel
theorem f_Md_syllable_21 : fch r_Md_syllable.2.1 21 = some (.iconst (-1)) := by decide +kernel
theorem f_Md_syllable_22 : fch r_Md_syllable.2.1 22 = some (.ireturn) := by decide +kernel
theorem f_Md_syllable_23 : fch r_Md_syllable.2.1 23 = some (.aload_n 0) := by decide +kernel
theorem f_Md_syllable_24 : fch r_Md_syllable.2.1 24 = some (.getfield 246) := by decide +kernel
theorem f_Md_syllable_27 : fch r_Md_syllable.2.1 27 = some (.bipush 60) := by decide +kernel
theorem f_Md_syllable_29 : fch r_Md_syllable.2.1 29 = some (.iload_n 1) := by decide +kernel
theorem f_Md_syllable_30 : fch r_Md_syllable.2.1 30 = some (.imul) := by decide +kernel
theorem f_Md_syllable_31 : fch r_Md_syllable.2.1 31 = some (.aload_n 0) := by decide +kernel
theorem f_Md_syllable_32 : fch r_Md_syllable.2.1 32 = some (.getfield 243) := by decide +kernel
theorem f_Md_syllable_35 : fch r_Md_syllable.2.1 35 = some (.iload_n 1) := by decide +kernel
theorem f_Md_syllable_36 : fch r_Md_syllable.2.1 36 = some (.iaload) := by decide +kernel
theorem f_Md_syllable_37 : fch r_Md_syllable.2.1 37 = some (.iadd) := by decide +kernel
theorem f_Md_syllable_38 : fch r_Md_syllable.2.1 38 = some (.iload_n 2) := by decide +kernel
theorem f_Md_syllable_39 : fch r_Md_syllable.2.1 39 = some (.bastore) := by decide +kernel
theorem f_Md_syllable_40 : fch r_Md_syllable.2.1 40 = some (.aload_n 0) := by decide +kernel
theorem f_Md_syllable_41 : fch r_Md_syllable.2.1 41 = some (.getfield 243) := by decide +kernel
theorem f_Md_syllable_44 : fch r_Md_syllable.2.1 44 = some (.iload_n 1) := by decide +kernel
theorem f_Md_syllable_45 : fch r_Md_syllable.2.1 45 = some (.dup2) := by decide +kernel
theorem f_Md_syllable_46 : fch r_Md_syllable.2.1 46 = some (.iaload) := by decide +kernel
theorem f_Md_syllable_47 : fch r_Md_syllable.2.1 47 = some (.iconst 1) := by decide +kernel
theorem f_Md_syllable_48 : fch r_Md_syllable.2.1 48 = some (.iadd) := by decide +kernel
theorem f_Md_syllable_49 : fch r_Md_syllable.2.1 49 = some (.iastore) := by decide +kernel
theorem f_Md_syllable_50 : fch r_Md_syllable.2.1 50 = some (.aload_n 0) := by decide +kernel
theorem f_Md_syllable_51 : fch r_Md_syllable.2.1 51 = some (.getfield 243) := by decide +kernel
theorem f_Md_syllable_54 : fch r_Md_syllable.2.1 54 = some (.iload_n 1) := by decide +kernel
theorem f_Md_syllable_55 : fch r_Md_syllable.2.1 55 = some (.iaload) := by decide +kernel
theorem f_Md_syllable_56 : fch r_Md_syllable.2.1 56 = some (.ireturn) := by decide +kernel
theorem f_Md_part_0 : fch r_Md_part.2.1 0 = some (.iload_n 1) := by decide +kernel
theorem f_Md_part_1 : fch r_Md_part.2.1 1 = some (.iconst 0) := by decide +kernel
theorem f_Md_part_2 : fch r_Md_part.2.1 2 = some (.bipush 19) := by decide +kernel
theorem f_Md_part_4 : fch r_Md_part.2.1 4 = some (.invokestatic 1) := by decide +kernel
theorem f_Md_part_7 : fch r_Md_part.2.1 7 = some (.ifCond .eq 21) := by decide +kernel
theorem f_Md_part_10 : fch r_Md_part.2.1 10 = some (.aload_n 0) := by decide +kernel
theorem f_Md_part_11 : fch r_Md_part.2.1 11 = some (.getfield 243) := by decide +kernel
theorem f_Md_part_14 : fch r_Md_part.2.1 14 = some (.iload_n 1) := by decide +kernel
theorem f_Md_part_15 : fch r_Md_part.2.1 15 = some (.iaload) := by decide +kernel
theorem f_Md_part_16 : fch r_Md_part.2.1 16 = some (.ifCond .eq 12) := by decide +kernel
theorem f_Md_part_19 : fch r_Md_part.2.1 19 = some (.aload_n 0) := by decide +kernel
theorem f_Md_part_20 : fch r_Md_part.2.1 20 = some (.getfield 249) := by decide +kernel
theorem f_Md_part_23 : fch r_Md_part.2.1 23 = some (.iload_n 1) := by decide +kernel
theorem f_Md_part_24 : fch r_Md_part.2.1 24 = some (.iaload) := by decide +kernel
theorem f_Md_part_25 : fch r_Md_part.2.1 25 = some (.ifCond .le 5) := by decide +kernel
theorem f_Md_part_28 : fch r_Md_part.2.1 28 = some (.iconst (-1)) := by decide +kernel
theorem f_Md_part_29 : fch r_Md_part.2.1 29 = some (.ireturn) := by decide +kernel
theorem f_Md_part_30 : fch r_Md_part.2.1 30 = some (.aload_n 0) := by decide +kernel
theorem f_Md_part_31 : fch r_Md_part.2.1 31 = some (.getfield 249) := by decide +kernel
theorem f_Md_part_34 : fch r_Md_part.2.1 34 = some (.iload_n 1) := by decide +kernel
theorem f_Md_part_35 : fch r_Md_part.2.1 35 = some (.aload_n 0) := by decide +kernel
theorem f_Md_part_36 : fch r_Md_part.2.1 36 = some (.getfield 243) := by decide +kernel
theorem f_Md_part_39 : fch r_Md_part.2.1 39 = some (.iload_n 1) := by decide +kernel
theorem f_Md_part_40 : fch r_Md_part.2.1 40 = some (.iaload) := by decide +kernel
theorem f_Md_part_41 : fch r_Md_part.2.1 41 = some (.iastore) := by decide +kernel
theorem f_Md_part_42 : fch r_Md_part.2.1 42 = some (.aload_n 0) := by decide +kernel
theorem f_Md_part_43 : fch r_Md_part.2.1 43 = some (.getfield 249) := by decide +kernel
theorem f_Md_part_46 : fch r_Md_part.2.1 46 = some (.iload_n 1) := by decide +kernel
theorem f_Md_part_47 : fch r_Md_part.2.1 47 = some (.iaload) := by decide +kernel
theorem f_Md_part_48 : fch r_Md_part.2.1 48 = some (.ireturn) := by decide +kernel
theorem f_Md_sing_0 : fch r_Md_sing.2.1 0 = some (.iload_n 1) := by decide +kernel
theorem f_Md_sing_1 : fch r_Md_sing.2.1 1 = some (.iconst 0) := by decide +kernel
theorem f_Md_sing_2 : fch r_Md_sing.2.1 2 = some (.bipush 19) := by decide +kernel
theorem f_Md_sing_4 : fch r_Md_sing.2.1 4 = some (.invokestatic 1) := by decide +kernel
theorem f_Md_sing_7 : fch r_Md_sing.2.1 7 = some (.ifCond .eq 53) := by decide +kernel
theorem f_Md_sing_10 : fch r_Md_sing.2.1 10 = some (.iload_n 2) := by decide +kernel
theorem f_Md_sing_11 : fch r_Md_sing.2.1 11 = some (.iconst 0) := by decide +kernel
theorem f_Md_sing_12 : fch r_Md_sing.2.1 12 = some (.bipush 8) := by decide +kernel
theorem f_Md_sing_14 : fch r_Md_sing.2.1 14 = some (.invokestatic 1) := by decide +kernel
theorem f_Md_sing_17 : fch r_Md_sing.2.1 17 = some (.ifCond .eq 43) := by decide +kernel
theorem f_Md_sing_20 : fch r_Md_sing.2.1 20 = some (.iload_n 3) := by decide +kernel
theorem f_Md_sing_21 : fch r_Md_sing.2.1 21 = some (.iconst 0) := by decide +kernel
theorem f_Md_sing_22 : fch r_Md_sing.2.1 22 = some (.aload_n 0) := by decide +kernel
theorem f_Md_sing_23 : fch r_Md_sing.2.1 23 = some (.getfield 243) := by decide +kernel
theorem f_Md_sing_26 : fch r_Md_sing.2.1 26 = some (.iload_n 1) := by decide +kernel
theorem f_Md_sing_27 : fch r_Md_sing.2.1 27 = some (.iaload) := by decide +kernel
theorem f_Md_sing_28 : fch r_Md_sing.2.1 28 = some (.iconst 1) := by decide +kernel
theorem f_Md_sing_29 : fch r_Md_sing.2.1 29 = some (.isub) := by decide +kernel
theorem f_Md_sing_30 : fch r_Md_sing.2.1 30 = some (.invokestatic 1) := by decide +kernel
theorem f_Md_sing_33 : fch r_Md_sing.2.1 33 = some (.ifCond .eq 27) := by decide +kernel
theorem f_Md_sing_36 : fch r_Md_sing.2.1 36 = some (.aload_n 0) := by decide +kernel
theorem f_Md_sing_37 : fch r_Md_sing.2.1 37 = some (.getfield 249) := by decide +kernel
theorem f_Md_sing_40 : fch r_Md_sing.2.1 40 = some (.iload_n 1) := by decide +kernel
theorem f_Md_sing_41 : fch r_Md_sing.2.1 41 = some (.iaload) := by decide +kernel
theorem f_Md_sing_42 : fch r_Md_sing.2.1 42 = some (.ifCond .le 20) := by decide +kernel
theorem f_Md_sing_45 : fch r_Md_sing.2.1 45 = some (.aload_n 0) := by decide +kernel
theorem f_Md_sing_46 : fch r_Md_sing.2.1 46 = some (.getfield 249) := by decide +kernel
theorem f_Md_sing_49 : fch r_Md_sing.2.1 49 = some (.iload_n 1) := by decide +kernel
theorem f_Md_sing_50 : fch r_Md_sing.2.1 50 = some (.iaload) := by decide +kernel
theorem f_Md_sing_51 : fch r_Md_sing.2.1 51 = some (.aload_n 0) := by decide +kernel
theorem f_Md_sing_52 : fch r_Md_sing.2.1 52 = some (.getfield 243) := by decide +kernel
theorem f_Md_sing_55 : fch r_Md_sing.2.1 55 = some (.iload_n 1) := by decide +kernel
theorem f_Md_sing_56 : fch r_Md_sing.2.1 56 = some (.iaload) := by decide +kernel
theorem f_Md_sing_57 : fch r_Md_sing.2.1 57 = some (.if_icmp .ne 5) := by decide +kernel
theorem f_Md_sing_60 : fch r_Md_sing.2.1 60 = some (.iconst (-1)) := by decide +kernel
theorem f_Md_sing_61 : fch r_Md_sing.2.1 61 = some (.ireturn) := by decide +kernel
theorem f_Md_sing_62 : fch r_Md_sing.2.1 62 = some (.iload_n 3) := by decide +kernel
theorem f_Md_sing_63 : fch r_Md_sing.2.1 63 = some (.aload_n 0) := by decide +kernel
theorem f_Md_sing_64 : fch r_Md_sing.2.1 64 = some (.getfield 249) := by decide +kernel
theorem f_Md_sing_67 : fch r_Md_sing.2.1 67 = some (.iload_n 1) := by decide +kernel
theorem f_Md_sing_68 : fch r_Md_sing.2.1 68 = some (.iaload) := by decide +kernel
theorem f_Md_sing_69 : fch r_Md_sing.2.1 69 = some (.if_icmp .ge 7) := by decide +kernel
theorem f_Md_sing_72 : fch r_Md_sing.2.1 72 = some (.iconst 0) := by decide +kernel
theorem f_Md_sing_73 : fch r_Md_sing.2.1 73 = some (.goto 4) := by decide +kernel
theorem f_Md_sing_76 : fch r_Md_sing.2.1 76 = some (.iconst 1) := by decide +kernel
theorem f_Md_sing_77 : fch r_Md_sing.2.1 77 = some (.istore 4) := by decide +kernel
theorem f_Md_sing_79 : fch r_Md_sing.2.1 79 = some (.iload 4) := by decide +kernel
theorem f_Md_sing_81 : fch r_Md_sing.2.1 81 = some (.ifCond .ne 7) := by decide +kernel
theorem f_Md_sing_84 : fch r_Md_sing.2.1 84 = some (.iconst 0) := by decide +kernel
theorem f_Md_sing_85 : fch r_Md_sing.2.1 85 = some (.goto 9) := by decide +kernel
theorem f_Md_sing_88 : fch r_Md_sing.2.1 88 = some (.aload_n 0) := by decide +kernel
theorem f_Md_sing_89 : fch r_Md_sing.2.1 89 = some (.getfield 249) := by decide +kernel
theorem f_Md_sing_92 : fch r_Md_sing.2.1 92 = some (.iload_n 1) := by decide +kernel
theorem f_Md_sing_93 : fch r_Md_sing.2.1 93 = some (.iaload) := by decide +kernel
theorem f_Md_sing_94 : fch r_Md_sing.2.1 94 = some (.istore 5) := by decide +kernel
theorem f_Md_sing_96 : fch r_Md_sing.2.1 96 = some (.iload 4) := by decide +kernel
theorem f_Md_sing_98 : fch r_Md_sing.2.1 98 = some (.ifCond .ne 12) := by decide +kernel
theorem f_Md_sing_101 : fch r_Md_sing.2.1 101 = some (.aload_n 0) := by decide +kernel
theorem f_Md_sing_102 : fch r_Md_sing.2.1 102 = some (.getfield 249) := by decide +kernel
theorem f_Md_sing_105 : fch r_Md_sing.2.1 105 = some (.iload_n 1) := by decide +kernel
theorem f_Md_sing_106 : fch r_Md_sing.2.1 106 = some (.iaload) := by decide +kernel
theorem f_Md_sing_107 : fch r_Md_sing.2.1 107 = some (.goto 9) := by decide +kernel
theorem f_Md_sing_110 : fch r_Md_sing.2.1 110 = some (.aload_n 0) := by decide +kernel
theorem f_Md_sing_111 : fch r_Md_sing.2.1 111 = some (.getfield 243) := by decide +kernel
theorem f_Md_sing_114 : fch r_Md_sing.2.1 114 = some (.iload_n 1) := by decide +kernel
theorem f_Md_sing_115 : fch r_Md_sing.2.1 115 = some (.iaload) := by decide +kernel
theorem f_Md_sing_116 : fch r_Md_sing.2.1 116 = some (.iload 5) := by decide +kernel
theorem f_Md_sing_118 : fch r_Md_sing.2.1 118 = some (.isub) := by decide +kernel
theorem f_Md_sing_119 : fch r_Md_sing.2.1 119 = some (.istore 6) := by decide +kernel
theorem f_Md_sing_121 : fch r_Md_sing.2.1 121 = some (.iload_n 3) := by decide +kernel
theorem f_Md_sing_122 : fch r_Md_sing.2.1 122 = some (.iload 5) := by decide +kernel
theorem f_Md_sing_124 : fch r_Md_sing.2.1 124 = some (.isub) := by decide +kernel
theorem f_Md_sing_125 : fch r_Md_sing.2.1 125 = some (.istore 7) := by decide +kernel
theorem f_Md_sing_127 : fch r_Md_sing.2.1 127 = some (.aload_n 0) := by decide +kernel
theorem f_Md_sing_128 : fch r_Md_sing.2.1 128 = some (.iload_n 1) := by decide +kernel
theorem f_Md_sing_129 : fch r_Md_sing.2.1 129 = some (.iload 5) := by decide +kernel
theorem f_Md_sing_131 : fch r_Md_sing.2.1 131 = some (.iload 6) := by decide +kernel
theorem f_Md_sing_133 : fch r_Md_sing.2.1 133 = some (.iconst 2) := by decide +kernel
theorem f_Md_sing_134 : fch r_Md_sing.2.1 134 = some (.isub) := by decide +kernel
theorem f_Md_sing_135 : fch r_Md_sing.2.1 135 = some (.invokevirtual 300) := by decide +kernel
theorem f_Md_sing_138 : fch r_Md_sing.2.1 138 = some (.ifCond .eq 10) := by decide +kernel
theorem f_Md_sing_141 : fch r_Md_sing.2.1 141 = some (.iload 6) := by decide +kernel
theorem f_Md_sing_143 : fch r_Md_sing.2.1 143 = some (.iconst 2) := by decide +kernel
theorem f_Md_sing_144 : fch r_Md_sing.2.1 144 = some (.isub) := by decide +kernel
theorem f_Md_sing_145 : fch r_Md_sing.2.1 145 = some (.goto 29) := by decide +kernel
theorem f_Md_sing_148 : fch r_Md_sing.2.1 148 = some (.aload_n 0) := by decide +kernel
theorem f_Md_sing_149 : fch r_Md_sing.2.1 149 = some (.iload_n 1) := by decide +kernel
theorem f_Md_sing_150 : fch r_Md_sing.2.1 150 = some (.iload 5) := by decide +kernel
theorem f_Md_sing_152 : fch r_Md_sing.2.1 152 = some (.iload 6) := by decide +kernel
theorem f_Md_sing_154 : fch r_Md_sing.2.1 154 = some (.iconst 3) := by decide +kernel
theorem f_Md_sing_155 : fch r_Md_sing.2.1 155 = some (.isub) := by decide +kernel
theorem f_Md_sing_156 : fch r_Md_sing.2.1 156 = some (.invokevirtual 300) := by decide +kernel
theorem f_Md_sing_159 : fch r_Md_sing.2.1 159 = some (.ifCond .eq 10) := by decide +kernel
theorem f_Md_sing_162 : fch r_Md_sing.2.1 162 = some (.iload 6) := by decide +kernel
theorem f_Md_sing_164 : fch r_Md_sing.2.1 164 = some (.iconst 3) := by decide +kernel
theorem f_Md_sing_165 : fch r_Md_sing.2.1 165 = some (.isub) := by decide +kernel
theorem f_Md_sing_166 : fch r_Md_sing.2.1 166 = some (.goto 8) := by decide +kernel
theorem f_Md_sing_169 : fch r_Md_sing.2.1 169 = some (.iload 6) := by decide +kernel
theorem f_Md_sing_171 : fch r_Md_sing.2.1 171 = some (.invokestatic 303) := by decide +kernel
theorem f_Md_sing_174 : fch r_Md_sing.2.1 174 = some (.istore 8) := by decide +kernel
theorem f_Md_sing_176 : fch r_Md_sing.2.1 176 = some (.iload 8) := by decide +kernel
theorem f_Md_sing_178 : fch r_Md_sing.2.1 178 = some (.istore 9) := by decide +kernel
theorem f_Md_sing_180 : fch r_Md_sing.2.1 180 = some (.aload_n 0) := by decide +kernel
theorem f_Md_sing_181 : fch r_Md_sing.2.1 181 = some (.getfield 237) := by decide +kernel
theorem f_Md_sing_184 : fch r_Md_sing.2.1 184 = some (.iconst 2) := by decide +kernel
theorem f_Md_sing_185 : fch r_Md_sing.2.1 185 = some (.iload_n 2) := by decide +kernel
theorem f_Md_sing_186 : fch r_Md_sing.2.1 186 = some (.imul) := by decide +kernel
theorem f_Md_sing_187 : fch r_Md_sing.2.1 187 = some (.iload 4) := by decide +kernel
theorem f_Md_sing_189 : fch r_Md_sing.2.1 189 = some (.iadd) := by decide +kernel
theorem f_Md_sing_190 : fch r_Md_sing.2.1 190 = some (.baload) := by decide +kernel
theorem f_Md_sing_191 : fch r_Md_sing.2.1 191 = some (.ifCond .eq 57) := by decide +kernel
theorem f_Md_sing_194 : fch r_Md_sing.2.1 194 = some (.iload 8) := by decide +kernel
theorem f_Md_sing_196 : fch r_Md_sing.2.1 196 = some (.iconst 1) := by decide +kernel
theorem f_Md_sing_197 : fch r_Md_sing.2.1 197 = some (.if_icmp .le 51) := by decide +kernel
theorem f_Md_sing_200 : fch r_Md_sing.2.1 200 = some (.aload_n 0) := by decide +kernel
theorem f_Md_sing_201 : fch r_Md_sing.2.1 201 = some (.iload_n 1) := by decide +kernel
theorem f_Md_sing_202 : fch r_Md_sing.2.1 202 = some (.iload 5) := by decide +kernel
theorem f_Md_sing_204 : fch r_Md_sing.2.1 204 = some (.iload 8) := by decide +kernel
theorem f_Md_sing_206 : fch r_Md_sing.2.1 206 = some (.iconst 2) := by decide +kernel
theorem f_Md_sing_207 : fch r_Md_sing.2.1 207 = some (.isub) := by decide +kernel
theorem f_Md_sing_208 : fch r_Md_sing.2.1 208 = some (.invokevirtual 300) := by decide +kernel
theorem f_Md_sing_211 : fch r_Md_sing.2.1 211 = some (.ifCond .eq 10) := by decide +kernel
theorem f_Md_sing_214 : fch r_Md_sing.2.1 214 = some (.iload 8) := by decide +kernel
theorem f_Md_sing_216 : fch r_Md_sing.2.1 216 = some (.iconst 2) := by decide +kernel
theorem f_Md_sing_217 : fch r_Md_sing.2.1 217 = some (.isub) := by decide +kernel
theorem f_Md_sing_218 : fch r_Md_sing.2.1 218 = some (.goto 28) := by decide +kernel
theorem f_Md_sing_221 : fch r_Md_sing.2.1 221 = some (.aload_n 0) := by decide +kernel
theorem f_Md_sing_222 : fch r_Md_sing.2.1 222 = some (.iload_n 1) := by decide +kernel
theorem f_Md_sing_223 : fch r_Md_sing.2.1 223 = some (.iload 5) := by decide +kernel
theorem f_Md_sing_225 : fch r_Md_sing.2.1 225 = some (.iload 8) := by decide +kernel
theorem f_Md_sing_227 : fch r_Md_sing.2.1 227 = some (.iconst 3) := by decide +kernel
theorem f_Md_sing_228 : fch r_Md_sing.2.1 228 = some (.isub) := by decide +kernel
theorem f_Md_sing_229 : fch r_Md_sing.2.1 229 = some (.invokevirtual 300) := by decide +kernel
theorem f_Md_sing_232 : fch r_Md_sing.2.1 232 = some (.ifCond .eq 10) := by decide +kernel
theorem f_Md_sing_235 : fch r_Md_sing.2.1 235 = some (.iload 8) := by decide +kernel
theorem f_Md_sing_237 : fch r_Md_sing.2.1 237 = some (.iconst 3) := by decide +kernel
theorem f_Md_sing_238 : fch r_Md_sing.2.1 238 = some (.isub) := by decide +kernel
theorem f_Md_sing_239 : fch r_Md_sing.2.1 239 = some (.goto 7) := by decide +kernel
theorem f_Md_sing_242 : fch r_Md_sing.2.1 242 = some (.iload 8) := by decide +kernel
theorem f_Md_sing_244 : fch r_Md_sing.2.1 244 = some (.iconst 2) := by decide +kernel
theorem f_Md_sing_245 : fch r_Md_sing.2.1 245 = some (.isub) := by decide +kernel
theorem f_Md_sing_246 : fch r_Md_sing.2.1 246 = some (.istore 9) := by decide +kernel
theorem f_Md_sing_248 : fch r_Md_sing.2.1 248 = some (.iload 7) := by decide +kernel
theorem f_Md_sing_250 : fch r_Md_sing.2.1 250 = some (.iload 8) := by decide +kernel
theorem f_Md_sing_252 : fch r_Md_sing.2.1 252 = some (.if_icmp .lt 24) := by decide +kernel
theorem f_Md_sing_255 : fch r_Md_sing.2.1 255 = some (.aload_n 0) := by decide +kernel
theorem f_Md_sing_256 : fch r_Md_sing.2.1 256 = some (.iload_n 2) := by decide +kernel
theorem f_Md_sing_257 : fch r_Md_sing.2.1 257 = some (.iload 4) := by decide +kernel
theorem f_Md_sing_259 : fch r_Md_sing.2.1 259 = some (.iconst 1) := by decide +kernel
theorem f_Md_sing_260 : fch r_Md_sing.2.1 260 = some (.iload 7) := by decide +kernel
theorem f_Md_sing_262 : fch r_Md_sing.2.1 262 = some (.iload 8) := by decide +kernel
theorem f_Md_sing_264 : fch r_Md_sing.2.1 264 = some (.isub) := by decide +kernel
theorem f_Md_sing_265 : fch r_Md_sing.2.1 265 = some (.iload 6) := by decide +kernel
theorem f_Md_sing_267 : fch r_Md_sing.2.1 267 = some (.iconst 1) := by decide +kernel
theorem f_Md_sing_268 : fch r_Md_sing.2.1 268 = some (.isub) := by decide +kernel
theorem f_Md_sing_269 : fch r_Md_sing.2.1 269 = some (.iload 8) := by decide +kernel
theorem f_Md_sing_271 : fch r_Md_sing.2.1 271 = some (.isub) := by decide +kernel
theorem f_Md_sing_272 : fch r_Md_sing.2.1 272 = some (.invokevirtual 306) := by decide +kernel
theorem f_Md_sing_275 : fch r_Md_sing.2.1 275 = some (.ireturn) := by decide +kernel
theorem f_Md_sing_276 : fch r_Md_sing.2.1 276 = some (.iload 7) := by decide +kernel
theorem f_Md_sing_278 : fch r_Md_sing.2.1 278 = some (.iload 9) := by decide +kernel
theorem f_Md_sing_280 : fch r_Md_sing.2.1 280 = some (.if_icmp .lt 24) := by decide +kernel
theorem f_Md_sing_283 : fch r_Md_sing.2.1 283 = some (.aload_n 0) := by decide +kernel
theorem f_Md_sing_284 : fch r_Md_sing.2.1 284 = some (.iload_n 2) := by decide +kernel
theorem f_Md_sing_285 : fch r_Md_sing.2.1 285 = some (.iload 4) := by decide +kernel
theorem f_Md_sing_287 : fch r_Md_sing.2.1 287 = some (.iconst 0) := by decide +kernel
theorem f_Md_sing_288 : fch r_Md_sing.2.1 288 = some (.iload 7) := by decide +kernel
theorem f_Md_sing_290 : fch r_Md_sing.2.1 290 = some (.iload 9) := by decide +kernel
theorem f_Md_sing_292 : fch r_Md_sing.2.1 292 = some (.isub) := by decide +kernel
theorem f_Md_sing_293 : fch r_Md_sing.2.1 293 = some (.iload 8) := by decide +kernel
theorem f_Md_sing_295 : fch r_Md_sing.2.1 295 = some (.iload 9) := by decide +kernel
theorem f_Md_sing_297 : fch r_Md_sing.2.1 297 = some (.isub) := by decide +kernel
theorem f_Md_sing_298 : fch r_Md_sing.2.1 298 = some (.iconst 1) := by decide +kernel
theorem f_Md_sing_299 : fch r_Md_sing.2.1 299 = some (.isub) := by decide +kernel
theorem f_Md_sing_300 : fch r_Md_sing.2.1 300 = some (.invokevirtual 306) := by decide +kernel
theorem f_Md_sing_303 : fch r_Md_sing.2.1 303 = some (.ireturn) := by decide +kernel
theorem f_Md_sing_304 : fch r_Md_sing.2.1 304 = some (.iconst 3) := by decide +kernel
theorem f_Md_sing_305 : fch r_Md_sing.2.1 305 = some (.iload_n 2) := by decide +kernel
theorem f_Md_sing_306 : fch r_Md_sing.2.1 306 = some (.imul) := by decide +kernel
theorem f_Md_sing_307 : fch r_Md_sing.2.1 307 = some (.iconst 1) := by decide +kernel
theorem f_Md_sing_308 : fch r_Md_sing.2.1 308 = some (.iadd) := by decide +kernel
theorem f_Md_sing_309 : fch r_Md_sing.2.1 309 = some (.iload 4) := by decide +kernel
theorem f_Md_sing_311 : fch r_Md_sing.2.1 311 = some (.iadd) := by decide +kernel
theorem f_Md_sing_312 : fch r_Md_sing.2.1 312 = some (.istore 10) := by decide +kernel
theorem f_Md_sing_314 : fch r_Md_sing.2.1 314 = some (.aload_n 0) := by decide +kernel
theorem f_Md_sing_315 : fch r_Md_sing.2.1 315 = some (.getfield 231) := by decide +kernel
theorem f_Md_sing_318 : fch r_Md_sing.2.1 318 = some (.iload 10) := by decide +kernel
theorem f_Md_sing_320 : fch r_Md_sing.2.1 320 = some (.iaload) := by decide +kernel
theorem f_Md_sing_321 : fch r_Md_sing.2.1 321 = some (.istore 11) := by decide +kernel
theorem f_Md_sing_323 : fch r_Md_sing.2.1 323 = some (.iload 9) := by decide +kernel
theorem f_Md_sing_325 : fch r_Md_sing.2.1 325 = some (.iload 7) := by decide +kernel
theorem f_Md_sing_327 : fch r_Md_sing.2.1 327 = some (.isub) := by decide +kernel
theorem f_Md_sing_328 : fch r_Md_sing.2.1 328 = some (.iload 11) := by decide +kernel
theorem f_Md_sing_330 : fch r_Md_sing.2.1 330 = some (.if_icmp .gt 22) := by decide +kernel
theorem f_Md_sing_333 : fch r_Md_sing.2.1 333 = some (.aload_n 0) := by decide +kernel
theorem f_Md_sing_334 : fch r_Md_sing.2.1 334 = some (.getfield 234) := by decide +kernel
theorem f_Md_sing_337 : fch r_Md_sing.2.1 337 = some (.iconst 4) := by decide +kernel
theorem f_Md_sing_338 : fch r_Md_sing.2.1 338 = some (.iload 10) := by decide +kernel
theorem f_Md_sing_340 : fch r_Md_sing.2.1 340 = some (.imul) := by decide +kernel
theorem f_Md_sing_341 : fch r_Md_sing.2.1 341 = some (.iload 11) := by decide +kernel
theorem f_Md_sing_343 : fch r_Md_sing.2.1 343 = some (.iadd) := by decide +kernel
theorem f_Md_sing_344 : fch r_Md_sing.2.1 344 = some (.iload 9) := by decide +kernel
theorem f_Md_sing_346 : fch r_Md_sing.2.1 346 = some (.iload 7) := by decide +kernel
theorem f_Md_sing_348 : fch r_Md_sing.2.1 348 = some (.isub) := by decide +kernel
theorem f_Md_sing_349 : fch r_Md_sing.2.1 349 = some (.isub) := by decide +kernel
theorem f_Md_sing_350 : fch r_Md_sing.2.1 350 = some (.iaload) := by decide +kernel
theorem f_Md_sing_351 : fch r_Md_sing.2.1 351 = some (.ireturn) := by decide +kernel
theorem f_Md_sing_352 : fch r_Md_sing.2.1 352 = some (.iload 5) := by decide +kernel
theorem f_Md_sing_354 : fch r_Md_sing.2.1 354 = some (.ifCond .ne 31) := by decide +kernel
theorem f_Md_sing_357 : fch r_Md_sing.2.1 357 = some (.iload 7) := by decide +kernel
theorem f_Md_sing_359 : fch r_Md_sing.2.1 359 = some (.aload_n 0) := by decide +kernel
theorem f_Md_sing_360 : fch r_Md_sing.2.1 360 = some (.getfield 231) := by decide +kernel
theorem f_Md_sing_363 : fch r_Md_sing.2.1 363 = some (.iconst 3) := by decide +kernel
theorem f_Md_sing_364 : fch r_Md_sing.2.1 364 = some (.iload_n 2) := by decide +kernel
theorem f_Md_sing_365 : fch r_Md_sing.2.1 365 = some (.imul) := by decide +kernel
theorem f_Md_sing_366 : fch r_Md_sing.2.1 366 = some (.iaload) := by decide +kernel
theorem f_Md_sing_367 : fch r_Md_sing.2.1 367 = some (.if_icmp .ge 18) := by decide +kernel
theorem f_Md_sing_370 : fch r_Md_sing.2.1 370 = some (.aload_n 0) := by decide +kernel
theorem f_Md_sing_371 : fch r_Md_sing.2.1 371 = some (.getfield 234) := by decide +kernel
theorem f_Md_sing_374 : fch r_Md_sing.2.1 374 = some (.bipush 12) := by decide +kernel
theorem f_Md_sing_376 : fch r_Md_sing.2.1 376 = some (.iload_n 2) := by decide +kernel
theorem f_Md_sing_377 : fch r_Md_sing.2.1 377 = some (.imul) := by decide +kernel
theorem f_Md_sing_378 : fch r_Md_sing.2.1 378 = some (.iload 7) := by decide +kernel
theorem f_Md_sing_380 : fch r_Md_sing.2.1 380 = some (.iadd) := by decide +kernel
theorem f_Md_sing_381 : fch r_Md_sing.2.1 381 = some (.iaload) := by decide +kernel
theorem f_Md_sing_382 : fch r_Md_sing.2.1 382 = some (.goto 9) := by decide +kernel
theorem f_Md_sing_385 : fch r_Md_sing.2.1 385 = some (.aload_n 0) := by decide +kernel
theorem f_Md_sing_386 : fch r_Md_sing.2.1 386 = some (.getfield 228) := by decide +kernel
theorem f_Md_sing_389 : fch r_Md_sing.2.1 389 = some (.iload_n 2) := by decide +kernel
theorem f_Md_sing_390 : fch r_Md_sing.2.1 390 = some (.iaload) := by decide +kernel
theorem f_Md_sing_391 : fch r_Md_sing.2.1 391 = some (.ireturn) := by decide +kernel
theorem f_Md_isStressed_0 : fch r_Md_isStressed.2.1 0 = some (.iload_n 3) := by decide +kernel
theorem f_Md_isStressed_1 : fch r_Md_isStressed.2.1 1 = some (.ifCond .lt 23) := by decide +kernel
theorem f_Md_isStressed_4 : fch r_Md_isStressed.2.1 4 = some (.aload_n 0) := by decide +kernel
theorem f_Md_isStressed_5 : fch r_Md_isStressed.2.1 5 = some (.getfield 246) := by decide +kernel
theorem f_Md_isStressed_8 : fch r_Md_isStressed.2.1 8 = some (.bipush 60) := by decide +kernel
theorem f_Md_isStressed_10 : fch r_Md_isStressed.2.1 10 = some (.iload_n 1) := by decide +kernel
theorem f_Md_isStressed_11 : fch r_Md_isStressed.2.1 11 = some (.imul) := by decide +kernel
theorem f_Md_isStressed_12 : fch r_Md_isStressed.2.1 12 = some (.iload_n 2) := by decide +kernel
theorem f_Md_isStressed_13 : fch r_Md_isStressed.2.1 13 = some (.iadd) := by decide +kernel
theorem f_Md_isStressed_14 : fch r_Md_isStressed.2.1 14 = some (.iload_n 3) := by decide +kernel
theorem f_Md_isStressed_15 : fch r_Md_isStressed.2.1 15 = some (.iadd) := by decide +kernel
theorem f_Md_isStressed_16 : fch r_Md_isStressed.2.1 16 = some (.baload) := by decide +kernel
theorem f_Md_isStressed_17 : fch r_Md_isStressed.2.1 17 = some (.ifCond .eq 7) := by decide +kernel
theorem f_Md_isStressed_20 : fch r_Md_isStressed.2.1 20 = some (.iconst 1) := by decide +kernel
theorem f_Md_isStressed_21 : fch r_Md_isStressed.2.1 21 = some (.goto 4) := by decide +kernel
theorem f_Md_isStressed_24 : fch r_Md_isStressed.2.1 24 = some (.iconst 0) := by decide +kernel
theorem f_Md_isStressed_25 : fch r_Md_isStressed.2.1 25 = some (.ireturn) := by decide +kernel
theorem f_Md_lastBut_0 : fch r_Md_lastBut.2.1 0 = some (.iload_n 0) := by decide +kernel
theorem f_Md_lastBut_1 : fch r_Md_lastBut.2.1 1 = some (.iconst 2) := by decide +kernel
theorem f_Md_lastBut_2 : fch r_Md_lastBut.2.1 2 = some (.if_icmp .le 9) := by decide +kernel
theorem f_Md_lastBut_5 : fch r_Md_lastBut.2.1 5 = some (.iload_n 0) := by decide +kernel
theorem f_Md_lastBut_6 : fch r_Md_lastBut.2.1 6 = some (.iconst 3) := by decide +kernel
theorem f_Md_lastBut_7 : fch r_Md_lastBut.2.1 7 = some (.isub) := by decide +kernel
theorem f_Md_lastBut_8 : fch r_Md_lastBut.2.1 8 = some (.goto 4) := by decide +kernel
theorem f_Md_lastBut_11 : fch r_Md_lastBut.2.1 11 = some (.iconst 0) := by decide +kernel
theorem f_Md_lastBut_12 : fch r_Md_lastBut.2.1 12 = some (.ireturn) := by decide +kernel
theorem f_Md_byAccent_0 : fch r_Md_byAccent.2.1 0 = some (.iconst 3) := by decide +kernel
theorem f_Md_byAccent_1 : fch r_Md_byAccent.2.1 1 = some (.iconst 4) := by decide +kernel
theorem f_Md_byAccent_2 : fch r_Md_byAccent.2.1 2 = some (.iload_n 1) := by decide +kernel
theorem f_Md_byAccent_3 : fch r_Md_byAccent.2.1 3 = some (.imul) := by decide +kernel
theorem f_Md_byAccent_4 : fch r_Md_byAccent.2.1 4 = some (.iconst 2) := by decide +kernel
theorem f_Md_byAccent_5 : fch r_Md_byAccent.2.1 5 = some (.iload_n 2) := by decide +kernel
theorem f_Md_byAccent_6 : fch r_Md_byAccent.2.1 6 = some (.imul) := by decide +kernel
theorem f_Md_byAccent_7 : fch r_Md_byAccent.2.1 7 = some (.iadd) := by decide +kernel
theorem f_Md_byAccent_8 : fch r_Md_byAccent.2.1 8 = some (.iload_n 3) := by decide +kernel
theorem f_Md_byAccent_9 : fch r_Md_byAccent.2.1 9 = some (.iadd) := by decide +kernel
theorem f_Md_byAccent_10 : fch r_Md_byAccent.2.1 10 = some (.imul) := by decide +kernel
theorem f_Md_byAccent_11 : fch r_Md_byAccent.2.1 11 = some (.istore 6) := by decide +kernel
theorem f_Md_byAccent_13 : fch r_Md_byAccent.2.1 13 = some (.iload 4) := by decide +kernel
theorem f_Md_byAccent_15 : fch r_Md_byAccent.2.1 15 = some (.ifCond .ne 11) := by decide +kernel
theorem f_Md_byAccent_18 : fch r_Md_byAccent.2.1 18 = some (.aload_n 0) := by decide +kernel
theorem f_Md_byAccent_19 : fch r_Md_byAccent.2.1 19 = some (.getfield 240) := by decide +kernel
theorem f_Md_byAccent_22 : fch r_Md_byAccent.2.1 22 = some (.iload 6) := by decide +kernel
theorem f_Md_byAccent_24 : fch r_Md_byAccent.2.1 24 = some (.iaload) := by decide +kernel
theorem f_Md_byAccent_25 : fch r_Md_byAccent.2.1 25 = some (.ireturn) := by decide +kernel
theorem f_Md_byAccent_26 : fch r_Md_byAccent.2.1 26 = some (.iload 5) := by decide +kernel
theorem f_Md_byAccent_28 : fch r_Md_byAccent.2.1 28 = some (.iconst 2) := by decide +kernel
theorem f_Md_byAccent_29 : fch r_Md_byAccent.2.1 29 = some (.if_icmp .ne 21) := by decide +kernel
theorem f_Md_byAccent_32 : fch r_Md_byAccent.2.1 32 = some (.iload 4) := by decide +kernel
theorem f_Md_byAccent_34 : fch r_Md_byAccent.2.1 34 = some (.iconst 1) := by decide +kernel
theorem f_Md_byAccent_35 : fch r_Md_byAccent.2.1 35 = some (.if_icmp .ne 15) := by decide +kernel
theorem f_Md_byAccent_38 : fch r_Md_byAccent.2.1 38 = some (.aload_n 0) := by decide +kernel
theorem f_Md_byAccent_39 : fch r_Md_byAccent.2.1 39 = some (.getfield 240) := by decide +kernel
theorem f_Md_byAccent_42 : fch r_Md_byAccent.2.1 42 = some (.iload 6) := by decide +kernel
theorem f_Md_byAccent_44 : fch r_Md_byAccent.2.1 44 = some (.iconst 1) := by decide +kernel
theorem f_Md_byAccent_45 : fch r_Md_byAccent.2.1 45 = some (.iadd) := by decide +kernel
theorem f_Md_byAccent_46 : fch r_Md_byAccent.2.1 46 = some (.iaload) := by decide +kernel
theorem f_Md_byAccent_47 : fch r_Md_byAccent.2.1 47 = some (.goto 12) := by decide +kernel
theorem f_Md_byAccent_50 : fch r_Md_byAccent.2.1 50 = some (.aload_n 0) := by decide +kernel
theorem f_Md_byAccent_51 : fch r_Md_byAccent.2.1 51 = some (.getfield 240) := by decide +kernel
theorem f_Md_byAccent_54 : fch r_Md_byAccent.2.1 54 = some (.iload 6) := by decide +kernel
theorem f_Md_byAccent_56 : fch r_Md_byAccent.2.1 56 = some (.iconst 2) := by decide +kernel
theorem f_Md_byAccent_57 : fch r_Md_byAccent.2.1 57 = some (.iadd) := by decide +kernel
theorem f_Md_byAccent_58 : fch r_Md_byAccent.2.1 58 = some (.iaload) := by decide +kernel
theorem f_Md_byAccent_59 : fch r_Md_byAccent.2.1 59 = some (.ireturn) := by decide +kernel
theorem f_Md_monk_0 : fch r_Md_monk.2.1 0 = some (.aload_n 0) := by decide +kernel
theorem f_Md_monk_1 : fch r_Md_monk.2.1 1 = some (.getfield 310) := by decide +kernel
theorem f_Md_monk_4 : fch r_Md_monk.2.1 4 = some (.bipush 24) := by decide +kernel
theorem f_Md_monk_6 : fch r_Md_monk.2.1 6 = some (.if_icmp .eq 13) := by decide +kernel
theorem f_Md_monk_9 : fch r_Md_monk.2.1 9 = some (.iload_n 1) := by decide +kernel
theorem f_Md_monk_10 : fch r_Md_monk.2.1 10 = some (.iconst 0) := by decide +kernel
theorem f_Md_monk_11 : fch r_Md_monk.2.1 11 = some (.bipush 7) := by decide +kernel
theorem f_Md_monk_13 : fch r_Md_monk.2.1 13 = some (.invokestatic 1) := by decide +kernel
theorem f_Md_monk_16 : fch r_Md_monk.2.1 16 = some (.ifCond .ne 5) := by decide +kernel
theorem f_Md_monk_19 : fch r_Md_monk.2.1 19 = some (.iconst (-1)) := by decide +kernel
theorem f_Md_monk_20 : fch r_Md_monk.2.1 20 = some (.ireturn) := by decide +kernel
theorem f_Md_monk_21 : fch r_Md_monk.2.1 21 = some (.aload_n 0) := by decide +kernel
theorem f_Md_monk_22 : fch r_Md_monk.2.1 22 = some (.getfield 252) := by decide +kernel
theorem f_Md_monk_25 : fch r_Md_monk.2.1 25 = some (.aload_n 0) := by decide +kernel
theorem f_Md_monk_26 : fch r_Md_monk.2.1 26 = some (.getfield 310) := by decide +kernel
theorem f_Md_monk_29 : fch r_Md_monk.2.1 29 = some (.iload_n 1) := by decide +kernel
theorem f_Md_monk_30 : fch r_Md_monk.2.1 30 = some (.iastore) := by decide +kernel
theorem f_Md_monk_31 : fch r_Md_monk.2.1 31 = some (.iconst 0) := by decide +kernel
theorem f_Md_monk_32 : fch r_Md_monk.2.1 32 = some (.istore_n 2) := by decide +kernel
theorem f_Md_monk_33 : fch r_Md_monk.2.1 33 = some (.iload_n 2) := by decide +kernel
theorem f_Md_monk_34 : fch r_Md_monk.2.1 34 = some (.iconst 3) := by decide +kernel
theorem f_Md_monk_35 : fch r_Md_monk.2.1 35 = some (.if_icmp .ge 23) := by decide +kernel
theorem f_Md_monk_38 : fch r_Md_monk.2.1 38 = some (.aload_n 0) := by decide +kernel
theorem f_Md_monk_39 : fch r_Md_monk.2.1 39 = some (.getfield 273) := by decide +kernel
theorem f_Md_monk_42 : fch r_Md_monk.2.1 42 = some (.iconst 3) := by decide +kernel
theorem f_Md_monk_43 : fch r_Md_monk.2.1 43 = some (.aload_n 0) := by decide +kernel
theorem f_Md_monk_44 : fch r_Md_monk.2.1 44 = some (.getfield 310) := by decide +kernel
theorem f_Md_monk_47 : fch r_Md_monk.2.1 47 = some (.imul) := by decide +kernel
theorem f_Md_monk_48 : fch r_Md_monk.2.1 48 = some (.iload_n 2) := by decide +kernel
theorem f_Md_monk_49 : fch r_Md_monk.2.1 49 = some (.iadd) := by decide +kernel
theorem f_Md_monk_50 : fch r_Md_monk.2.1 50 = some (.iconst 0) := by decide +kernel
theorem f_Md_monk_51 : fch r_Md_monk.2.1 51 = some (.iastore) := by decide +kernel
theorem f_Md_monk_52 : fch r_Md_monk.2.1 52 = some (.iinc 2 1) := by decide +kernel
theorem f_Md_monk_55 : fch r_Md_monk.2.1 55 = some (.goto (-22)) := by decide +kernel
theorem f_Md_monk_58 : fch r_Md_monk.2.1 58 = some (.aload_n 0) := by decide +kernel
theorem f_Md_monk_59 : fch r_Md_monk.2.1 59 = some (.dup) := by decide +kernel
theorem f_Md_monk_60 : fch r_Md_monk.2.1 60 = some (.getfield 310) := by decide +kernel
theorem f_Md_monk_63 : fch r_Md_monk.2.1 63 = some (.iconst 1) := by decide +kernel
theorem f_Md_monk_64 : fch r_Md_monk.2.1 64 = some (.iadd) := by decide +kernel
theorem f_Md_monk_65 : fch r_Md_monk.2.1 65 = some (.putfield 310) := by decide +kernel
theorem f_Md_monk_68 : fch r_Md_monk.2.1 68 = some (.aload_n 0) := by decide +kernel
theorem f_Md_monk_69 : fch r_Md_monk.2.1 69 = some (.getfield 310) := by decide +kernel
theorem f_Md_monk_72 : fch r_Md_monk.2.1 72 = some (.iconst 1) := by decide +kernel
theorem f_Md_monk_73 : fch r_Md_monk.2.1 73 = some (.isub) := by decide +kernel
theorem f_Md_monk_74 : fch r_Md_monk.2.1 74 = some (.ireturn) := by decide +kernel
theorem f_Md_absence_0 : fch r_Md_absence.2.1 0 = some (.aload_n 0) := by decide +kernel
theorem f_Md_absence_1 : fch r_Md_absence.2.1 1 = some (.getfield 313) := by decide +kernel
theorem f_Md_absence_4 : fch r_Md_absence.2.1 4 = some (.bipush 60) := by decide +kernel
theorem f_Md_absence_6 : fch r_Md_absence.2.1 6 = some (.if_icmp .eq 40) := by decide +kernel
theorem f_Md_absence_9 : fch r_Md_absence.2.1 9 = some (.iload_n 1) := by decide +kernel
theorem f_Md_absence_10 : fch r_Md_absence.2.1 10 = some (.iconst 0) := by decide +kernel
theorem f_Md_absence_11 : fch r_Md_absence.2.1 11 = some (.aload_n 0) := by decide +kernel
theorem f_Md_absence_12 : fch r_Md_absence.2.1 12 = some (.getfield 310) := by decide +kernel
theorem f_Md_absence_15 : fch r_Md_absence.2.1 15 = some (.iconst 1) := by decide +kernel
theorem f_Md_absence_16 : fch r_Md_absence.2.1 16 = some (.isub) := by decide +kernel
theorem f_Md_absence_17 : fch r_Md_absence.2.1 17 = some (.invokestatic 1) := by decide +kernel
theorem f_Md_absence_20 : fch r_Md_absence.2.1 20 = some (.ifCond .eq 26) := by decide +kernel
theorem f_Md_absence_23 : fch r_Md_absence.2.1 23 = some (.iload_n 2) := by decide +kernel
theorem f_Md_absence_24 : fch r_Md_absence.2.1 24 = some (.iload_n 3) := by decide +kernel
theorem f_Md_absence_25 : fch r_Md_absence.2.1 25 = some (.invokestatic 179) := by decide +kernel
theorem f_Md_absence_28 : fch r_Md_absence.2.1 28 = some (.ifCond .eq 18) := by decide +kernel
theorem f_Md_absence_31 : fch r_Md_absence.2.1 31 = some (.iload_n 2) := by decide +kernel
theorem f_Md_absence_32 : fch r_Md_absence.2.1 32 = some (.iload 4) := by decide +kernel
theorem f_Md_absence_34 : fch r_Md_absence.2.1 34 = some (.invokestatic 179) := by decide +kernel
theorem f_Md_absence_37 : fch r_Md_absence.2.1 37 = some (.ifCond .eq 9) := by decide +kernel
theorem f_Md_absence_40 : fch r_Md_absence.2.1 40 = some (.iload_n 3) := by decide +kernel
theorem f_Md_absence_41 : fch r_Md_absence.2.1 41 = some (.iload 4) := by decide +kernel
theorem f_Md_absence_43 : fch r_Md_absence.2.1 43 = some (.if_icmp .le 5) := by decide +kernel
theorem f_Md_absence_46 : fch r_Md_absence.2.1 46 = some (.iconst (-1)) := by decide +kernel
theorem f_Md_absence_47 : fch r_Md_absence.2.1 47 = some (.ireturn) := by decide +kernel
theorem f_Md_absence_48 : fch r_Md_absence.2.1 48 = some (.aload_n 0) := by decide +kernel
theorem f_Md_absence_49 : fch r_Md_absence.2.1 49 = some (.getfield 255) := by decide +kernel
theorem f_Md_absence_52 : fch r_Md_absence.2.1 52 = some (.aload_n 0) := by decide +kernel
theorem f_Md_absence_53 : fch r_Md_absence.2.1 53 = some (.getfield 313) := by decide +kernel
theorem f_Md_absence_56 : fch r_Md_absence.2.1 56 = some (.iload_n 1) := by decide +kernel
theorem f_Md_absence_57 : fch r_Md_absence.2.1 57 = some (.iastore) := by decide +kernel
theorem f_Md_absence_58 : fch r_Md_absence.2.1 58 = some (.aload_n 0) := by decide +kernel
theorem f_Md_absence_59 : fch r_Md_absence.2.1 59 = some (.getfield 258) := by decide +kernel
theorem f_Md_absence_62 : fch r_Md_absence.2.1 62 = some (.aload_n 0) := by decide +kernel
theorem f_Md_absence_63 : fch r_Md_absence.2.1 63 = some (.getfield 313) := by decide +kernel
theorem f_Md_absence_66 : fch r_Md_absence.2.1 66 = some (.iload_n 2) := by decide +kernel
theorem f_Md_absence_67 : fch r_Md_absence.2.1 67 = some (.iastore) := by decide +kernel
theorem f_Md_absence_68 : fch r_Md_absence.2.1 68 = some (.aload_n 0) := by decide +kernel
theorem f_Md_absence_69 : fch r_Md_absence.2.1 69 = some (.getfield 261) := by decide +kernel
theorem f_Md_absence_72 : fch r_Md_absence.2.1 72 = some (.aload_n 0) := by decide +kernel
theorem f_Md_absence_73 : fch r_Md_absence.2.1 73 = some (.getfield 313) := by decide +kernel
theorem f_Md_absence_76 : fch r_Md_absence.2.1 76 = some (.iload_n 3) := by decide +kernel
theorem f_Md_absence_77 : fch r_Md_absence.2.1 77 = some (.iastore) := by decide +kernel
theorem f_Md_absence_78 : fch r_Md_absence.2.1 78 = some (.aload_n 0) := by decide +kernel
theorem f_Md_absence_79 : fch r_Md_absence.2.1 79 = some (.getfield 264) := by decide +kernel
theorem f_Md_absence_82 : fch r_Md_absence.2.1 82 = some (.aload_n 0) := by decide +kernel
theorem f_Md_absence_83 : fch r_Md_absence.2.1 83 = some (.getfield 313) := by decide +kernel
theorem f_Md_absence_86 : fch r_Md_absence.2.1 86 = some (.iload 4) := by decide +kernel
theorem f_Md_absence_88 : fch r_Md_absence.2.1 88 = some (.iastore) := by decide +kernel
theorem f_Md_absence_89 : fch r_Md_absence.2.1 89 = some (.aload_n 0) := by decide +kernel
theorem f_Md_absence_90 : fch r_Md_absence.2.1 90 = some (.dup) := by decide +kernel
theorem f_Md_absence_91 : fch r_Md_absence.2.1 91 = some (.getfield 313) := by decide +kernel
theorem f_Md_absence_94 : fch r_Md_absence.2.1 94 = some (.iconst 1) := by decide +kernel
theorem f_Md_absence_95 : fch r_Md_absence.2.1 95 = some (.iadd) := by decide +kernel
theorem f_Md_absence_96 : fch r_Md_absence.2.1 96 = some (.putfield 313) := by decide +kernel
theorem f_Md_absence_99 : fch r_Md_absence.2.1 99 = some (.aload_n 0) := by decide +kernel
theorem f_Md_absence_100 : fch r_Md_absence.2.1 100 = some (.getfield 313) := by decide +kernel
theorem f_Md_absence_103 : fch r_Md_absence.2.1 103 = some (.ireturn) := by decide +kernel
theorem f_Md_roster_0 : fch r_Md_roster.2.1 0 = some (.iload_n 1) := by decide +kernel
theorem f_Md_roster_1 : fch r_Md_roster.2.1 1 = some (.iload_n 2) := by decide +kernel
theorem f_Md_roster_2 : fch r_Md_roster.2.1 2 = some (.invokestatic 179) := by decide +kernel
theorem f_Md_roster_5 : fch r_Md_roster.2.1 5 = some (.ifCond .eq 23) := by decide +kernel
theorem f_Md_roster_8 : fch r_Md_roster.2.1 8 = some (.iload_n 3) := by decide +kernel
theorem f_Md_roster_9 : fch r_Md_roster.2.1 9 = some (.iconst 1) := by decide +kernel
theorem f_Md_roster_10 : fch r_Md_roster.2.1 10 = some (.bipush 60) := by decide +kernel
theorem f_Md_roster_12 : fch r_Md_roster.2.1 12 = some (.invokestatic 1) := by decide +kernel
theorem f_Md_roster_15 : fch r_Md_roster.2.1 15 = some (.ifCond .eq 13) := by decide +kernel
theorem f_Md_roster_18 : fch r_Md_roster.2.1 18 = some (.iload_n 2) := by decide +kernel
theorem f_Md_roster_19 : fch r_Md_roster.2.1 19 = some (.iload_n 3) := by decide +kernel
theorem f_Md_roster_20 : fch r_Md_roster.2.1 20 = some (.iadd) := by decide +kernel
theorem f_Md_roster_21 : fch r_Md_roster.2.1 21 = some (.iload_n 1) := by decide +kernel
theorem f_Md_roster_22 : fch r_Md_roster.2.1 22 = some (.invokestatic 15) := by decide +kernel
theorem f_Md_roster_25 : fch r_Md_roster.2.1 25 = some (.if_icmp .le 5) := by decide +kernel
theorem f_Md_roster_28 : fch r_Md_roster.2.1 28 = some (.iconst (-1)) := by decide +kernel
theorem f_Md_roster_29 : fch r_Md_roster.2.1 29 = some (.ireturn) := by decide +kernel
theorem f_Md_roster_30 : fch r_Md_roster.2.1 30 = some (.aload_n 0) := by decide +kernel
theorem f_Md_roster_31 : fch r_Md_roster.2.1 31 = some (.iload_n 1) := by decide +kernel
theorem f_Md_roster_32 : fch r_Md_roster.2.1 32 = some (.invokevirtual 182) := by decide +kernel
theorem f_Md_roster_35 : fch r_Md_roster.2.1 35 = some (.aload_n 0) := by decide +kernel
theorem f_Md_roster_36 : fch r_Md_roster.2.1 36 = some (.iload_n 3) := by decide +kernel
theorem f_Md_roster_37 : fch r_Md_roster.2.1 37 = some (.putfield 319) := by decide +kernel
theorem f_Md_roster_40 : fch r_Md_roster.2.1 40 = some (.iconst 0) := by decide +kernel
theorem f_Md_roster_41 : fch r_Md_roster.2.1 41 = some (.istore 4) := by decide +kernel
theorem f_Md_roster_43 : fch r_Md_roster.2.1 43 = some (.iload 4) := by decide +kernel
theorem f_Md_roster_45 : fch r_Md_roster.2.1 45 = some (.bipush 72) := by decide +kernel
theorem f_Md_roster_47 : fch r_Md_roster.2.1 47 = some (.if_icmp .ge 25) := by decide +kernel
theorem f_Md_roster_50 : fch r_Md_roster.2.1 50 = some (.aload_n 0) := by decide +kernel
theorem f_Md_roster_51 : fch r_Md_roster.2.1 51 = some (.getfield 273) := by decide +kernel
theorem f_Md_roster_54 : fch r_Md_roster.2.1 54 = some (.iload 4) := by decide +kernel
theorem f_Md_roster_56 : fch r_Md_roster.2.1 56 = some (.iconst 0) := by decide +kernel
theorem f_Md_roster_57 : fch r_Md_roster.2.1 57 = some (.iastore) := by decide +kernel
theorem f_Md_roster_58 : fch r_Md_roster.2.1 58 = some (.aload_n 0) := by decide +kernel
theorem f_Md_roster_59 : fch r_Md_roster.2.1 59 = some (.getfield 276) := by decide +kernel
theorem f_Md_roster_62 : fch r_Md_roster.2.1 62 = some (.iload 4) := by decide +kernel
theorem f_Md_roster_64 : fch r_Md_roster.2.1 64 = some (.iconst (-1)) := by decide +kernel
theorem f_Md_roster_65 : fch r_Md_roster.2.1 65 = some (.iastore) := by decide +kernel
theorem f_Md_roster_66 : fch r_Md_roster.2.1 66 = some (.iinc 4 1) := by decide +kernel
theorem f_Md_roster_69 : fch r_Md_roster.2.1 69 = some (.goto (-26)) := by decide +kernel
theorem f_Md_roster_72 : fch r_Md_roster.2.1 72 = some (.iconst 0) := by decide +kernel
theorem f_Md_roster_73 : fch r_Md_roster.2.1 73 = some (.istore 4) := by decide +kernel
theorem f_Md_roster_75 : fch r_Md_roster.2.1 75 = some (.iconst 0) := by decide +kernel
theorem f_Md_roster_76 : fch r_Md_roster.2.1 76 = some (.istore 5) := by decide +kernel
theorem f_Md_roster_78 : fch r_Md_roster.2.1 78 = some (.iload 5) := by decide +kernel
theorem f_Md_roster_80 : fch r_Md_roster.2.1 80 = some (.iload_n 3) := by decide +kernel
theorem f_Md_roster_81 : fch r_Md_roster.2.1 81 = some (.if_icmp .ge 252) := by decide +kernel
theorem f_Md_roster_84 : fch r_Md_roster.2.1 84 = some (.aload_n 0) := by decide +kernel
theorem f_Md_roster_85 : fch r_Md_roster.2.1 85 = some (.getfield 164) := by decide +kernel
theorem f_Md_roster_88 : fch r_Md_roster.2.1 88 = some (.iload_n 2) := by decide +kernel
theorem f_Md_roster_89 : fch r_Md_roster.2.1 89 = some (.iload 5) := by decide +kernel
theorem f_Md_roster_91 : fch r_Md_roster.2.1 91 = some (.iadd) := by decide +kernel
theorem f_Md_roster_92 : fch r_Md_roster.2.1 92 = some (.iaload) := by decide +kernel
theorem f_Md_roster_93 : fch r_Md_roster.2.1 93 = some (.istore 6) := by decide +kernel
theorem f_Md_roster_95 : fch r_Md_roster.2.1 95 = some (.aload_n 0) := by decide +kernel
theorem f_Md_roster_96 : fch r_Md_roster.2.1 96 = some (.getfield 267) := by decide +kernel
theorem f_Md_roster_99 : fch r_Md_roster.2.1 99 = some (.iconst 3) := by decide +kernel
theorem f_Md_roster_100 : fch r_Md_roster.2.1 100 = some (.iload 5) := by decide +kernel
theorem f_Md_roster_102 : fch r_Md_roster.2.1 102 = some (.imul) := by decide +kernel
theorem f_Md_roster_103 : fch r_Md_roster.2.1 103 = some (.iconst 1) := by decide +kernel
theorem f_Md_roster_104 : fch r_Md_roster.2.1 104 = some (.iastore) := by decide +kernel
theorem f_Md_roster_105 : fch r_Md_roster.2.1 105 = some (.aload_n 0) := by decide +kernel
theorem f_Md_roster_106 : fch r_Md_roster.2.1 106 = some (.getfield 267) := by decide +kernel
theorem f_Md_roster_109 : fch r_Md_roster.2.1 109 = some (.iconst 3) := by decide +kernel
theorem f_Md_roster_110 : fch r_Md_roster.2.1 110 = some (.iload 5) := by decide +kernel
theorem f_Md_roster_112 : fch r_Md_roster.2.1 112 = some (.imul) := by decide +kernel
theorem f_Md_roster_113 : fch r_Md_roster.2.1 113 = some (.iconst 1) := by decide +kernel
theorem f_Md_roster_114 : fch r_Md_roster.2.1 114 = some (.iadd) := by decide +kernel
theorem f_Md_roster_115 : fch r_Md_roster.2.1 115 = some (.iload 6) := by decide +kernel
theorem f_Md_roster_117 : fch r_Md_roster.2.1 117 = some (.bipush 7) := by decide +kernel
theorem f_Md_roster_119 : fch r_Md_roster.2.1 119 = some (.if_icmp .lt 7) := by decide +kernel
theorem f_Md_roster_122 : fch r_Md_roster.2.1 122 = some (.iconst 4) := by decide +kernel
theorem f_Md_roster_123 : fch r_Md_roster.2.1 123 = some (.goto 14) := by decide +kernel
theorem f_Md_roster_126 : fch r_Md_roster.2.1 126 = some (.iload 6) := by decide +kernel
theorem f_Md_roster_128 : fch r_Md_roster.2.1 128 = some (.iconst 4) := by decide +kernel
theorem f_Md_roster_129 : fch r_Md_roster.2.1 129 = some (.if_icmp .lt 7) := by decide +kernel
theorem f_Md_roster_132 : fch r_Md_roster.2.1 132 = some (.iconst 2) := by decide +kernel
theorem f_Md_roster_133 : fch r_Md_roster.2.1 133 = some (.goto 4) := by decide +kernel
theorem f_Md_roster_136 : fch r_Md_roster.2.1 136 = some (.iconst 1) := by decide +kernel
theorem f_Md_roster_137 : fch r_Md_roster.2.1 137 = some (.iastore) := by decide +kernel
theorem f_Md_roster_138 : fch r_Md_roster.2.1 138 = some (.aload_n 0) := by decide +kernel
theorem f_Md_roster_139 : fch r_Md_roster.2.1 139 = some (.getfield 267) := by decide +kernel
theorem f_Md_roster_142 : fch r_Md_roster.2.1 142 = some (.iconst 3) := by decide +kernel
theorem f_Md_roster_143 : fch r_Md_roster.2.1 143 = some (.iload 5) := by decide +kernel
theorem f_Md_roster_145 : fch r_Md_roster.2.1 145 = some (.imul) := by decide +kernel
theorem f_Md_roster_146 : fch r_Md_roster.2.1 146 = some (.iconst 2) := by decide +kernel
theorem f_Md_roster_147 : fch r_Md_roster.2.1 147 = some (.iadd) := by decide +kernel
theorem f_Md_roster_148 : fch r_Md_roster.2.1 148 = some (.iload 6) := by decide +kernel
theorem f_Md_roster_150 : fch r_Md_roster.2.1 150 = some (.bipush 6) := by decide +kernel
theorem f_Md_roster_152 : fch r_Md_roster.2.1 152 = some (.if_icmp .lt 8) := by decide +kernel
theorem f_Md_roster_155 : fch r_Md_roster.2.1 155 = some (.bipush 6) := by decide +kernel
theorem f_Md_roster_157 : fch r_Md_roster.2.1 157 = some (.goto 14) := by decide +kernel
theorem f_Md_roster_160 : fch r_Md_roster.2.1 160 = some (.iload 6) := by decide +kernel
theorem f_Md_roster_162 : fch r_Md_roster.2.1 162 = some (.iconst 3) := by decide +kernel
theorem f_Md_roster_163 : fch r_Md_roster.2.1 163 = some (.if_icmp .lt 7) := by decide +kernel
theorem f_Md_roster_166 : fch r_Md_roster.2.1 166 = some (.iconst 3) := by decide +kernel
theorem f_Md_roster_167 : fch r_Md_roster.2.1 167 = some (.goto 4) := by decide +kernel
theorem f_Md_roster_170 : fch r_Md_roster.2.1 170 = some (.iconst 1) := by decide +kernel
theorem f_Md_roster_171 : fch r_Md_roster.2.1 171 = some (.iastore) := by decide +kernel
theorem f_Md_roster_172 : fch r_Md_roster.2.1 172 = some (.iconst 0) := by decide +kernel
theorem f_Md_roster_173 : fch r_Md_roster.2.1 173 = some (.istore 7) := by decide +kernel
theorem f_Md_roster_175 : fch r_Md_roster.2.1 175 = some (.iconst 0) := by decide +kernel
theorem f_Md_roster_176 : fch r_Md_roster.2.1 176 = some (.istore 8) := by decide +kernel
theorem f_Md_roster_178 : fch r_Md_roster.2.1 178 = some (.iload 8) := by decide +kernel
theorem f_Md_roster_180 : fch r_Md_roster.2.1 180 = some (.iconst 3) := by decide +kernel
theorem f_Md_roster_181 : fch r_Md_roster.2.1 181 = some (.if_icmp .ge 146) := by decide +kernel
theorem f_Md_roster_184 : fch r_Md_roster.2.1 184 = some (.iconst 0) := by decide +kernel
theorem f_Md_roster_185 : fch r_Md_roster.2.1 185 = some (.istore 9) := by decide +kernel
theorem f_Md_roster_187 : fch r_Md_roster.2.1 187 = some (.iload 9) := by decide +kernel
theorem f_Md_roster_189 : fch r_Md_roster.2.1 189 = some (.aload_n 0) := by decide +kernel
theorem f_Md_roster_190 : fch r_Md_roster.2.1 190 = some (.getfield 267) := by decide +kernel
theorem f_Md_roster_193 : fch r_Md_roster.2.1 193 = some (.iconst 3) := by decide +kernel
theorem f_Md_roster_194 : fch r_Md_roster.2.1 194 = some (.iload 5) := by decide +kernel
theorem f_Md_roster_196 : fch r_Md_roster.2.1 196 = some (.imul) := by decide +kernel
theorem f_Md_roster_197 : fch r_Md_roster.2.1 197 = some (.iload 8) := by decide +kernel
theorem f_Md_roster_199 : fch r_Md_roster.2.1 199 = some (.iadd) := by decide +kernel
theorem f_Md_roster_200 : fch r_Md_roster.2.1 200 = some (.iaload) := by decide +kernel
theorem f_Md_roster_201 : fch r_Md_roster.2.1 201 = some (.if_icmp .ge 120) := by decide +kernel
theorem f_Md_roster_204 : fch r_Md_roster.2.1 204 = some (.aload_n 0) := by decide +kernel
theorem f_Md_roster_205 : fch r_Md_roster.2.1 205 = some (.iload_n 1) := by decide +kernel
theorem f_Md_roster_206 : fch r_Md_roster.2.1 206 = some (.iload_n 2) := by decide +kernel
theorem f_Md_roster_207 : fch r_Md_roster.2.1 207 = some (.iload 5) := by decide +kernel
theorem f_Md_roster_209 : fch r_Md_roster.2.1 209 = some (.iadd) := by decide +kernel
theorem f_Md_roster_210 : fch r_Md_roster.2.1 210 = some (.iload 8) := by decide +kernel
theorem f_Md_roster_212 : fch r_Md_roster.2.1 212 = some (.iload 7) := by decide +kernel
theorem f_Md_roster_214 : fch r_Md_roster.2.1 214 = some (.invokevirtual 322) := by decide +kernel
theorem f_Md_roster_217 : fch r_Md_roster.2.1 217 = some (.istore 10) := by decide +kernel
theorem f_Md_roster_219 : fch r_Md_roster.2.1 219 = some (.aload_n 0) := by decide +kernel
theorem f_Md_roster_220 : fch r_Md_roster.2.1 220 = some (.getfield 270) := by decide +kernel
theorem f_Md_roster_223 : fch r_Md_roster.2.1 223 = some (.bipush 11) := by decide +kernel
theorem f_Md_roster_225 : fch r_Md_roster.2.1 225 = some (.iload 5) := by decide +kernel
theorem f_Md_roster_227 : fch r_Md_roster.2.1 227 = some (.imul) := by decide +kernel
theorem f_Md_roster_228 : fch r_Md_roster.2.1 228 = some (.iload 8) := by decide +kernel
theorem f_Md_roster_230 : fch r_Md_roster.2.1 230 = some (.invokestatic 326) := by decide +kernel
theorem f_Md_roster_233 : fch r_Md_roster.2.1 233 = some (.iadd) := by decide +kernel
theorem f_Md_roster_234 : fch r_Md_roster.2.1 234 = some (.iload 9) := by decide +kernel
theorem f_Md_roster_236 : fch r_Md_roster.2.1 236 = some (.iadd) := by decide +kernel
theorem f_Md_roster_237 : fch r_Md_roster.2.1 237 = some (.iload 10) := by decide +kernel
theorem f_Md_roster_239 : fch r_Md_roster.2.1 239 = some (.iconst (-1)) := by decide +kernel
theorem f_Md_roster_240 : fch r_Md_roster.2.1 240 = some (.if_icmp .ne 8) := by decide +kernel
theorem f_Md_roster_243 : fch r_Md_roster.2.1 243 = some (.bipush (-2)) := by decide +kernel
theorem f_Md_roster_245 : fch r_Md_roster.2.1 245 = some (.goto 5) := by decide +kernel
theorem f_Md_roster_248 : fch r_Md_roster.2.1 248 = some (.iload 10) := by decide +kernel
theorem f_Md_roster_250 : fch r_Md_roster.2.1 250 = some (.iastore) := by decide +kernel
theorem f_Md_roster_251 : fch r_Md_roster.2.1 251 = some (.iload 4) := by decide +kernel
theorem f_Md_roster_253 : fch r_Md_roster.2.1 253 = some (.iload 10) := by decide +kernel
theorem f_Md_roster_255 : fch r_Md_roster.2.1 255 = some (.iconst (-1)) := by decide +kernel
theorem f_Md_roster_256 : fch r_Md_roster.2.1 256 = some (.if_icmp .ne 7) := by decide +kernel
theorem f_Md_roster_259 : fch r_Md_roster.2.1 259 = some (.iconst 1) := by decide +kernel
theorem f_Md_roster_260 : fch r_Md_roster.2.1 260 = some (.goto 4) := by decide +kernel
theorem f_Md_roster_263 : fch r_Md_roster.2.1 263 = some (.iconst 0) := by decide +kernel
theorem f_Md_roster_264 : fch r_Md_roster.2.1 264 = some (.iadd) := by decide +kernel
theorem f_Md_roster_265 : fch r_Md_roster.2.1 265 = some (.istore 4) := by decide +kernel
theorem f_Md_roster_267 : fch r_Md_roster.2.1 267 = some (.iload 10) := by decide +kernel
theorem f_Md_roster_269 : fch r_Md_roster.2.1 269 = some (.iconst (-1)) := by decide +kernel
theorem f_Md_roster_270 : fch r_Md_roster.2.1 270 = some (.if_icmp .ne 6) := by decide +kernel
theorem f_Md_roster_273 : fch r_Md_roster.2.1 273 = some (.goto 42) := by decide +kernel
theorem f_Md_roster_276 : fch r_Md_roster.2.1 276 = some (.iload 7) := by decide +kernel
theorem f_Md_roster_278 : fch r_Md_roster.2.1 278 = some (.iconst 1) := by decide +kernel
theorem f_Md_roster_279 : fch r_Md_roster.2.1 279 = some (.iload 10) := by decide +kernel
theorem f_Md_roster_281 : fch r_Md_roster.2.1 281 = some (.ishl) := by decide +kernel
theorem f_Md_roster_282 : fch r_Md_roster.2.1 282 = some (.ior) := by decide +kernel
theorem f_Md_roster_283 : fch r_Md_roster.2.1 283 = some (.istore 7) := by decide +kernel
theorem f_Md_roster_285 : fch r_Md_roster.2.1 285 = some (.aload_n 0) := by decide +kernel
theorem f_Md_roster_286 : fch r_Md_roster.2.1 286 = some (.getfield 273) := by decide +kernel
theorem f_Md_roster_289 : fch r_Md_roster.2.1 289 = some (.iconst 3) := by decide +kernel
theorem f_Md_roster_290 : fch r_Md_roster.2.1 290 = some (.iload 10) := by decide +kernel
theorem f_Md_roster_292 : fch r_Md_roster.2.1 292 = some (.imul) := by decide +kernel
theorem f_Md_roster_293 : fch r_Md_roster.2.1 293 = some (.iload 8) := by decide +kernel
theorem f_Md_roster_295 : fch r_Md_roster.2.1 295 = some (.iadd) := by decide +kernel
theorem f_Md_roster_296 : fch r_Md_roster.2.1 296 = some (.dup2) := by decide +kernel
theorem f_Md_roster_297 : fch r_Md_roster.2.1 297 = some (.iaload) := by decide +kernel
theorem f_Md_roster_298 : fch r_Md_roster.2.1 298 = some (.iconst 1) := by decide +kernel
theorem f_Md_roster_299 : fch r_Md_roster.2.1 299 = some (.iadd) := by decide +kernel
theorem f_Md_roster_300 : fch r_Md_roster.2.1 300 = some (.iastore) := by decide +kernel
theorem f_Md_roster_301 : fch r_Md_roster.2.1 301 = some (.aload_n 0) := by decide +kernel
theorem f_Md_roster_302 : fch r_Md_roster.2.1 302 = some (.getfield 276) := by decide +kernel
theorem f_Md_roster_305 : fch r_Md_roster.2.1 305 = some (.iconst 3) := by decide +kernel
theorem f_Md_roster_306 : fch r_Md_roster.2.1 306 = some (.iload 10) := by decide +kernel
theorem f_Md_roster_308 : fch r_Md_roster.2.1 308 = some (.imul) := by decide +kernel
theorem f_Md_roster_309 : fch r_Md_roster.2.1 309 = some (.iload 8) := by decide +kernel
theorem f_Md_roster_311 : fch r_Md_roster.2.1 311 = some (.iadd) := by decide +kernel
theorem f_Md_roster_312 : fch r_Md_roster.2.1 312 = some (.iload 5) := by decide +kernel
theorem f_Md_roster_314 : fch r_Md_roster.2.1 314 = some (.iastore) := by decide +kernel
theorem f_Md_roster_315 : fch r_Md_roster.2.1 315 = some (.iinc 9 1) := by decide +kernel
theorem f_Md_roster_318 : fch r_Md_roster.2.1 318 = some (.goto (-131)) := by decide +kernel
theorem f_Md_roster_321 : fch r_Md_roster.2.1 321 = some (.iinc 8 1) := by decide +kernel
theorem f_Md_roster_324 : fch r_Md_roster.2.1 324 = some (.goto (-146)) := by decide +kernel
theorem f_Md_roster_327 : fch r_Md_roster.2.1 327 = some (.iinc 5 1) := by decide +kernel
theorem f_Md_roster_330 : fch r_Md_roster.2.1 330 = some (.goto (-252)) := by decide +kernel
theorem f_Md_roster_333 : fch r_Md_roster.2.1 333 = some (.iload 4) := by decide +kernel
theorem f_Md_roster_335 : fch r_Md_roster.2.1 335 = some (.ireturn) := by decide +kernel
theorem f_Md_chosen_0 : fch r_Md_chosen.2.1 0 = some (.iconst (-1)) := by decide +kernel
theorem f_Md_chosen_1 : fch r_Md_chosen.2.1 1 = some (.istore 5) := by decide +kernel
theorem f_Md_chosen_3 : fch r_Md_chosen.2.1 3 = some (.iconst 0) := by decide +kernel
theorem f_Md_chosen_4 : fch r_Md_chosen.2.1 4 = some (.istore 6) := by decide +kernel
theorem f_Md_chosen_6 : fch r_Md_chosen.2.1 6 = some (.iload 6) := by decide +kernel
theorem f_Md_chosen_8 : fch r_Md_chosen.2.1 8 = some (.aload_n 0) := by decide +kernel
theorem f_Md_chosen_9 : fch r_Md_chosen.2.1 9 = some (.getfield 310) := by decide +kernel
theorem f_Md_chosen_12 : fch r_Md_chosen.2.1 12 = some (.if_icmp .ge 125) := by decide +kernel
theorem f_Md_chosen_15 : fch r_Md_chosen.2.1 15 = some (.aload_n 0) := by decide +kernel
theorem f_Md_chosen_16 : fch r_Md_chosen.2.1 16 = some (.getfield 252) := by decide +kernel
theorem f_Md_chosen_19 : fch r_Md_chosen.2.1 19 = some (.iload 6) := by decide +kernel
theorem f_Md_chosen_21 : fch r_Md_chosen.2.1 21 = some (.iaload) := by decide +kernel
theorem f_Md_chosen_22 : fch r_Md_chosen.2.1 22 = some (.iload_n 3) := by decide +kernel
theorem f_Md_chosen_23 : fch r_Md_chosen.2.1 23 = some (.ishr) := by decide +kernel
theorem f_Md_chosen_24 : fch r_Md_chosen.2.1 24 = some (.iconst 1) := by decide +kernel
theorem f_Md_chosen_25 : fch r_Md_chosen.2.1 25 = some (.iand) := by decide +kernel
theorem f_Md_chosen_26 : fch r_Md_chosen.2.1 26 = some (.ifCond .eq 105) := by decide +kernel
theorem f_Md_chosen_29 : fch r_Md_chosen.2.1 29 = some (.iload 4) := by decide +kernel
theorem f_Md_chosen_31 : fch r_Md_chosen.2.1 31 = some (.iload 6) := by decide +kernel
theorem f_Md_chosen_33 : fch r_Md_chosen.2.1 33 = some (.ishr) := by decide +kernel
theorem f_Md_chosen_34 : fch r_Md_chosen.2.1 34 = some (.iconst 1) := by decide +kernel
theorem f_Md_chosen_35 : fch r_Md_chosen.2.1 35 = some (.iand) := by decide +kernel
theorem f_Md_chosen_36 : fch r_Md_chosen.2.1 36 = some (.iconst 1) := by decide +kernel
theorem f_Md_chosen_37 : fch r_Md_chosen.2.1 37 = some (.if_icmp .eq 94) := by decide +kernel
theorem f_Md_chosen_40 : fch r_Md_chosen.2.1 40 = some (.aload_n 0) := by decide +kernel
theorem f_Md_chosen_41 : fch r_Md_chosen.2.1 41 = some (.iload 6) := by decide +kernel
theorem f_Md_chosen_43 : fch r_Md_chosen.2.1 43 = some (.iload_n 1) := by decide +kernel
theorem f_Md_chosen_44 : fch r_Md_chosen.2.1 44 = some (.iload_n 2) := by decide +kernel
theorem f_Md_chosen_45 : fch r_Md_chosen.2.1 45 = some (.invokevirtual 316) := by decide +kernel
theorem f_Md_chosen_48 : fch r_Md_chosen.2.1 48 = some (.ifCond .ne 6) := by decide +kernel
theorem f_Md_chosen_51 : fch r_Md_chosen.2.1 51 = some (.goto 80) := by decide +kernel
theorem f_Md_chosen_54 : fch r_Md_chosen.2.1 54 = some (.iconst 3) := by decide +kernel
theorem f_Md_chosen_55 : fch r_Md_chosen.2.1 55 = some (.iload 6) := by decide +kernel
theorem f_Md_chosen_57 : fch r_Md_chosen.2.1 57 = some (.imul) := by decide +kernel
theorem f_Md_chosen_58 : fch r_Md_chosen.2.1 58 = some (.iload_n 3) := by decide +kernel
theorem f_Md_chosen_59 : fch r_Md_chosen.2.1 59 = some (.iadd) := by decide +kernel
theorem f_Md_chosen_60 : fch r_Md_chosen.2.1 60 = some (.istore 7) := by decide +kernel
theorem f_Md_chosen_62 : fch r_Md_chosen.2.1 62 = some (.iconst 3) := by decide +kernel
theorem f_Md_chosen_63 : fch r_Md_chosen.2.1 63 = some (.iload 5) := by decide +kernel
theorem f_Md_chosen_65 : fch r_Md_chosen.2.1 65 = some (.imul) := by decide +kernel
theorem f_Md_chosen_66 : fch r_Md_chosen.2.1 66 = some (.iload_n 3) := by decide +kernel
theorem f_Md_chosen_67 : fch r_Md_chosen.2.1 67 = some (.iadd) := by decide +kernel
theorem f_Md_chosen_68 : fch r_Md_chosen.2.1 68 = some (.istore 8) := by decide +kernel
theorem f_Md_chosen_70 : fch r_Md_chosen.2.1 70 = some (.iload 5) := by decide +kernel
theorem f_Md_chosen_72 : fch r_Md_chosen.2.1 72 = some (.iconst (-1)) := by decide +kernel
theorem f_Md_chosen_73 : fch r_Md_chosen.2.1 73 = some (.if_icmp .eq 54) := by decide +kernel
theorem f_Md_chosen_76 : fch r_Md_chosen.2.1 76 = some (.aload_n 0) := by decide +kernel
theorem f_Md_chosen_77 : fch r_Md_chosen.2.1 77 = some (.getfield 273) := by decide +kernel
theorem f_Md_chosen_80 : fch r_Md_chosen.2.1 80 = some (.iload 7) := by decide +kernel
theorem f_Md_chosen_82 : fch r_Md_chosen.2.1 82 = some (.iaload) := by decide +kernel
theorem f_Md_chosen_83 : fch r_Md_chosen.2.1 83 = some (.aload_n 0) := by decide +kernel
theorem f_Md_chosen_84 : fch r_Md_chosen.2.1 84 = some (.getfield 273) := by decide +kernel
theorem f_Md_chosen_87 : fch r_Md_chosen.2.1 87 = some (.iload 8) := by decide +kernel
theorem f_Md_chosen_89 : fch r_Md_chosen.2.1 89 = some (.iaload) := by decide +kernel
theorem f_Md_chosen_90 : fch r_Md_chosen.2.1 90 = some (.if_icmp .lt 37) := by decide +kernel
theorem f_Md_chosen_93 : fch r_Md_chosen.2.1 93 = some (.aload_n 0) := by decide +kernel
theorem f_Md_chosen_94 : fch r_Md_chosen.2.1 94 = some (.getfield 273) := by decide +kernel
theorem f_Md_chosen_97 : fch r_Md_chosen.2.1 97 = some (.iload 7) := by decide +kernel
theorem f_Md_chosen_99 : fch r_Md_chosen.2.1 99 = some (.iaload) := by decide +kernel
theorem f_Md_chosen_100 : fch r_Md_chosen.2.1 100 = some (.aload_n 0) := by decide +kernel
theorem f_Md_chosen_101 : fch r_Md_chosen.2.1 101 = some (.getfield 273) := by decide +kernel
theorem f_Md_chosen_104 : fch r_Md_chosen.2.1 104 = some (.iload 8) := by decide +kernel
theorem f_Md_chosen_106 : fch r_Md_chosen.2.1 106 = some (.iaload) := by decide +kernel
theorem f_Md_chosen_107 : fch r_Md_chosen.2.1 107 = some (.if_icmp .ne 24) := by decide +kernel
theorem f_Md_chosen_110 : fch r_Md_chosen.2.1 110 = some (.aload_n 0) := by decide +kernel
theorem f_Md_chosen_111 : fch r_Md_chosen.2.1 111 = some (.getfield 276) := by decide +kernel
theorem f_Md_chosen_114 : fch r_Md_chosen.2.1 114 = some (.iload 7) := by decide +kernel
theorem f_Md_chosen_116 : fch r_Md_chosen.2.1 116 = some (.iaload) := by decide +kernel
theorem f_Md_chosen_117 : fch r_Md_chosen.2.1 117 = some (.aload_n 0) := by decide +kernel
theorem f_Md_chosen_118 : fch r_Md_chosen.2.1 118 = some (.getfield 276) := by decide +kernel
theorem f_Md_chosen_121 : fch r_Md_chosen.2.1 121 = some (.iload 8) := by decide +kernel
theorem f_Md_chosen_123 : fch r_Md_chosen.2.1 123 = some (.iaload) := by decide +kernel
theorem f_Md_chosen_124 : fch r_Md_chosen.2.1 124 = some (.if_icmp .ge 7) := by decide +kernel
theorem f_Md_chosen_127 : fch r_Md_chosen.2.1 127 = some (.iload 6) := by decide +kernel
theorem f_Md_chosen_129 : fch r_Md_chosen.2.1 129 = some (.istore 5) := by decide +kernel
theorem f_Md_chosen_131 : fch r_Md_chosen.2.1 131 = some (.iinc 6 1) := by decide +kernel
theorem f_Md_chosen_134 : fch r_Md_chosen.2.1 134 = some (.goto (-128)) := by decide +kernel
theorem f_Md_chosen_137 : fch r_Md_chosen.2.1 137 = some (.iload 5) := by decide +kernel
theorem f_Md_chosen_139 : fch r_Md_chosen.2.1 139 = some (.ireturn) := by decide +kernel
theorem f_Md_isThere_0 : fch r_Md_isThere.2.1 0 = some (.iconst 1) := by decide +kernel
theorem f_Md_isThere_1 : fch r_Md_isThere.2.1 1 = some (.istore 4) := by decide +kernel
theorem f_Md_isThere_3 : fch r_Md_isThere.2.1 3 = some (.iconst 0) := by decide +kernel
theorem f_Md_isThere_4 : fch r_Md_isThere.2.1 4 = some (.istore 5) := by decide +kernel
theorem f_Md_isThere_6 : fch r_Md_isThere.2.1 6 = some (.iload 5) := by decide +kernel
theorem f_Md_isThere_8 : fch r_Md_isThere.2.1 8 = some (.aload_n 0) := by decide +kernel
theorem f_Md_isThere_9 : fch r_Md_isThere.2.1 9 = some (.getfield 313) := by decide +kernel
theorem f_Md_isThere_12 : fch r_Md_isThere.2.1 12 = some (.if_icmp .ge 64) := by decide +kernel
theorem f_Md_isThere_15 : fch r_Md_isThere.2.1 15 = some (.iload 4) := by decide +kernel
theorem f_Md_isThere_17 : fch r_Md_isThere.2.1 17 = some (.ifCond .eq 50) := by decide +kernel
theorem f_Md_isThere_20 : fch r_Md_isThere.2.1 20 = some (.aload_n 0) := by decide +kernel
theorem f_Md_isThere_21 : fch r_Md_isThere.2.1 21 = some (.getfield 255) := by decide +kernel
theorem f_Md_isThere_24 : fch r_Md_isThere.2.1 24 = some (.iload 5) := by decide +kernel
theorem f_Md_isThere_26 : fch r_Md_isThere.2.1 26 = some (.iaload) := by decide +kernel
theorem f_Md_isThere_27 : fch r_Md_isThere.2.1 27 = some (.iload_n 1) := by decide +kernel
theorem f_Md_isThere_28 : fch r_Md_isThere.2.1 28 = some (.if_icmp .ne 35) := by decide +kernel
theorem f_Md_isThere_31 : fch r_Md_isThere.2.1 31 = some (.aload_n 0) := by decide +kernel
theorem f_Md_isThere_32 : fch r_Md_isThere.2.1 32 = some (.getfield 258) := by decide +kernel
theorem f_Md_isThere_35 : fch r_Md_isThere.2.1 35 = some (.iload 5) := by decide +kernel
theorem f_Md_isThere_37 : fch r_Md_isThere.2.1 37 = some (.iaload) := by decide +kernel
theorem f_Md_isThere_38 : fch r_Md_isThere.2.1 38 = some (.iload_n 2) := by decide +kernel
theorem f_Md_isThere_39 : fch r_Md_isThere.2.1 39 = some (.if_icmp .ne 24) := by decide +kernel
theorem f_Md_isThere_42 : fch r_Md_isThere.2.1 42 = some (.iload_n 3) := by decide +kernel
theorem f_Md_isThere_43 : fch r_Md_isThere.2.1 43 = some (.aload_n 0) := by decide +kernel
theorem f_Md_isThere_44 : fch r_Md_isThere.2.1 44 = some (.getfield 261) := by decide +kernel
theorem f_Md_isThere_47 : fch r_Md_isThere.2.1 47 = some (.iload 5) := by decide +kernel
theorem f_Md_isThere_49 : fch r_Md_isThere.2.1 49 = some (.iaload) := by decide +kernel
theorem f_Md_isThere_50 : fch r_Md_isThere.2.1 50 = some (.aload_n 0) := by decide +kernel
theorem f_Md_isThere_51 : fch r_Md_isThere.2.1 51 = some (.getfield 264) := by decide +kernel
theorem f_Md_isThere_54 : fch r_Md_isThere.2.1 54 = some (.iload 5) := by decide +kernel
theorem f_Md_isThere_56 : fch r_Md_isThere.2.1 56 = some (.iaload) := by decide +kernel
theorem f_Md_isThere_57 : fch r_Md_isThere.2.1 57 = some (.invokestatic 1) := by decide +kernel
theorem f_Md_isThere_60 : fch r_Md_isThere.2.1 60 = some (.ifCond .ne 7) := by decide +kernel
theorem f_Md_isThere_63 : fch r_Md_isThere.2.1 63 = some (.iconst 1) := by decide +kernel
theorem f_Md_isThere_64 : fch r_Md_isThere.2.1 64 = some (.goto 4) := by decide +kernel
theorem f_Md_isThere_67 : fch r_Md_isThere.2.1 67 = some (.iconst 0) := by decide +kernel
theorem f_Md_isThere_68 : fch r_Md_isThere.2.1 68 = some (.istore 4) := by decide +kernel
theorem f_Md_isThere_70 : fch r_Md_isThere.2.1 70 = some (.iinc 5 1) := by decide +kernel
theorem f_Md_isThere_73 : fch r_Md_isThere.2.1 73 = some (.goto (-67)) := by decide +kernel
theorem f_Md_isThere_76 : fch r_Md_isThere.2.1 76 = some (.iload 4) := by decide +kernel
theorem f_Md_isThere_78 : fch r_Md_isThere.2.1 78 = some (.ireturn) := by decide +kernel
theorem f_Md_placeOf_0 : fch r_Md_placeOf.2.1 0 = some (.iload_n 0) := by decide +kernel
theorem f_Md_placeOf_1 : fch r_Md_placeOf.2.1 1 = some (.ifCond .ne 7) := by decide +kernel
theorem f_Md_placeOf_4 : fch r_Md_placeOf.2.1 4 = some (.iconst 0) := by decide +kernel
theorem f_Md_placeOf_5 : fch r_Md_placeOf.2.1 5 = some (.goto 13) := by decide +kernel
theorem f_Md_placeOf_8 : fch r_Md_placeOf.2.1 8 = some (.iload_n 0) := by decide +kernel
theorem f_Md_placeOf_9 : fch r_Md_placeOf.2.1 9 = some (.iconst 1) := by decide +kernel
theorem f_Md_placeOf_10 : fch r_Md_placeOf.2.1 10 = some (.if_icmp .ne 7) := by decide +kernel
theorem f_Md_placeOf_13 : fch r_Md_placeOf.2.1 13 = some (.iconst 1) := by decide +kernel
theorem f_Md_placeOf_14 : fch r_Md_placeOf.2.1 14 = some (.goto 4) := by decide +kernel
theorem f_Md_placeOf_17 : fch r_Md_placeOf.2.1 17 = some (.iconst 5) := by decide +kernel
theorem f_Md_placeOf_18 : fch r_Md_placeOf.2.1 18 = some (.ireturn) := by decide +kernel
theorem f_Md_turn_0 : fch r_Md_turn.2.1 0 = some (.iload_n 1) := by decide +kernel
theorem f_Md_turn_1 : fch r_Md_turn.2.1 1 = some (.iconst 0) := by decide +kernel
theorem f_Md_turn_2 : fch r_Md_turn.2.1 2 = some (.aload_n 0) := by decide +kernel
theorem f_Md_turn_3 : fch r_Md_turn.2.1 3 = some (.getfield 319) := by decide +kernel
theorem f_Md_turn_6 : fch r_Md_turn.2.1 6 = some (.iconst 1) := by decide +kernel
theorem f_Md_turn_7 : fch r_Md_turn.2.1 7 = some (.isub) := by decide +kernel
theorem f_Md_turn_8 : fch r_Md_turn.2.1 8 = some (.invokestatic 1) := by decide +kernel
theorem f_Md_turn_11 : fch r_Md_turn.2.1 11 = some (.ifCond .eq 32) := by decide +kernel
theorem f_Md_turn_14 : fch r_Md_turn.2.1 14 = some (.iload_n 2) := by decide +kernel
theorem f_Md_turn_15 : fch r_Md_turn.2.1 15 = some (.iconst 0) := by decide +kernel
theorem f_Md_turn_16 : fch r_Md_turn.2.1 16 = some (.iconst 2) := by decide +kernel
theorem f_Md_turn_17 : fch r_Md_turn.2.1 17 = some (.invokestatic 1) := by decide +kernel
theorem f_Md_turn_20 : fch r_Md_turn.2.1 20 = some (.ifCond .eq 23) := by decide +kernel
theorem f_Md_turn_23 : fch r_Md_turn.2.1 23 = some (.iload_n 3) := by decide +kernel
theorem f_Md_turn_24 : fch r_Md_turn.2.1 24 = some (.iconst 0) := by decide +kernel
theorem f_Md_turn_25 : fch r_Md_turn.2.1 25 = some (.aload_n 0) := by decide +kernel
theorem f_Md_turn_26 : fch r_Md_turn.2.1 26 = some (.getfield 267) := by decide +kernel
theorem f_Md_turn_29 : fch r_Md_turn.2.1 29 = some (.iconst 3) := by decide +kernel
theorem f_Md_turn_30 : fch r_Md_turn.2.1 30 = some (.iload_n 1) := by decide +kernel
theorem f_Md_turn_31 : fch r_Md_turn.2.1 31 = some (.imul) := by decide +kernel
theorem f_Md_turn_32 : fch r_Md_turn.2.1 32 = some (.iload_n 2) := by decide +kernel
theorem f_Md_turn_33 : fch r_Md_turn.2.1 33 = some (.iadd) := by decide +kernel
theorem f_Md_turn_34 : fch r_Md_turn.2.1 34 = some (.iaload) := by decide +kernel
theorem f_Md_turn_35 : fch r_Md_turn.2.1 35 = some (.iconst 1) := by decide +kernel
theorem f_Md_turn_36 : fch r_Md_turn.2.1 36 = some (.isub) := by decide +kernel
theorem f_Md_turn_37 : fch r_Md_turn.2.1 37 = some (.invokestatic 1) := by decide +kernel
theorem f_Md_turn_40 : fch r_Md_turn.2.1 40 = some (.ifCond .ne 5) := by decide +kernel
theorem f_Md_turn_43 : fch r_Md_turn.2.1 43 = some (.iconst (-1)) := by decide +kernel
theorem f_Md_turn_44 : fch r_Md_turn.2.1 44 = some (.ireturn) := by decide +kernel
theorem f_Md_turn_45 : fch r_Md_turn.2.1 45 = some (.aload_n 0) := by decide +kernel
theorem f_Md_turn_46 : fch r_Md_turn.2.1 46 = some (.getfield 270) := by decide +kernel
theorem f_Md_turn_49 : fch r_Md_turn.2.1 49 = some (.bipush 11) := by decide +kernel
theorem f_Md_turn_51 : fch r_Md_turn.2.1 51 = some (.iload_n 1) := by decide +kernel
theorem f_Md_turn_52 : fch r_Md_turn.2.1 52 = some (.imul) := by decide +kernel
theorem f_Md_turn_53 : fch r_Md_turn.2.1 53 = some (.iload_n 2) := by decide +kernel
theorem f_Md_turn_54 : fch r_Md_turn.2.1 54 = some (.invokestatic 326) := by decide +kernel
theorem f_Md_turn_57 : fch r_Md_turn.2.1 57 = some (.iadd) := by decide +kernel
theorem f_Md_turn_58 : fch r_Md_turn.2.1 58 = some (.iload_n 3) := by decide +kernel
theorem f_Md_turn_59 : fch r_Md_turn.2.1 59 = some (.iadd) := by decide +kernel
theorem f_Md_turn_60 : fch r_Md_turn.2.1 60 = some (.iaload) := by decide +kernel
theorem f_Md_turn_61 : fch r_Md_turn.2.1 61 = some (.ireturn) := by decide +kernel
theorem f_Md_had_0 : fch r_Md_had.2.1 0 = some (.aload_n 0) := by decide +kernel
theorem f_Md_had_1 : fch r_Md_had.2.1 1 = some (.getfield 319) := by decide +kernel
theorem f_Md_had_4 : fch r_Md_had.2.1 4 = some (.ifCond .le 39) := by decide +kernel
theorem f_Md_had_7 : fch r_Md_had.2.1 7 = some (.iload_n 1) := by decide +kernel
theorem f_Md_had_8 : fch r_Md_had.2.1 8 = some (.iconst 0) := by decide +kernel
theorem f_Md_had_9 : fch r_Md_had.2.1 9 = some (.aload_n 0) := by decide +kernel
theorem f_Md_had_10 : fch r_Md_had.2.1 10 = some (.getfield 310) := by decide +kernel
theorem f_Md_had_13 : fch r_Md_had.2.1 13 = some (.iconst 1) := by decide +kernel
theorem f_Md_had_14 : fch r_Md_had.2.1 14 = some (.isub) := by decide +kernel
theorem f_Md_had_15 : fch r_Md_had.2.1 15 = some (.invokestatic 1) := by decide +kernel
theorem f_Md_had_18 : fch r_Md_had.2.1 18 = some (.ifCond .eq 25) := by decide +kernel
theorem f_Md_had_21 : fch r_Md_had.2.1 21 = some (.iload_n 2) := by decide +kernel
theorem f_Md_had_22 : fch r_Md_had.2.1 22 = some (.iconst 0) := by decide +kernel
theorem f_Md_had_23 : fch r_Md_had.2.1 23 = some (.iconst 2) := by decide +kernel
theorem f_Md_had_24 : fch r_Md_had.2.1 24 = some (.invokestatic 1) := by decide +kernel
theorem f_Md_had_27 : fch r_Md_had.2.1 27 = some (.ifCond .eq 16) := by decide +kernel
theorem f_Md_had_30 : fch r_Md_had.2.1 30 = some (.aload_n 0) := by decide +kernel
theorem f_Md_had_31 : fch r_Md_had.2.1 31 = some (.getfield 273) := by decide +kernel
theorem f_Md_had_34 : fch r_Md_had.2.1 34 = some (.iconst 3) := by decide +kernel
theorem f_Md_had_35 : fch r_Md_had.2.1 35 = some (.iload_n 1) := by decide +kernel
theorem f_Md_had_36 : fch r_Md_had.2.1 36 = some (.imul) := by decide +kernel
theorem f_Md_had_37 : fch r_Md_had.2.1 37 = some (.iload_n 2) := by decide +kernel
theorem f_Md_had_38 : fch r_Md_had.2.1 38 = some (.iadd) := by decide +kernel
theorem f_Md_had_39 : fch r_Md_had.2.1 39 = some (.iaload) := by decide +kernel
theorem f_Md_had_40 : fch r_Md_had.2.1 40 = some (.goto 4) := by decide +kernel
theorem f_Md_had_43 : fch r_Md_had.2.1 43 = some (.iconst (-1)) := by decide +kernel
theorem f_Md_had_44 : fch r_Md_had.2.1 44 = some (.ireturn) := by decide +kernel
theorem f_Law_law_0 : fch r_Law_law.2.1 0 = some (.new 7) := by decide +kernel
theorem f_Law_law_3 : fch r_Law_law.2.1 3 = some (.dup) := by decide +kernel
theorem f_Law_law_4 : fch r_Law_law.2.1 4 = some (.invokespecial 9) := by decide +kernel
theorem f_Law_law_7 : fch r_Law_law.2.1 7 = some (.astore_n 1) := by decide +kernel
theorem f_Law_law_8 : fch r_Law_law.2.1 8 = some (.new 10) := by decide +kernel
theorem f_Law_law_11 : fch r_Law_law.2.1 11 = some (.dup) := by decide +kernel
theorem f_Law_law_12 : fch r_Law_law.2.1 12 = some (.invokespecial 12) := by decide +kernel
theorem f_Law_law_15 : fch r_Law_law.2.1 15 = some (.astore_n 2) := by decide +kernel
theorem f_Law_law_16 : fch r_Law_law.2.1 16 = some (.iconst 0) := by decide +kernel
theorem f_Law_law_17 : fch r_Law_law.2.1 17 = some (.istore_n 3) := by decide +kernel
theorem f_Law_law_18 : fch r_Law_law.2.1 18 = some (.iload_n 3) := by decide +kernel
theorem f_Law_law_19 : fch r_Law_law.2.1 19 = some (.aload_n 0) := by decide +kernel
theorem f_Law_law_20 : fch r_Law_law.2.1 20 = some (.arraylength) := by decide +kernel
theorem f_Law_law_21 : fch r_Law_law.2.1 21 = some (.bipush 7) := by decide +kernel
theorem f_Law_law_23 : fch r_Law_law.2.1 23 = some (.isub) := by decide +kernel
theorem f_Law_law_24 : fch r_Law_law.2.1 24 = some (.if_icmp .gt 1491) := by decide +kernel
theorem f_Law_law_27 : fch r_Law_law.2.1 27 = some (.aload_n 0) := by decide +kernel
theorem f_Law_law_28 : fch r_Law_law.2.1 28 = some (.iload_n 3) := by decide +kernel
theorem f_Law_law_29 : fch r_Law_law.2.1 29 = some (.iaload) := by decide +kernel
theorem f_Law_law_30 : fch r_Law_law.2.1 30 = some (.bipush 31) := by decide +kernel
theorem f_Law_law_32 : fch r_Law_law.2.1 32 = some (.iand) := by decide +kernel
theorem f_Law_law_33 : fch r_Law_law.2.1 33 = some (.tableswitch 1476 0 30 #[139, 172, 215, 278, 341, 404, 463, 506, 549, 602, 635, 678, 711, 734, 767, 800, 823, 866, 919, 972, 1005, 1048, 1123, 1166, 1215, 1238, 1281, 1304, 1357, 1400, 1443]) := by decide +kernel
theorem f_Law_law_172 : fch r_Law_law.2.1 172 = some (.aload_n 1) := by decide +kernel
theorem f_Law_law_173 : fch r_Law_law.2.1 173 = some (.aload_n 0) := by decide +kernel
theorem f_Law_law_174 : fch r_Law_law.2.1 174 = some (.iload_n 3) := by decide +kernel
theorem f_Law_law_175 : fch r_Law_law.2.1 175 = some (.iconst 1) := by decide +kernel
theorem f_Law_law_176 : fch r_Law_law.2.1 176 = some (.iadd) := by decide +kernel
theorem f_Law_law_177 : fch r_Law_law.2.1 177 = some (.iaload) := by decide +kernel
theorem f_Law_law_178 : fch r_Law_law.2.1 178 = some (.aload_n 0) := by decide +kernel
theorem f_Law_law_179 : fch r_Law_law.2.1 179 = some (.iload_n 3) := by decide +kernel
theorem f_Law_law_180 : fch r_Law_law.2.1 180 = some (.iconst 2) := by decide +kernel
theorem f_Law_law_181 : fch r_Law_law.2.1 181 = some (.iadd) := by decide +kernel
theorem f_Law_law_182 : fch r_Law_law.2.1 182 = some (.iaload) := by decide +kernel
theorem f_Law_law_183 : fch r_Law_law.2.1 183 = some (.invokevirtual 13) := by decide +kernel
theorem f_Law_law_186 : fch r_Law_law.2.1 186 = some (.aload_n 2) := by decide +kernel
theorem f_Law_law_187 : fch r_Law_law.2.1 187 = some (.aload_n 0) := by decide +kernel
theorem f_Law_law_188 : fch r_Law_law.2.1 188 = some (.iload_n 3) := by decide +kernel
theorem f_Law_law_189 : fch r_Law_law.2.1 189 = some (.iconst 1) := by decide +kernel
theorem f_Law_law_190 : fch r_Law_law.2.1 190 = some (.iadd) := by decide +kernel
theorem f_Law_law_191 : fch r_Law_law.2.1 191 = some (.iaload) := by decide +kernel
theorem f_Law_law_192 : fch r_Law_law.2.1 192 = some (.aload_n 0) := by decide +kernel
theorem f_Law_law_193 : fch r_Law_law.2.1 193 = some (.iload_n 3) := by decide +kernel
theorem f_Law_law_194 : fch r_Law_law.2.1 194 = some (.iconst 2) := by decide +kernel
theorem f_Law_law_195 : fch r_Law_law.2.1 195 = some (.iadd) := by decide +kernel
theorem f_Law_law_196 : fch r_Law_law.2.1 196 = some (.iaload) := by decide +kernel
theorem f_Law_law_197 : fch r_Law_law.2.1 197 = some (.invokevirtual 17) := by decide +kernel
theorem f_Law_law_200 : fch r_Law_law.2.1 200 = some (.if_icmp .eq 1309) := by decide +kernel
theorem f_Law_law_203 : fch r_Law_law.2.1 203 = some (.iconst 0) := by decide +kernel
theorem f_Law_law_204 : fch r_Law_law.2.1 204 = some (.ireturn) := by decide +kernel
theorem f_Law_law_205 : fch r_Law_law.2.1 205 = some (.aload_n 1) := by decide +kernel
theorem f_Law_law_206 : fch r_Law_law.2.1 206 = some (.aload_n 0) := by decide +kernel
theorem f_Law_law_207 : fch r_Law_law.2.1 207 = some (.iload_n 3) := by decide +kernel
theorem f_Law_law_208 : fch r_Law_law.2.1 208 = some (.iconst 1) := by decide +kernel
theorem f_Law_law_209 : fch r_Law_law.2.1 209 = some (.iadd) := by decide +kernel
theorem f_Law_law_210 : fch r_Law_law.2.1 210 = some (.iaload) := by decide +kernel
theorem f_Law_law_211 : fch r_Law_law.2.1 211 = some (.aload_n 0) := by decide +kernel
theorem f_Law_law_212 : fch r_Law_law.2.1 212 = some (.iload_n 3) := by decide +kernel
theorem f_Law_law_213 : fch r_Law_law.2.1 213 = some (.iconst 2) := by decide +kernel
theorem f_Law_law_214 : fch r_Law_law.2.1 214 = some (.iadd) := by decide +kernel
theorem f_Law_law_215 : fch r_Law_law.2.1 215 = some (.iaload) := by decide +kernel
theorem f_Law_law_216 : fch r_Law_law.2.1 216 = some (.aload_n 0) := by decide +kernel
theorem f_Law_law_217 : fch r_Law_law.2.1 217 = some (.iload_n 3) := by decide +kernel
theorem f_Law_law_218 : fch r_Law_law.2.1 218 = some (.iconst 3) := by decide +kernel
theorem f_Law_law_219 : fch r_Law_law.2.1 219 = some (.iadd) := by decide +kernel
theorem f_Law_law_220 : fch r_Law_law.2.1 220 = some (.iaload) := by decide +kernel
theorem f_Law_law_221 : fch r_Law_law.2.1 221 = some (.invokevirtual 18) := by decide +kernel
theorem f_Law_law_224 : fch r_Law_law.2.1 224 = some (.aload_n 2) := by decide +kernel
theorem f_Law_law_225 : fch r_Law_law.2.1 225 = some (.aload_n 0) := by decide +kernel
theorem f_Law_law_226 : fch r_Law_law.2.1 226 = some (.iload_n 3) := by decide +kernel
theorem f_Law_law_227 : fch r_Law_law.2.1 227 = some (.iconst 1) := by decide +kernel
theorem f_Law_law_228 : fch r_Law_law.2.1 228 = some (.iadd) := by decide +kernel
theorem f_Law_law_229 : fch r_Law_law.2.1 229 = some (.iaload) := by decide +kernel
theorem f_Law_law_230 : fch r_Law_law.2.1 230 = some (.aload_n 0) := by decide +kernel
theorem f_Law_law_231 : fch r_Law_law.2.1 231 = some (.iload_n 3) := by decide +kernel
theorem f_Law_law_232 : fch r_Law_law.2.1 232 = some (.iconst 2) := by decide +kernel
theorem f_Law_law_233 : fch r_Law_law.2.1 233 = some (.iadd) := by decide +kernel
theorem f_Law_law_234 : fch r_Law_law.2.1 234 = some (.iaload) := by decide +kernel
theorem f_Law_law_235 : fch r_Law_law.2.1 235 = some (.aload_n 0) := by decide +kernel
theorem f_Law_law_236 : fch r_Law_law.2.1 236 = some (.iload_n 3) := by decide +kernel
theorem f_Law_law_237 : fch r_Law_law.2.1 237 = some (.iconst 3) := by decide +kernel
theorem f_Law_law_238 : fch r_Law_law.2.1 238 = some (.iadd) := by decide +kernel
theorem f_Law_law_239 : fch r_Law_law.2.1 239 = some (.iaload) := by decide +kernel
theorem f_Law_law_240 : fch r_Law_law.2.1 240 = some (.invokevirtual 22) := by decide +kernel
theorem f_Law_law_243 : fch r_Law_law.2.1 243 = some (.if_icmp .eq 1266) := by decide +kernel
theorem f_Law_law_246 : fch r_Law_law.2.1 246 = some (.iconst 0) := by decide +kernel
theorem f_Law_law_247 : fch r_Law_law.2.1 247 = some (.ireturn) := by decide +kernel
theorem f_Law_law_248 : fch r_Law_law.2.1 248 = some (.aload_n 1) := by decide +kernel
theorem f_Law_law_249 : fch r_Law_law.2.1 249 = some (.aload_n 0) := by decide +kernel
theorem f_Law_law_250 : fch r_Law_law.2.1 250 = some (.iload_n 3) := by decide +kernel
theorem f_Law_law_251 : fch r_Law_law.2.1 251 = some (.iconst 1) := by decide +kernel
theorem f_Law_law_252 : fch r_Law_law.2.1 252 = some (.iadd) := by decide +kernel
theorem f_Law_law_253 : fch r_Law_law.2.1 253 = some (.iaload) := by decide +kernel
theorem f_Law_law_254 : fch r_Law_law.2.1 254 = some (.aload_n 0) := by decide +kernel
theorem f_Law_law_255 : fch r_Law_law.2.1 255 = some (.iload_n 3) := by decide +kernel
theorem f_Law_law_256 : fch r_Law_law.2.1 256 = some (.iconst 2) := by decide +kernel
theorem f_Law_law_257 : fch r_Law_law.2.1 257 = some (.iadd) := by decide +kernel
theorem f_Law_law_258 : fch r_Law_law.2.1 258 = some (.iaload) := by decide +kernel
theorem f_Law_law_259 : fch r_Law_law.2.1 259 = some (.aload_n 0) := by decide +kernel
theorem f_Law_law_260 : fch r_Law_law.2.1 260 = some (.iload_n 3) := by decide +kernel
theorem f_Law_law_261 : fch r_Law_law.2.1 261 = some (.iconst 3) := by decide +kernel
theorem f_Law_law_262 : fch r_Law_law.2.1 262 = some (.iadd) := by decide +kernel
theorem f_Law_law_263 : fch r_Law_law.2.1 263 = some (.iaload) := by decide +kernel
theorem f_Law_law_264 : fch r_Law_law.2.1 264 = some (.aload_n 0) := by decide +kernel
theorem f_Law_law_265 : fch r_Law_law.2.1 265 = some (.iload_n 3) := by decide +kernel
theorem f_Law_law_266 : fch r_Law_law.2.1 266 = some (.iconst 4) := by decide +kernel
theorem f_Law_law_267 : fch r_Law_law.2.1 267 = some (.iadd) := by decide +kernel
theorem f_Law_law_268 : fch r_Law_law.2.1 268 = some (.iaload) := by decide +kernel
theorem f_Law_law_269 : fch r_Law_law.2.1 269 = some (.aload_n 0) := by decide +kernel
theorem f_Law_law_270 : fch r_Law_law.2.1 270 = some (.iload_n 3) := by decide +kernel
theorem f_Law_law_271 : fch r_Law_law.2.1 271 = some (.iconst 5) := by decide +kernel
theorem f_Law_law_272 : fch r_Law_law.2.1 272 = some (.iadd) := by decide +kernel
theorem f_Law_law_273 : fch r_Law_law.2.1 273 = some (.iaload) := by decide +kernel
theorem f_Law_law_274 : fch r_Law_law.2.1 274 = some (.invokevirtual 23) := by decide +kernel
theorem f_Law_law_277 : fch r_Law_law.2.1 277 = some (.aload_n 2) := by decide +kernel
theorem f_Law_law_278 : fch r_Law_law.2.1 278 = some (.aload_n 0) := by decide +kernel
theorem f_Law_law_279 : fch r_Law_law.2.1 279 = some (.iload_n 3) := by decide +kernel
theorem f_Law_law_280 : fch r_Law_law.2.1 280 = some (.iconst 1) := by decide +kernel
theorem f_Law_law_281 : fch r_Law_law.2.1 281 = some (.iadd) := by decide +kernel
theorem f_Law_law_282 : fch r_Law_law.2.1 282 = some (.iaload) := by decide +kernel
theorem f_Law_law_283 : fch r_Law_law.2.1 283 = some (.aload_n 0) := by decide +kernel
theorem f_Law_law_284 : fch r_Law_law.2.1 284 = some (.iload_n 3) := by decide +kernel
theorem f_Law_law_285 : fch r_Law_law.2.1 285 = some (.iconst 2) := by decide +kernel
theorem f_Law_law_286 : fch r_Law_law.2.1 286 = some (.iadd) := by decide +kernel
theorem f_Law_law_287 : fch r_Law_law.2.1 287 = some (.iaload) := by decide +kernel
theorem f_Law_law_288 : fch r_Law_law.2.1 288 = some (.aload_n 0) := by decide +kernel
theorem f_Law_law_289 : fch r_Law_law.2.1 289 = some (.iload_n 3) := by decide +kernel
theorem f_Law_law_290 : fch r_Law_law.2.1 290 = some (.iconst 3) := by decide +kernel
theorem f_Law_law_291 : fch r_Law_law.2.1 291 = some (.iadd) := by decide +kernel
theorem f_Law_law_292 : fch r_Law_law.2.1 292 = some (.iaload) := by decide +kernel
theorem f_Law_law_293 : fch r_Law_law.2.1 293 = some (.aload_n 0) := by decide +kernel
theorem f_Law_law_294 : fch r_Law_law.2.1 294 = some (.iload_n 3) := by decide +kernel
theorem f_Law_law_295 : fch r_Law_law.2.1 295 = some (.iconst 4) := by decide +kernel
theorem f_Law_law_296 : fch r_Law_law.2.1 296 = some (.iadd) := by decide +kernel
theorem f_Law_law_297 : fch r_Law_law.2.1 297 = some (.iaload) := by decide +kernel
theorem f_Law_law_298 : fch r_Law_law.2.1 298 = some (.aload_n 0) := by decide +kernel
theorem f_Law_law_299 : fch r_Law_law.2.1 299 = some (.iload_n 3) := by decide +kernel
theorem f_Law_law_300 : fch r_Law_law.2.1 300 = some (.iconst 5) := by decide +kernel
theorem f_Law_law_301 : fch r_Law_law.2.1 301 = some (.iadd) := by decide +kernel
theorem f_Law_law_302 : fch r_Law_law.2.1 302 = some (.iaload) := by decide +kernel
theorem f_Law_law_303 : fch r_Law_law.2.1 303 = some (.invokevirtual 27) := by decide +kernel
theorem f_Law_law_306 : fch r_Law_law.2.1 306 = some (.if_icmp .eq 1203) := by decide +kernel
theorem f_Law_law_309 : fch r_Law_law.2.1 309 = some (.iconst 0) := by decide +kernel
theorem f_Law_law_310 : fch r_Law_law.2.1 310 = some (.ireturn) := by decide +kernel
theorem f_Law_law_311 : fch r_Law_law.2.1 311 = some (.aload_n 1) := by decide +kernel
theorem f_Law_law_312 : fch r_Law_law.2.1 312 = some (.aload_n 0) := by decide +kernel
theorem f_Law_law_313 : fch r_Law_law.2.1 313 = some (.iload_n 3) := by decide +kernel
theorem f_Law_law_314 : fch r_Law_law.2.1 314 = some (.iconst 1) := by decide +kernel
theorem f_Law_law_315 : fch r_Law_law.2.1 315 = some (.iadd) := by decide +kernel
theorem f_Law_law_316 : fch r_Law_law.2.1 316 = some (.iaload) := by decide +kernel
theorem f_Law_law_317 : fch r_Law_law.2.1 317 = some (.aload_n 0) := by decide +kernel
theorem f_Law_law_318 : fch r_Law_law.2.1 318 = some (.iload_n 3) := by decide +kernel
theorem f_Law_law_319 : fch r_Law_law.2.1 319 = some (.iconst 2) := by decide +kernel
theorem f_Law_law_320 : fch r_Law_law.2.1 320 = some (.iadd) := by decide +kernel
theorem f_Law_law_321 : fch r_Law_law.2.1 321 = some (.iaload) := by decide +kernel
theorem f_Law_law_322 : fch r_Law_law.2.1 322 = some (.aload_n 0) := by decide +kernel
theorem f_Law_law_323 : fch r_Law_law.2.1 323 = some (.iload_n 3) := by decide +kernel
theorem f_Law_law_324 : fch r_Law_law.2.1 324 = some (.iconst 3) := by decide +kernel
theorem f_Law_law_325 : fch r_Law_law.2.1 325 = some (.iadd) := by decide +kernel
theorem f_Law_law_326 : fch r_Law_law.2.1 326 = some (.iaload) := by decide +kernel
theorem f_Law_law_327 : fch r_Law_law.2.1 327 = some (.aload_n 0) := by decide +kernel
theorem f_Law_law_328 : fch r_Law_law.2.1 328 = some (.iload_n 3) := by decide +kernel
theorem f_Law_law_329 : fch r_Law_law.2.1 329 = some (.iconst 4) := by decide +kernel
theorem f_Law_law_330 : fch r_Law_law.2.1 330 = some (.iadd) := by decide +kernel
theorem f_Law_law_331 : fch r_Law_law.2.1 331 = some (.iaload) := by decide +kernel
theorem f_Law_law_332 : fch r_Law_law.2.1 332 = some (.aload_n 0) := by decide +kernel
theorem f_Law_law_333 : fch r_Law_law.2.1 333 = some (.iload_n 3) := by decide +kernel
theorem f_Law_law_334 : fch r_Law_law.2.1 334 = some (.iconst 5) := by decide +kernel
theorem f_Law_law_335 : fch r_Law_law.2.1 335 = some (.iadd) := by decide +kernel
theorem f_Law_law_336 : fch r_Law_law.2.1 336 = some (.iaload) := by decide +kernel
theorem f_Law_law_337 : fch r_Law_law.2.1 337 = some (.invokevirtual 28) := by decide +kernel
theorem f_Law_law_340 : fch r_Law_law.2.1 340 = some (.aload_n 2) := by decide +kernel
theorem f_Law_law_341 : fch r_Law_law.2.1 341 = some (.aload_n 0) := by decide +kernel
theorem f_Law_law_342 : fch r_Law_law.2.1 342 = some (.iload_n 3) := by decide +kernel
theorem f_Law_law_343 : fch r_Law_law.2.1 343 = some (.iconst 1) := by decide +kernel
theorem f_Law_law_344 : fch r_Law_law.2.1 344 = some (.iadd) := by decide +kernel
theorem f_Law_law_345 : fch r_Law_law.2.1 345 = some (.iaload) := by decide +kernel
theorem f_Law_law_346 : fch r_Law_law.2.1 346 = some (.aload_n 0) := by decide +kernel
theorem f_Law_law_347 : fch r_Law_law.2.1 347 = some (.iload_n 3) := by decide +kernel
theorem f_Law_law_348 : fch r_Law_law.2.1 348 = some (.iconst 2) := by decide +kernel
theorem f_Law_law_349 : fch r_Law_law.2.1 349 = some (.iadd) := by decide +kernel
theorem f_Law_law_350 : fch r_Law_law.2.1 350 = some (.iaload) := by decide +kernel
theorem f_Law_law_351 : fch r_Law_law.2.1 351 = some (.aload_n 0) := by decide +kernel
theorem f_Law_law_352 : fch r_Law_law.2.1 352 = some (.iload_n 3) := by decide +kernel
theorem f_Law_law_353 : fch r_Law_law.2.1 353 = some (.iconst 3) := by decide +kernel
theorem f_Law_law_354 : fch r_Law_law.2.1 354 = some (.iadd) := by decide +kernel
theorem f_Law_law_355 : fch r_Law_law.2.1 355 = some (.iaload) := by decide +kernel
theorem f_Law_law_356 : fch r_Law_law.2.1 356 = some (.aload_n 0) := by decide +kernel
theorem f_Law_law_357 : fch r_Law_law.2.1 357 = some (.iload_n 3) := by decide +kernel
theorem f_Law_law_358 : fch r_Law_law.2.1 358 = some (.iconst 4) := by decide +kernel
theorem f_Law_law_359 : fch r_Law_law.2.1 359 = some (.iadd) := by decide +kernel
theorem f_Law_law_360 : fch r_Law_law.2.1 360 = some (.iaload) := by decide +kernel
theorem f_Law_law_361 : fch r_Law_law.2.1 361 = some (.aload_n 0) := by decide +kernel
theorem f_Law_law_362 : fch r_Law_law.2.1 362 = some (.iload_n 3) := by decide +kernel
theorem f_Law_law_363 : fch r_Law_law.2.1 363 = some (.iconst 5) := by decide +kernel
theorem f_Law_law_364 : fch r_Law_law.2.1 364 = some (.iadd) := by decide +kernel
theorem f_Law_law_365 : fch r_Law_law.2.1 365 = some (.iaload) := by decide +kernel
theorem f_Law_law_366 : fch r_Law_law.2.1 366 = some (.invokevirtual 31) := by decide +kernel
theorem f_Law_law_369 : fch r_Law_law.2.1 369 = some (.if_icmp .eq 1140) := by decide +kernel
theorem f_Law_law_372 : fch r_Law_law.2.1 372 = some (.iconst 0) := by decide +kernel
theorem f_Law_law_373 : fch r_Law_law.2.1 373 = some (.ireturn) := by decide +kernel
theorem f_Law_law_374 : fch r_Law_law.2.1 374 = some (.aload_n 1) := by decide +kernel
theorem f_Law_law_375 : fch r_Law_law.2.1 375 = some (.aload_n 0) := by decide +kernel
theorem f_Law_law_376 : fch r_Law_law.2.1 376 = some (.iload_n 3) := by decide +kernel
theorem f_Law_law_377 : fch r_Law_law.2.1 377 = some (.iconst 1) := by decide +kernel
theorem f_Law_law_378 : fch r_Law_law.2.1 378 = some (.iadd) := by decide +kernel
theorem f_Law_law_379 : fch r_Law_law.2.1 379 = some (.iaload) := by decide +kernel
theorem f_Law_law_380 : fch r_Law_law.2.1 380 = some (.aload_n 0) := by decide +kernel
theorem f_Law_law_381 : fch r_Law_law.2.1 381 = some (.iload_n 3) := by decide +kernel
theorem f_Law_law_382 : fch r_Law_law.2.1 382 = some (.iconst 2) := by decide +kernel
theorem f_Law_law_383 : fch r_Law_law.2.1 383 = some (.iadd) := by decide +kernel
theorem f_Law_law_384 : fch r_Law_law.2.1 384 = some (.iaload) := by decide +kernel
theorem f_Law_law_385 : fch r_Law_law.2.1 385 = some (.aload_n 0) := by decide +kernel
theorem f_Law_law_386 : fch r_Law_law.2.1 386 = some (.iload_n 3) := by decide +kernel
theorem f_Law_law_387 : fch r_Law_law.2.1 387 = some (.iconst 3) := by decide +kernel
theorem f_Law_law_388 : fch r_Law_law.2.1 388 = some (.iadd) := by decide +kernel
theorem f_Law_law_389 : fch r_Law_law.2.1 389 = some (.iaload) := by decide +kernel
theorem f_Law_law_390 : fch r_Law_law.2.1 390 = some (.aload_n 0) := by decide +kernel
theorem f_Law_law_391 : fch r_Law_law.2.1 391 = some (.iload_n 3) := by decide +kernel
theorem f_Law_law_392 : fch r_Law_law.2.1 392 = some (.iconst 4) := by decide +kernel
theorem f_Law_law_393 : fch r_Law_law.2.1 393 = some (.iadd) := by decide +kernel
theorem f_Law_law_394 : fch r_Law_law.2.1 394 = some (.iaload) := by decide +kernel
theorem f_Law_law_395 : fch r_Law_law.2.1 395 = some (.aload_n 0) := by decide +kernel
theorem f_Law_law_396 : fch r_Law_law.2.1 396 = some (.iload_n 3) := by decide +kernel
theorem f_Law_law_397 : fch r_Law_law.2.1 397 = some (.iconst 5) := by decide +kernel
theorem f_Law_law_398 : fch r_Law_law.2.1 398 = some (.iadd) := by decide +kernel
theorem f_Law_law_399 : fch r_Law_law.2.1 399 = some (.iaload) := by decide +kernel
theorem f_Law_law_400 : fch r_Law_law.2.1 400 = some (.invokevirtual 32) := by decide +kernel
theorem f_Law_law_403 : fch r_Law_law.2.1 403 = some (.aload_n 2) := by decide +kernel
theorem f_Law_law_404 : fch r_Law_law.2.1 404 = some (.aload_n 0) := by decide +kernel
theorem f_Law_law_405 : fch r_Law_law.2.1 405 = some (.iload_n 3) := by decide +kernel
theorem f_Law_law_406 : fch r_Law_law.2.1 406 = some (.iconst 1) := by decide +kernel
theorem f_Law_law_407 : fch r_Law_law.2.1 407 = some (.iadd) := by decide +kernel
theorem f_Law_law_408 : fch r_Law_law.2.1 408 = some (.iaload) := by decide +kernel
theorem f_Law_law_409 : fch r_Law_law.2.1 409 = some (.aload_n 0) := by decide +kernel
theorem f_Law_law_410 : fch r_Law_law.2.1 410 = some (.iload_n 3) := by decide +kernel
theorem f_Law_law_411 : fch r_Law_law.2.1 411 = some (.iconst 2) := by decide +kernel
theorem f_Law_law_412 : fch r_Law_law.2.1 412 = some (.iadd) := by decide +kernel
theorem f_Law_law_413 : fch r_Law_law.2.1 413 = some (.iaload) := by decide +kernel
theorem f_Law_law_414 : fch r_Law_law.2.1 414 = some (.aload_n 0) := by decide +kernel
theorem f_Law_law_415 : fch r_Law_law.2.1 415 = some (.iload_n 3) := by decide +kernel
theorem f_Law_law_416 : fch r_Law_law.2.1 416 = some (.iconst 3) := by decide +kernel
theorem f_Law_law_417 : fch r_Law_law.2.1 417 = some (.iadd) := by decide +kernel
theorem f_Law_law_418 : fch r_Law_law.2.1 418 = some (.iaload) := by decide +kernel
theorem f_Law_law_419 : fch r_Law_law.2.1 419 = some (.aload_n 0) := by decide +kernel
theorem f_Law_law_420 : fch r_Law_law.2.1 420 = some (.iload_n 3) := by decide +kernel
theorem f_Law_law_421 : fch r_Law_law.2.1 421 = some (.iconst 4) := by decide +kernel
theorem f_Law_law_422 : fch r_Law_law.2.1 422 = some (.iadd) := by decide +kernel
theorem f_Law_law_423 : fch r_Law_law.2.1 423 = some (.iaload) := by decide +kernel
theorem f_Law_law_424 : fch r_Law_law.2.1 424 = some (.aload_n 0) := by decide +kernel
theorem f_Law_law_425 : fch r_Law_law.2.1 425 = some (.iload_n 3) := by decide +kernel
theorem f_Law_law_426 : fch r_Law_law.2.1 426 = some (.iconst 5) := by decide +kernel
theorem f_Law_law_427 : fch r_Law_law.2.1 427 = some (.iadd) := by decide +kernel
theorem f_Law_law_428 : fch r_Law_law.2.1 428 = some (.iaload) := by decide +kernel
theorem f_Law_law_429 : fch r_Law_law.2.1 429 = some (.invokevirtual 35) := by decide +kernel
theorem f_Law_law_432 : fch r_Law_law.2.1 432 = some (.if_icmp .eq 1077) := by decide +kernel
theorem f_Law_law_435 : fch r_Law_law.2.1 435 = some (.iconst 0) := by decide +kernel
theorem f_Law_law_436 : fch r_Law_law.2.1 436 = some (.ireturn) := by decide +kernel
theorem f_Law_law_437 : fch r_Law_law.2.1 437 = some (.aload_n 1) := by decide +kernel
theorem f_Law_law_438 : fch r_Law_law.2.1 438 = some (.aload_n 0) := by decide +kernel
theorem f_Law_law_439 : fch r_Law_law.2.1 439 = some (.iload_n 3) := by decide +kernel
theorem f_Law_law_440 : fch r_Law_law.2.1 440 = some (.iconst 1) := by decide +kernel
theorem f_Law_law_441 : fch r_Law_law.2.1 441 = some (.iadd) := by decide +kernel
theorem f_Law_law_442 : fch r_Law_law.2.1 442 = some (.iaload) := by decide +kernel
theorem f_Law_law_443 : fch r_Law_law.2.1 443 = some (.aload_n 0) := by decide +kernel
theorem f_Law_law_444 : fch r_Law_law.2.1 444 = some (.iload_n 3) := by decide +kernel
theorem f_Law_law_445 : fch r_Law_law.2.1 445 = some (.iconst 2) := by decide +kernel
theorem f_Law_law_446 : fch r_Law_law.2.1 446 = some (.iadd) := by decide +kernel
theorem f_Law_law_447 : fch r_Law_law.2.1 447 = some (.iaload) := by decide +kernel
theorem f_Law_law_448 : fch r_Law_law.2.1 448 = some (.aload_n 0) := by decide +kernel
theorem f_Law_law_449 : fch r_Law_law.2.1 449 = some (.iload_n 3) := by decide +kernel
theorem f_Law_law_450 : fch r_Law_law.2.1 450 = some (.iconst 3) := by decide +kernel
theorem f_Law_law_451 : fch r_Law_law.2.1 451 = some (.iadd) := by decide +kernel
theorem f_Law_law_452 : fch r_Law_law.2.1 452 = some (.iaload) := by decide +kernel
theorem f_Law_law_453 : fch r_Law_law.2.1 453 = some (.ifCond .eq 7) := by decide +kernel
theorem f_Law_law_456 : fch r_Law_law.2.1 456 = some (.iconst 1) := by decide +kernel
theorem f_Law_law_457 : fch r_Law_law.2.1 457 = some (.goto 4) := by decide +kernel
theorem f_Law_law_460 : fch r_Law_law.2.1 460 = some (.iconst 0) := by decide +kernel
theorem f_Law_law_461 : fch r_Law_law.2.1 461 = some (.invokevirtual 36) := by decide +kernel
theorem f_Law_law_464 : fch r_Law_law.2.1 464 = some (.aload_n 2) := by decide +kernel
theorem f_Law_law_465 : fch r_Law_law.2.1 465 = some (.aload_n 0) := by decide +kernel
theorem f_Law_law_466 : fch r_Law_law.2.1 466 = some (.iload_n 3) := by decide +kernel
theorem f_Law_law_467 : fch r_Law_law.2.1 467 = some (.iconst 1) := by decide +kernel
theorem f_Law_law_468 : fch r_Law_law.2.1 468 = some (.iadd) := by decide +kernel
theorem f_Law_law_469 : fch r_Law_law.2.1 469 = some (.iaload) := by decide +kernel
theorem f_Law_law_470 : fch r_Law_law.2.1 470 = some (.aload_n 0) := by decide +kernel
theorem f_Law_law_471 : fch r_Law_law.2.1 471 = some (.iload_n 3) := by decide +kernel
theorem f_Law_law_472 : fch r_Law_law.2.1 472 = some (.iconst 2) := by decide +kernel
theorem f_Law_law_473 : fch r_Law_law.2.1 473 = some (.iadd) := by decide +kernel
theorem f_Law_law_474 : fch r_Law_law.2.1 474 = some (.iaload) := by decide +kernel
theorem f_Law_law_475 : fch r_Law_law.2.1 475 = some (.aload_n 0) := by decide +kernel
theorem f_Law_law_476 : fch r_Law_law.2.1 476 = some (.iload_n 3) := by decide +kernel
theorem f_Law_law_477 : fch r_Law_law.2.1 477 = some (.iconst 3) := by decide +kernel
theorem f_Law_law_478 : fch r_Law_law.2.1 478 = some (.iadd) := by decide +kernel
theorem f_Law_law_479 : fch r_Law_law.2.1 479 = some (.iaload) := by decide +kernel
theorem f_Law_law_480 : fch r_Law_law.2.1 480 = some (.ifCond .eq 7) := by decide +kernel
theorem f_Law_law_483 : fch r_Law_law.2.1 483 = some (.iconst 1) := by decide +kernel
theorem f_Law_law_484 : fch r_Law_law.2.1 484 = some (.goto 4) := by decide +kernel
theorem f_Law_law_487 : fch r_Law_law.2.1 487 = some (.iconst 0) := by decide +kernel
theorem f_Law_law_488 : fch r_Law_law.2.1 488 = some (.invokevirtual 40) := by decide +kernel
theorem f_Law_law_491 : fch r_Law_law.2.1 491 = some (.if_icmp .eq 1018) := by decide +kernel
theorem f_Law_law_494 : fch r_Law_law.2.1 494 = some (.iconst 0) := by decide +kernel
theorem f_Law_law_495 : fch r_Law_law.2.1 495 = some (.ireturn) := by decide +kernel
theorem f_Law_law_496 : fch r_Law_law.2.1 496 = some (.aload_n 1) := by decide +kernel
theorem f_Law_law_497 : fch r_Law_law.2.1 497 = some (.aload_n 0) := by decide +kernel
theorem f_Law_law_498 : fch r_Law_law.2.1 498 = some (.iload_n 3) := by decide +kernel
theorem f_Law_law_499 : fch r_Law_law.2.1 499 = some (.iconst 1) := by decide +kernel
theorem f_Law_law_500 : fch r_Law_law.2.1 500 = some (.iadd) := by decide +kernel
theorem f_Law_law_501 : fch r_Law_law.2.1 501 = some (.iaload) := by decide +kernel
theorem f_Law_law_502 : fch r_Law_law.2.1 502 = some (.aload_n 0) := by decide +kernel
theorem f_Law_law_503 : fch r_Law_law.2.1 503 = some (.iload_n 3) := by decide +kernel
theorem f_Law_law_504 : fch r_Law_law.2.1 504 = some (.iconst 2) := by decide +kernel
theorem f_Law_law_505 : fch r_Law_law.2.1 505 = some (.iadd) := by decide +kernel
theorem f_Law_law_506 : fch r_Law_law.2.1 506 = some (.iaload) := by decide +kernel
theorem f_Law_law_507 : fch r_Law_law.2.1 507 = some (.aload_n 0) := by decide +kernel
theorem f_Law_law_508 : fch r_Law_law.2.1 508 = some (.iload_n 3) := by decide +kernel
theorem f_Law_law_509 : fch r_Law_law.2.1 509 = some (.iconst 3) := by decide +kernel
theorem f_Law_law_510 : fch r_Law_law.2.1 510 = some (.iadd) := by decide +kernel
theorem f_Law_law_511 : fch r_Law_law.2.1 511 = some (.iaload) := by decide +kernel
theorem f_Law_law_512 : fch r_Law_law.2.1 512 = some (.invokevirtual 41) := by decide +kernel
theorem f_Law_law_515 : fch r_Law_law.2.1 515 = some (.aload_n 2) := by decide +kernel
theorem f_Law_law_516 : fch r_Law_law.2.1 516 = some (.aload_n 0) := by decide +kernel
theorem f_Law_law_517 : fch r_Law_law.2.1 517 = some (.iload_n 3) := by decide +kernel
theorem f_Law_law_518 : fch r_Law_law.2.1 518 = some (.iconst 1) := by decide +kernel
theorem f_Law_law_519 : fch r_Law_law.2.1 519 = some (.iadd) := by decide +kernel
theorem f_Law_law_520 : fch r_Law_law.2.1 520 = some (.iaload) := by decide +kernel
theorem f_Law_law_521 : fch r_Law_law.2.1 521 = some (.aload_n 0) := by decide +kernel
theorem f_Law_law_522 : fch r_Law_law.2.1 522 = some (.iload_n 3) := by decide +kernel
theorem f_Law_law_523 : fch r_Law_law.2.1 523 = some (.iconst 2) := by decide +kernel
theorem f_Law_law_524 : fch r_Law_law.2.1 524 = some (.iadd) := by decide +kernel
theorem f_Law_law_525 : fch r_Law_law.2.1 525 = some (.iaload) := by decide +kernel
theorem f_Law_law_526 : fch r_Law_law.2.1 526 = some (.aload_n 0) := by decide +kernel
theorem f_Law_law_527 : fch r_Law_law.2.1 527 = some (.iload_n 3) := by decide +kernel
theorem f_Law_law_528 : fch r_Law_law.2.1 528 = some (.iconst 3) := by decide +kernel
theorem f_Law_law_529 : fch r_Law_law.2.1 529 = some (.iadd) := by decide +kernel
theorem f_Law_law_530 : fch r_Law_law.2.1 530 = some (.iaload) := by decide +kernel
theorem f_Law_law_531 : fch r_Law_law.2.1 531 = some (.invokevirtual 44) := by decide +kernel
theorem f_Law_law_534 : fch r_Law_law.2.1 534 = some (.if_icmp .eq 975) := by decide +kernel
theorem f_Law_law_537 : fch r_Law_law.2.1 537 = some (.iconst 0) := by decide +kernel
theorem f_Law_law_538 : fch r_Law_law.2.1 538 = some (.ireturn) := by decide +kernel
theorem f_Law_law_539 : fch r_Law_law.2.1 539 = some (.aload_n 1) := by decide +kernel
theorem f_Law_law_540 : fch r_Law_law.2.1 540 = some (.aload_n 0) := by decide +kernel
theorem f_Law_law_541 : fch r_Law_law.2.1 541 = some (.iload_n 3) := by decide +kernel
theorem f_Law_law_542 : fch r_Law_law.2.1 542 = some (.iconst 1) := by decide +kernel
theorem f_Law_law_543 : fch r_Law_law.2.1 543 = some (.iadd) := by decide +kernel
theorem f_Law_law_544 : fch r_Law_law.2.1 544 = some (.iaload) := by decide +kernel
theorem f_Law_law_545 : fch r_Law_law.2.1 545 = some (.aload_n 0) := by decide +kernel
theorem f_Law_law_546 : fch r_Law_law.2.1 546 = some (.iload_n 3) := by decide +kernel
theorem f_Law_law_547 : fch r_Law_law.2.1 547 = some (.iconst 2) := by decide +kernel
theorem f_Law_law_548 : fch r_Law_law.2.1 548 = some (.iadd) := by decide +kernel
theorem f_Law_law_549 : fch r_Law_law.2.1 549 = some (.iaload) := by decide +kernel
theorem f_Law_law_550 : fch r_Law_law.2.1 550 = some (.aload_n 0) := by decide +kernel
theorem f_Law_law_551 : fch r_Law_law.2.1 551 = some (.iload_n 3) := by decide +kernel
theorem f_Law_law_552 : fch r_Law_law.2.1 552 = some (.iconst 3) := by decide +kernel
theorem f_Law_law_553 : fch r_Law_law.2.1 553 = some (.iadd) := by decide +kernel
theorem f_Law_law_554 : fch r_Law_law.2.1 554 = some (.iaload) := by decide +kernel
theorem f_Law_law_555 : fch r_Law_law.2.1 555 = some (.invokevirtual 45) := by decide +kernel
theorem f_Law_law_558 : fch r_Law_law.2.1 558 = some (.aload_n 2) := by decide +kernel
theorem f_Law_law_559 : fch r_Law_law.2.1 559 = some (.aload_n 0) := by decide +kernel
theorem f_Law_law_560 : fch r_Law_law.2.1 560 = some (.iload_n 3) := by decide +kernel
theorem f_Law_law_561 : fch r_Law_law.2.1 561 = some (.iconst 1) := by decide +kernel
theorem f_Law_law_562 : fch r_Law_law.2.1 562 = some (.iadd) := by decide +kernel
theorem f_Law_law_563 : fch r_Law_law.2.1 563 = some (.iaload) := by decide +kernel
theorem f_Law_law_564 : fch r_Law_law.2.1 564 = some (.aload_n 0) := by decide +kernel
theorem f_Law_law_565 : fch r_Law_law.2.1 565 = some (.iload_n 3) := by decide +kernel
theorem f_Law_law_566 : fch r_Law_law.2.1 566 = some (.iconst 2) := by decide +kernel
theorem f_Law_law_567 : fch r_Law_law.2.1 567 = some (.iadd) := by decide +kernel
theorem f_Law_law_568 : fch r_Law_law.2.1 568 = some (.iaload) := by decide +kernel
theorem f_Law_law_569 : fch r_Law_law.2.1 569 = some (.aload_n 0) := by decide +kernel
theorem f_Law_law_570 : fch r_Law_law.2.1 570 = some (.iload_n 3) := by decide +kernel
theorem f_Law_law_571 : fch r_Law_law.2.1 571 = some (.iconst 3) := by decide +kernel
theorem f_Law_law_572 : fch r_Law_law.2.1 572 = some (.iadd) := by decide +kernel
theorem f_Law_law_573 : fch r_Law_law.2.1 573 = some (.iaload) := by decide +kernel
theorem f_Law_law_574 : fch r_Law_law.2.1 574 = some (.invokevirtual 48) := by decide +kernel
theorem f_Law_law_577 : fch r_Law_law.2.1 577 = some (.if_icmp .eq 932) := by decide +kernel
theorem f_Law_law_580 : fch r_Law_law.2.1 580 = some (.iconst 0) := by decide +kernel
theorem f_Law_law_581 : fch r_Law_law.2.1 581 = some (.ireturn) := by decide +kernel
theorem f_Law_law_582 : fch r_Law_law.2.1 582 = some (.aload_n 1) := by decide +kernel
theorem f_Law_law_583 : fch r_Law_law.2.1 583 = some (.aload_n 0) := by decide +kernel
theorem f_Law_law_584 : fch r_Law_law.2.1 584 = some (.iload_n 3) := by decide +kernel
theorem f_Law_law_585 : fch r_Law_law.2.1 585 = some (.iconst 1) := by decide +kernel
theorem f_Law_law_586 : fch r_Law_law.2.1 586 = some (.iadd) := by decide +kernel
theorem f_Law_law_587 : fch r_Law_law.2.1 587 = some (.iaload) := by decide +kernel
theorem f_Law_law_588 : fch r_Law_law.2.1 588 = some (.aload_n 0) := by decide +kernel
theorem f_Law_law_589 : fch r_Law_law.2.1 589 = some (.iload_n 3) := by decide +kernel
theorem f_Law_law_590 : fch r_Law_law.2.1 590 = some (.iconst 2) := by decide +kernel
theorem f_Law_law_591 : fch r_Law_law.2.1 591 = some (.iadd) := by decide +kernel
theorem f_Law_law_592 : fch r_Law_law.2.1 592 = some (.iaload) := by decide +kernel
theorem f_Law_law_593 : fch r_Law_law.2.1 593 = some (.aload_n 0) := by decide +kernel
theorem f_Law_law_594 : fch r_Law_law.2.1 594 = some (.iload_n 3) := by decide +kernel
theorem f_Law_law_595 : fch r_Law_law.2.1 595 = some (.iconst 3) := by decide +kernel
theorem f_Law_law_596 : fch r_Law_law.2.1 596 = some (.iadd) := by decide +kernel
theorem f_Law_law_597 : fch r_Law_law.2.1 597 = some (.iaload) := by decide +kernel
theorem f_Law_law_598 : fch r_Law_law.2.1 598 = some (.aload_n 0) := by decide +kernel
theorem f_Law_law_599 : fch r_Law_law.2.1 599 = some (.iload_n 3) := by decide +kernel
theorem f_Law_law_600 : fch r_Law_law.2.1 600 = some (.iconst 4) := by decide +kernel
theorem f_Law_law_601 : fch r_Law_law.2.1 601 = some (.iadd) := by decide +kernel
theorem f_Law_law_602 : fch r_Law_law.2.1 602 = some (.iaload) := by decide +kernel
theorem f_Law_law_603 : fch r_Law_law.2.1 603 = some (.invokevirtual 49) := by decide +kernel
theorem f_Law_law_606 : fch r_Law_law.2.1 606 = some (.aload_n 2) := by decide +kernel
theorem f_Law_law_607 : fch r_Law_law.2.1 607 = some (.aload_n 0) := by decide +kernel
theorem f_Law_law_608 : fch r_Law_law.2.1 608 = some (.iload_n 3) := by decide +kernel
theorem f_Law_law_609 : fch r_Law_law.2.1 609 = some (.iconst 1) := by decide +kernel
theorem f_Law_law_610 : fch r_Law_law.2.1 610 = some (.iadd) := by decide +kernel
theorem f_Law_law_611 : fch r_Law_law.2.1 611 = some (.iaload) := by decide +kernel
theorem f_Law_law_612 : fch r_Law_law.2.1 612 = some (.aload_n 0) := by decide +kernel
theorem f_Law_law_613 : fch r_Law_law.2.1 613 = some (.iload_n 3) := by decide +kernel
theorem f_Law_law_614 : fch r_Law_law.2.1 614 = some (.iconst 2) := by decide +kernel
theorem f_Law_law_615 : fch r_Law_law.2.1 615 = some (.iadd) := by decide +kernel
theorem f_Law_law_616 : fch r_Law_law.2.1 616 = some (.iaload) := by decide +kernel
theorem f_Law_law_617 : fch r_Law_law.2.1 617 = some (.aload_n 0) := by decide +kernel
theorem f_Law_law_618 : fch r_Law_law.2.1 618 = some (.iload_n 3) := by decide +kernel
theorem f_Law_law_619 : fch r_Law_law.2.1 619 = some (.iconst 3) := by decide +kernel
theorem f_Law_law_620 : fch r_Law_law.2.1 620 = some (.iadd) := by decide +kernel
theorem f_Law_law_621 : fch r_Law_law.2.1 621 = some (.iaload) := by decide +kernel
theorem f_Law_law_622 : fch r_Law_law.2.1 622 = some (.aload_n 0) := by decide +kernel
theorem f_Law_law_623 : fch r_Law_law.2.1 623 = some (.iload_n 3) := by decide +kernel
theorem f_Law_law_624 : fch r_Law_law.2.1 624 = some (.iconst 4) := by decide +kernel
theorem f_Law_law_625 : fch r_Law_law.2.1 625 = some (.iadd) := by decide +kernel
theorem f_Law_law_626 : fch r_Law_law.2.1 626 = some (.iaload) := by decide +kernel
theorem f_Law_law_627 : fch r_Law_law.2.1 627 = some (.invokevirtual 53) := by decide +kernel
theorem f_Law_law_630 : fch r_Law_law.2.1 630 = some (.if_icmp .eq 879) := by decide +kernel
theorem f_Law_law_633 : fch r_Law_law.2.1 633 = some (.iconst 0) := by decide +kernel
theorem f_Law_law_634 : fch r_Law_law.2.1 634 = some (.ireturn) := by decide +kernel
theorem f_Law_law_635 : fch r_Law_law.2.1 635 = some (.aload_n 1) := by decide +kernel
theorem f_Law_law_636 : fch r_Law_law.2.1 636 = some (.aload_n 0) := by decide +kernel
theorem f_Law_law_637 : fch r_Law_law.2.1 637 = some (.iload_n 3) := by decide +kernel
theorem f_Law_law_638 : fch r_Law_law.2.1 638 = some (.iconst 1) := by decide +kernel
theorem f_Law_law_639 : fch r_Law_law.2.1 639 = some (.iadd) := by decide +kernel
theorem f_Law_law_640 : fch r_Law_law.2.1 640 = some (.iaload) := by decide +kernel
theorem f_Law_law_641 : fch r_Law_law.2.1 641 = some (.aload_n 0) := by decide +kernel
theorem f_Law_law_642 : fch r_Law_law.2.1 642 = some (.iload_n 3) := by decide +kernel
theorem f_Law_law_643 : fch r_Law_law.2.1 643 = some (.iconst 2) := by decide +kernel
theorem f_Law_law_644 : fch r_Law_law.2.1 644 = some (.iadd) := by decide +kernel
theorem f_Law_law_645 : fch r_Law_law.2.1 645 = some (.iaload) := by decide +kernel
theorem f_Law_law_646 : fch r_Law_law.2.1 646 = some (.invokevirtual 54) := by decide +kernel
theorem f_Law_law_649 : fch r_Law_law.2.1 649 = some (.aload_n 2) := by decide +kernel
theorem f_Law_law_650 : fch r_Law_law.2.1 650 = some (.aload_n 0) := by decide +kernel
theorem f_Law_law_651 : fch r_Law_law.2.1 651 = some (.iload_n 3) := by decide +kernel
theorem f_Law_law_652 : fch r_Law_law.2.1 652 = some (.iconst 1) := by decide +kernel
theorem f_Law_law_653 : fch r_Law_law.2.1 653 = some (.iadd) := by decide +kernel
theorem f_Law_law_654 : fch r_Law_law.2.1 654 = some (.iaload) := by decide +kernel
theorem f_Law_law_655 : fch r_Law_law.2.1 655 = some (.aload_n 0) := by decide +kernel
theorem f_Law_law_656 : fch r_Law_law.2.1 656 = some (.iload_n 3) := by decide +kernel
theorem f_Law_law_657 : fch r_Law_law.2.1 657 = some (.iconst 2) := by decide +kernel
theorem f_Law_law_658 : fch r_Law_law.2.1 658 = some (.iadd) := by decide +kernel
theorem f_Law_law_659 : fch r_Law_law.2.1 659 = some (.iaload) := by decide +kernel
theorem f_Law_law_660 : fch r_Law_law.2.1 660 = some (.invokevirtual 57) := by decide +kernel
theorem f_Law_law_663 : fch r_Law_law.2.1 663 = some (.if_icmp .eq 846) := by decide +kernel
theorem f_Law_law_666 : fch r_Law_law.2.1 666 = some (.iconst 0) := by decide +kernel
theorem f_Law_law_667 : fch r_Law_law.2.1 667 = some (.ireturn) := by decide +kernel
theorem f_Law_law_668 : fch r_Law_law.2.1 668 = some (.aload_n 1) := by decide +kernel
theorem f_Law_law_669 : fch r_Law_law.2.1 669 = some (.aload_n 0) := by decide +kernel
theorem f_Law_law_670 : fch r_Law_law.2.1 670 = some (.iload_n 3) := by decide +kernel
theorem f_Law_law_671 : fch r_Law_law.2.1 671 = some (.iconst 1) := by decide +kernel
theorem f_Law_law_672 : fch r_Law_law.2.1 672 = some (.iadd) := by decide +kernel
theorem f_Law_law_673 : fch r_Law_law.2.1 673 = some (.iaload) := by decide +kernel
theorem f_Law_law_674 : fch r_Law_law.2.1 674 = some (.aload_n 0) := by decide +kernel
theorem f_Law_law_675 : fch r_Law_law.2.1 675 = some (.iload_n 3) := by decide +kernel
theorem f_Law_law_676 : fch r_Law_law.2.1 676 = some (.iconst 2) := by decide +kernel
theorem f_Law_law_677 : fch r_Law_law.2.1 677 = some (.iadd) := by decide +kernel
theorem f_Law_law_678 : fch r_Law_law.2.1 678 = some (.iaload) := by decide +kernel
theorem f_Law_law_679 : fch r_Law_law.2.1 679 = some (.aload_n 0) := by decide +kernel
theorem f_Law_law_680 : fch r_Law_law.2.1 680 = some (.iload_n 3) := by decide +kernel
theorem f_Law_law_681 : fch r_Law_law.2.1 681 = some (.iconst 3) := by decide +kernel
theorem f_Law_law_682 : fch r_Law_law.2.1 682 = some (.iadd) := by decide +kernel
theorem f_Law_law_683 : fch r_Law_law.2.1 683 = some (.iaload) := by decide +kernel
theorem f_Law_law_684 : fch r_Law_law.2.1 684 = some (.invokevirtual 58) := by decide +kernel
theorem f_Law_law_687 : fch r_Law_law.2.1 687 = some (.aload_n 2) := by decide +kernel
theorem f_Law_law_688 : fch r_Law_law.2.1 688 = some (.aload_n 0) := by decide +kernel
theorem f_Law_law_689 : fch r_Law_law.2.1 689 = some (.iload_n 3) := by decide +kernel
theorem f_Law_law_690 : fch r_Law_law.2.1 690 = some (.iconst 1) := by decide +kernel
theorem f_Law_law_691 : fch r_Law_law.2.1 691 = some (.iadd) := by decide +kernel
theorem f_Law_law_692 : fch r_Law_law.2.1 692 = some (.iaload) := by decide +kernel
theorem f_Law_law_693 : fch r_Law_law.2.1 693 = some (.aload_n 0) := by decide +kernel
theorem f_Law_law_694 : fch r_Law_law.2.1 694 = some (.iload_n 3) := by decide +kernel
theorem f_Law_law_695 : fch r_Law_law.2.1 695 = some (.iconst 2) := by decide +kernel
theorem f_Law_law_696 : fch r_Law_law.2.1 696 = some (.iadd) := by decide +kernel
theorem f_Law_law_697 : fch r_Law_law.2.1 697 = some (.iaload) := by decide +kernel
theorem f_Law_law_698 : fch r_Law_law.2.1 698 = some (.aload_n 0) := by decide +kernel
theorem f_Law_law_699 : fch r_Law_law.2.1 699 = some (.iload_n 3) := by decide +kernel
theorem f_Law_law_700 : fch r_Law_law.2.1 700 = some (.iconst 3) := by decide +kernel
theorem f_Law_law_701 : fch r_Law_law.2.1 701 = some (.iadd) := by decide +kernel
theorem f_Law_law_702 : fch r_Law_law.2.1 702 = some (.iaload) := by decide +kernel
theorem f_Law_law_703 : fch r_Law_law.2.1 703 = some (.invokevirtual 61) := by decide +kernel
theorem f_Law_law_706 : fch r_Law_law.2.1 706 = some (.if_icmp .eq 803) := by decide +kernel
theorem f_Law_law_709 : fch r_Law_law.2.1 709 = some (.iconst 0) := by decide +kernel
theorem f_Law_law_710 : fch r_Law_law.2.1 710 = some (.ireturn) := by decide +kernel
theorem f_Law_law_711 : fch r_Law_law.2.1 711 = some (.aload_n 1) := by decide +kernel
theorem f_Law_law_712 : fch r_Law_law.2.1 712 = some (.aload_n 0) := by decide +kernel
theorem f_Law_law_713 : fch r_Law_law.2.1 713 = some (.iload_n 3) := by decide +kernel
theorem f_Law_law_714 : fch r_Law_law.2.1 714 = some (.iconst 1) := by decide +kernel
theorem f_Law_law_715 : fch r_Law_law.2.1 715 = some (.iadd) := by decide +kernel
theorem f_Law_law_716 : fch r_Law_law.2.1 716 = some (.iaload) := by decide +kernel
theorem f_Law_law_717 : fch r_Law_law.2.1 717 = some (.aload_n 0) := by decide +kernel
theorem f_Law_law_718 : fch r_Law_law.2.1 718 = some (.iload_n 3) := by decide +kernel
theorem f_Law_law_719 : fch r_Law_law.2.1 719 = some (.iconst 2) := by decide +kernel
theorem f_Law_law_720 : fch r_Law_law.2.1 720 = some (.iadd) := by decide +kernel
theorem f_Law_law_721 : fch r_Law_law.2.1 721 = some (.iaload) := by decide +kernel
theorem f_Law_law_722 : fch r_Law_law.2.1 722 = some (.invokevirtual 62) := by decide +kernel
theorem f_Law_law_725 : fch r_Law_law.2.1 725 = some (.aload_n 2) := by decide +kernel
theorem f_Law_law_726 : fch r_Law_law.2.1 726 = some (.aload_n 0) := by decide +kernel
theorem f_Law_law_727 : fch r_Law_law.2.1 727 = some (.iload_n 3) := by decide +kernel
theorem f_Law_law_728 : fch r_Law_law.2.1 728 = some (.iconst 1) := by decide +kernel
theorem f_Law_law_729 : fch r_Law_law.2.1 729 = some (.iadd) := by decide +kernel
theorem f_Law_law_730 : fch r_Law_law.2.1 730 = some (.iaload) := by decide +kernel
theorem f_Law_law_731 : fch r_Law_law.2.1 731 = some (.aload_n 0) := by decide +kernel
theorem f_Law_law_732 : fch r_Law_law.2.1 732 = some (.iload_n 3) := by decide +kernel
theorem f_Law_law_733 : fch r_Law_law.2.1 733 = some (.iconst 2) := by decide +kernel
theorem f_Law_law_734 : fch r_Law_law.2.1 734 = some (.iadd) := by decide +kernel
theorem f_Law_law_735 : fch r_Law_law.2.1 735 = some (.iaload) := by decide +kernel
theorem f_Law_law_736 : fch r_Law_law.2.1 736 = some (.invokevirtual 65) := by decide +kernel
theorem f_Law_law_739 : fch r_Law_law.2.1 739 = some (.if_icmp .eq 770) := by decide +kernel
theorem f_Law_law_742 : fch r_Law_law.2.1 742 = some (.iconst 0) := by decide +kernel
theorem f_Law_law_743 : fch r_Law_law.2.1 743 = some (.ireturn) := by decide +kernel
theorem f_Law_law_744 : fch r_Law_law.2.1 744 = some (.aload_n 1) := by decide +kernel
theorem f_Law_law_745 : fch r_Law_law.2.1 745 = some (.aload_n 0) := by decide +kernel
theorem f_Law_law_746 : fch r_Law_law.2.1 746 = some (.iload_n 3) := by decide +kernel
theorem f_Law_law_747 : fch r_Law_law.2.1 747 = some (.iconst 1) := by decide +kernel
theorem f_Law_law_748 : fch r_Law_law.2.1 748 = some (.iadd) := by decide +kernel
theorem f_Law_law_749 : fch r_Law_law.2.1 749 = some (.iaload) := by decide +kernel
theorem f_Law_law_750 : fch r_Law_law.2.1 750 = some (.invokevirtual 66) := by decide +kernel
theorem f_Law_law_753 : fch r_Law_law.2.1 753 = some (.aload_n 2) := by decide +kernel
theorem f_Law_law_754 : fch r_Law_law.2.1 754 = some (.aload_n 0) := by decide +kernel
theorem f_Law_law_755 : fch r_Law_law.2.1 755 = some (.iload_n 3) := by decide +kernel
theorem f_Law_law_756 : fch r_Law_law.2.1 756 = some (.iconst 1) := by decide +kernel
theorem f_Law_law_757 : fch r_Law_law.2.1 757 = some (.iadd) := by decide +kernel
theorem f_Law_law_758 : fch r_Law_law.2.1 758 = some (.iaload) := by decide +kernel
theorem f_Law_law_759 : fch r_Law_law.2.1 759 = some (.invokevirtual 70) := by decide +kernel
theorem f_Law_law_762 : fch r_Law_law.2.1 762 = some (.if_icmp .eq 747) := by decide +kernel
theorem f_Law_law_765 : fch r_Law_law.2.1 765 = some (.iconst 0) := by decide +kernel
theorem f_Law_law_766 : fch r_Law_law.2.1 766 = some (.ireturn) := by decide +kernel
theorem f_Law_law_767 : fch r_Law_law.2.1 767 = some (.aload_n 1) := by decide +kernel
theorem f_Law_law_768 : fch r_Law_law.2.1 768 = some (.aload_n 0) := by decide +kernel
theorem f_Law_law_769 : fch r_Law_law.2.1 769 = some (.iload_n 3) := by decide +kernel
theorem f_Law_law_770 : fch r_Law_law.2.1 770 = some (.iconst 1) := by decide +kernel
theorem f_Law_law_771 : fch r_Law_law.2.1 771 = some (.iadd) := by decide +kernel
theorem f_Law_law_772 : fch r_Law_law.2.1 772 = some (.iaload) := by decide +kernel
theorem f_Law_law_773 : fch r_Law_law.2.1 773 = some (.aload_n 0) := by decide +kernel
theorem f_Law_law_774 : fch r_Law_law.2.1 774 = some (.iload_n 3) := by decide +kernel
theorem f_Law_law_775 : fch r_Law_law.2.1 775 = some (.iconst 2) := by decide +kernel
theorem f_Law_law_776 : fch r_Law_law.2.1 776 = some (.iadd) := by decide +kernel
theorem f_Law_law_777 : fch r_Law_law.2.1 777 = some (.iaload) := by decide +kernel
theorem f_Law_law_778 : fch r_Law_law.2.1 778 = some (.invokevirtual 71) := by decide +kernel
theorem f_Law_law_781 : fch r_Law_law.2.1 781 = some (.aload_n 2) := by decide +kernel
theorem f_Law_law_782 : fch r_Law_law.2.1 782 = some (.aload_n 0) := by decide +kernel
theorem f_Law_law_783 : fch r_Law_law.2.1 783 = some (.iload_n 3) := by decide +kernel
theorem f_Law_law_784 : fch r_Law_law.2.1 784 = some (.iconst 1) := by decide +kernel
theorem f_Law_law_785 : fch r_Law_law.2.1 785 = some (.iadd) := by decide +kernel
theorem f_Law_law_786 : fch r_Law_law.2.1 786 = some (.iaload) := by decide +kernel
theorem f_Law_law_787 : fch r_Law_law.2.1 787 = some (.aload_n 0) := by decide +kernel
theorem f_Law_law_788 : fch r_Law_law.2.1 788 = some (.iload_n 3) := by decide +kernel
theorem f_Law_law_789 : fch r_Law_law.2.1 789 = some (.iconst 2) := by decide +kernel
theorem f_Law_law_790 : fch r_Law_law.2.1 790 = some (.iadd) := by decide +kernel
theorem f_Law_law_791 : fch r_Law_law.2.1 791 = some (.iaload) := by decide +kernel
theorem f_Law_law_792 : fch r_Law_law.2.1 792 = some (.invokevirtual 74) := by decide +kernel
theorem f_Law_law_795 : fch r_Law_law.2.1 795 = some (.if_icmp .eq 714) := by decide +kernel
theorem f_Law_law_798 : fch r_Law_law.2.1 798 = some (.iconst 0) := by decide +kernel
theorem f_Law_law_799 : fch r_Law_law.2.1 799 = some (.ireturn) := by decide +kernel
theorem f_Law_law_800 : fch r_Law_law.2.1 800 = some (.aload_n 1) := by decide +kernel
theorem f_Law_law_801 : fch r_Law_law.2.1 801 = some (.aload_n 0) := by decide +kernel
theorem f_Law_law_802 : fch r_Law_law.2.1 802 = some (.iload_n 3) := by decide +kernel
theorem f_Law_law_803 : fch r_Law_law.2.1 803 = some (.iconst 1) := by decide +kernel
theorem f_Law_law_804 : fch r_Law_law.2.1 804 = some (.iadd) := by decide +kernel
theorem f_Law_law_805 : fch r_Law_law.2.1 805 = some (.iaload) := by decide +kernel
theorem f_Law_law_806 : fch r_Law_law.2.1 806 = some (.aload_n 0) := by decide +kernel
theorem f_Law_law_807 : fch r_Law_law.2.1 807 = some (.iload_n 3) := by decide +kernel
theorem f_Law_law_808 : fch r_Law_law.2.1 808 = some (.iconst 2) := by decide +kernel
theorem f_Law_law_809 : fch r_Law_law.2.1 809 = some (.iadd) := by decide +kernel
theorem f_Law_law_810 : fch r_Law_law.2.1 810 = some (.iaload) := by decide +kernel
theorem f_Law_law_811 : fch r_Law_law.2.1 811 = some (.invokevirtual 75) := by decide +kernel
theorem f_Law_law_814 : fch r_Law_law.2.1 814 = some (.aload_n 2) := by decide +kernel
theorem f_Law_law_815 : fch r_Law_law.2.1 815 = some (.aload_n 0) := by decide +kernel
theorem f_Law_law_816 : fch r_Law_law.2.1 816 = some (.iload_n 3) := by decide +kernel
theorem f_Law_law_817 : fch r_Law_law.2.1 817 = some (.iconst 1) := by decide +kernel
theorem f_Law_law_818 : fch r_Law_law.2.1 818 = some (.iadd) := by decide +kernel
theorem f_Law_law_819 : fch r_Law_law.2.1 819 = some (.iaload) := by decide +kernel
theorem f_Law_law_820 : fch r_Law_law.2.1 820 = some (.aload_n 0) := by decide +kernel
theorem f_Law_law_821 : fch r_Law_law.2.1 821 = some (.iload_n 3) := by decide +kernel
theorem f_Law_law_822 : fch r_Law_law.2.1 822 = some (.iconst 2) := by decide +kernel
theorem f_Law_law_823 : fch r_Law_law.2.1 823 = some (.iadd) := by decide +kernel
theorem f_Law_law_824 : fch r_Law_law.2.1 824 = some (.iaload) := by decide +kernel
theorem f_Law_law_825 : fch r_Law_law.2.1 825 = some (.invokevirtual 78) := by decide +kernel
theorem f_Law_law_828 : fch r_Law_law.2.1 828 = some (.if_icmp .eq 681) := by decide +kernel
theorem f_Law_law_831 : fch r_Law_law.2.1 831 = some (.iconst 0) := by decide +kernel
theorem f_Law_law_832 : fch r_Law_law.2.1 832 = some (.ireturn) := by decide +kernel
theorem f_Law_law_833 : fch r_Law_law.2.1 833 = some (.aload_n 1) := by decide +kernel
theorem f_Law_law_834 : fch r_Law_law.2.1 834 = some (.aload_n 0) := by decide +kernel
theorem f_Law_law_835 : fch r_Law_law.2.1 835 = some (.iload_n 3) := by decide +kernel
theorem f_Law_law_836 : fch r_Law_law.2.1 836 = some (.iconst 1) := by decide +kernel
theorem f_Law_law_837 : fch r_Law_law.2.1 837 = some (.iadd) := by decide +kernel
theorem f_Law_law_838 : fch r_Law_law.2.1 838 = some (.iaload) := by decide +kernel
theorem f_Law_law_839 : fch r_Law_law.2.1 839 = some (.invokevirtual 79) := by decide +kernel
theorem f_Law_law_842 : fch r_Law_law.2.1 842 = some (.aload_n 2) := by decide +kernel
theorem f_Law_law_843 : fch r_Law_law.2.1 843 = some (.aload_n 0) := by decide +kernel
theorem f_Law_law_844 : fch r_Law_law.2.1 844 = some (.iload_n 3) := by decide +kernel
theorem f_Law_law_845 : fch r_Law_law.2.1 845 = some (.iconst 1) := by decide +kernel
theorem f_Law_law_846 : fch r_Law_law.2.1 846 = some (.iadd) := by decide +kernel
theorem f_Law_law_847 : fch r_Law_law.2.1 847 = some (.iaload) := by decide +kernel
theorem f_Law_law_848 : fch r_Law_law.2.1 848 = some (.invokevirtual 82) := by decide +kernel
theorem f_Law_law_851 : fch r_Law_law.2.1 851 = some (.if_icmp .eq 658) := by decide +kernel
theorem f_Law_law_854 : fch r_Law_law.2.1 854 = some (.iconst 0) := by decide +kernel
theorem f_Law_law_855 : fch r_Law_law.2.1 855 = some (.ireturn) := by decide +kernel
theorem f_Law_law_856 : fch r_Law_law.2.1 856 = some (.aload_n 1) := by decide +kernel
theorem f_Law_law_857 : fch r_Law_law.2.1 857 = some (.aload_n 0) := by decide +kernel
theorem f_Law_law_858 : fch r_Law_law.2.1 858 = some (.iload_n 3) := by decide +kernel
theorem f_Law_law_859 : fch r_Law_law.2.1 859 = some (.iconst 1) := by decide +kernel
theorem f_Law_law_860 : fch r_Law_law.2.1 860 = some (.iadd) := by decide +kernel
theorem f_Law_law_861 : fch r_Law_law.2.1 861 = some (.iaload) := by decide +kernel
theorem f_Law_law_862 : fch r_Law_law.2.1 862 = some (.aload_n 0) := by decide +kernel
theorem f_Law_law_863 : fch r_Law_law.2.1 863 = some (.iload_n 3) := by decide +kernel
theorem f_Law_law_864 : fch r_Law_law.2.1 864 = some (.iconst 2) := by decide +kernel
theorem f_Law_law_865 : fch r_Law_law.2.1 865 = some (.iadd) := by decide +kernel
theorem f_Law_law_866 : fch r_Law_law.2.1 866 = some (.iaload) := by decide +kernel
theorem f_Law_law_867 : fch r_Law_law.2.1 867 = some (.aload_n 0) := by decide +kernel
theorem f_Law_law_868 : fch r_Law_law.2.1 868 = some (.iload_n 3) := by decide +kernel
theorem f_Law_law_869 : fch r_Law_law.2.1 869 = some (.iconst 3) := by decide +kernel
theorem f_Law_law_870 : fch r_Law_law.2.1 870 = some (.iadd) := by decide +kernel
theorem f_Law_law_871 : fch r_Law_law.2.1 871 = some (.iaload) := by decide +kernel
theorem f_Law_law_872 : fch r_Law_law.2.1 872 = some (.invokevirtual 83) := by decide +kernel
theorem f_Law_law_875 : fch r_Law_law.2.1 875 = some (.aload_n 2) := by decide +kernel
theorem f_Law_law_876 : fch r_Law_law.2.1 876 = some (.aload_n 0) := by decide +kernel
theorem f_Law_law_877 : fch r_Law_law.2.1 877 = some (.iload_n 3) := by decide +kernel
theorem f_Law_law_878 : fch r_Law_law.2.1 878 = some (.iconst 1) := by decide +kernel
theorem f_Law_law_879 : fch r_Law_law.2.1 879 = some (.iadd) := by decide +kernel
theorem f_Law_law_880 : fch r_Law_law.2.1 880 = some (.iaload) := by decide +kernel
theorem f_Law_law_881 : fch r_Law_law.2.1 881 = some (.aload_n 0) := by decide +kernel
theorem f_Law_law_882 : fch r_Law_law.2.1 882 = some (.iload_n 3) := by decide +kernel
theorem f_Law_law_883 : fch r_Law_law.2.1 883 = some (.iconst 2) := by decide +kernel
theorem f_Law_law_884 : fch r_Law_law.2.1 884 = some (.iadd) := by decide +kernel
theorem f_Law_law_885 : fch r_Law_law.2.1 885 = some (.iaload) := by decide +kernel
theorem f_Law_law_886 : fch r_Law_law.2.1 886 = some (.aload_n 0) := by decide +kernel
theorem f_Law_law_887 : fch r_Law_law.2.1 887 = some (.iload_n 3) := by decide +kernel
theorem f_Law_law_888 : fch r_Law_law.2.1 888 = some (.iconst 3) := by decide +kernel
theorem f_Law_law_889 : fch r_Law_law.2.1 889 = some (.iadd) := by decide +kernel
theorem f_Law_law_890 : fch r_Law_law.2.1 890 = some (.iaload) := by decide +kernel
theorem f_Law_law_891 : fch r_Law_law.2.1 891 = some (.invokevirtual 86) := by decide +kernel
theorem f_Law_law_894 : fch r_Law_law.2.1 894 = some (.if_icmp .eq 615) := by decide +kernel
theorem f_Law_law_897 : fch r_Law_law.2.1 897 = some (.iconst 0) := by decide +kernel
theorem f_Law_law_898 : fch r_Law_law.2.1 898 = some (.ireturn) := by decide +kernel
theorem f_Law_law_899 : fch r_Law_law.2.1 899 = some (.aload_n 1) := by decide +kernel
theorem f_Law_law_900 : fch r_Law_law.2.1 900 = some (.aload_n 0) := by decide +kernel
theorem f_Law_law_901 : fch r_Law_law.2.1 901 = some (.iload_n 3) := by decide +kernel
theorem f_Law_law_902 : fch r_Law_law.2.1 902 = some (.iconst 1) := by decide +kernel
theorem f_Law_law_903 : fch r_Law_law.2.1 903 = some (.iadd) := by decide +kernel
theorem f_Law_law_904 : fch r_Law_law.2.1 904 = some (.iaload) := by decide +kernel
theorem f_Law_law_905 : fch r_Law_law.2.1 905 = some (.aload_n 0) := by decide +kernel
theorem f_Law_law_906 : fch r_Law_law.2.1 906 = some (.iload_n 3) := by decide +kernel
theorem f_Law_law_907 : fch r_Law_law.2.1 907 = some (.iconst 2) := by decide +kernel
theorem f_Law_law_908 : fch r_Law_law.2.1 908 = some (.iadd) := by decide +kernel
theorem f_Law_law_909 : fch r_Law_law.2.1 909 = some (.iaload) := by decide +kernel
theorem f_Law_law_910 : fch r_Law_law.2.1 910 = some (.aload_n 0) := by decide +kernel
theorem f_Law_law_911 : fch r_Law_law.2.1 911 = some (.iload_n 3) := by decide +kernel
theorem f_Law_law_912 : fch r_Law_law.2.1 912 = some (.iconst 3) := by decide +kernel
theorem f_Law_law_913 : fch r_Law_law.2.1 913 = some (.iadd) := by decide +kernel
theorem f_Law_law_914 : fch r_Law_law.2.1 914 = some (.iaload) := by decide +kernel
theorem f_Law_law_915 : fch r_Law_law.2.1 915 = some (.aload_n 0) := by decide +kernel
theorem f_Law_law_916 : fch r_Law_law.2.1 916 = some (.iload_n 3) := by decide +kernel
theorem f_Law_law_917 : fch r_Law_law.2.1 917 = some (.iconst 4) := by decide +kernel
theorem f_Law_law_918 : fch r_Law_law.2.1 918 = some (.iadd) := by decide +kernel
theorem f_Law_law_919 : fch r_Law_law.2.1 919 = some (.iaload) := by decide +kernel
theorem f_Law_law_920 : fch r_Law_law.2.1 920 = some (.invokevirtual 87) := by decide +kernel
theorem f_Law_law_923 : fch r_Law_law.2.1 923 = some (.aload_n 2) := by decide +kernel
theorem f_Law_law_924 : fch r_Law_law.2.1 924 = some (.aload_n 0) := by decide +kernel
theorem f_Law_law_925 : fch r_Law_law.2.1 925 = some (.iload_n 3) := by decide +kernel
theorem f_Law_law_926 : fch r_Law_law.2.1 926 = some (.iconst 1) := by decide +kernel
theorem f_Law_law_927 : fch r_Law_law.2.1 927 = some (.iadd) := by decide +kernel
theorem f_Law_law_928 : fch r_Law_law.2.1 928 = some (.iaload) := by decide +kernel
theorem f_Law_law_929 : fch r_Law_law.2.1 929 = some (.aload_n 0) := by decide +kernel
theorem f_Law_law_930 : fch r_Law_law.2.1 930 = some (.iload_n 3) := by decide +kernel
theorem f_Law_law_931 : fch r_Law_law.2.1 931 = some (.iconst 2) := by decide +kernel
theorem f_Law_law_932 : fch r_Law_law.2.1 932 = some (.iadd) := by decide +kernel
theorem f_Law_law_933 : fch r_Law_law.2.1 933 = some (.iaload) := by decide +kernel
theorem f_Law_law_934 : fch r_Law_law.2.1 934 = some (.aload_n 0) := by decide +kernel
theorem f_Law_law_935 : fch r_Law_law.2.1 935 = some (.iload_n 3) := by decide +kernel
theorem f_Law_law_936 : fch r_Law_law.2.1 936 = some (.iconst 3) := by decide +kernel
theorem f_Law_law_937 : fch r_Law_law.2.1 937 = some (.iadd) := by decide +kernel
theorem f_Law_law_938 : fch r_Law_law.2.1 938 = some (.iaload) := by decide +kernel
theorem f_Law_law_939 : fch r_Law_law.2.1 939 = some (.aload_n 0) := by decide +kernel
theorem f_Law_law_940 : fch r_Law_law.2.1 940 = some (.iload_n 3) := by decide +kernel
theorem f_Law_law_941 : fch r_Law_law.2.1 941 = some (.iconst 4) := by decide +kernel
theorem f_Law_law_942 : fch r_Law_law.2.1 942 = some (.iadd) := by decide +kernel
theorem f_Law_law_943 : fch r_Law_law.2.1 943 = some (.iaload) := by decide +kernel
theorem f_Law_law_944 : fch r_Law_law.2.1 944 = some (.invokevirtual 90) := by decide +kernel
theorem f_Law_law_947 : fch r_Law_law.2.1 947 = some (.if_icmp .eq 562) := by decide +kernel
theorem f_Law_law_950 : fch r_Law_law.2.1 950 = some (.iconst 0) := by decide +kernel
theorem f_Law_law_951 : fch r_Law_law.2.1 951 = some (.ireturn) := by decide +kernel
theorem f_Law_law_952 : fch r_Law_law.2.1 952 = some (.aload_n 1) := by decide +kernel
theorem f_Law_law_953 : fch r_Law_law.2.1 953 = some (.aload_n 0) := by decide +kernel
theorem f_Law_law_954 : fch r_Law_law.2.1 954 = some (.iload_n 3) := by decide +kernel
theorem f_Law_law_955 : fch r_Law_law.2.1 955 = some (.iconst 1) := by decide +kernel
theorem f_Law_law_956 : fch r_Law_law.2.1 956 = some (.iadd) := by decide +kernel
theorem f_Law_law_957 : fch r_Law_law.2.1 957 = some (.iaload) := by decide +kernel
theorem f_Law_law_958 : fch r_Law_law.2.1 958 = some (.aload_n 0) := by decide +kernel
theorem f_Law_law_959 : fch r_Law_law.2.1 959 = some (.iload_n 3) := by decide +kernel
theorem f_Law_law_960 : fch r_Law_law.2.1 960 = some (.iconst 2) := by decide +kernel
theorem f_Law_law_961 : fch r_Law_law.2.1 961 = some (.iadd) := by decide +kernel
theorem f_Law_law_962 : fch r_Law_law.2.1 962 = some (.iaload) := by decide +kernel
theorem f_Law_law_963 : fch r_Law_law.2.1 963 = some (.aload_n 0) := by decide +kernel
theorem f_Law_law_964 : fch r_Law_law.2.1 964 = some (.iload_n 3) := by decide +kernel
theorem f_Law_law_965 : fch r_Law_law.2.1 965 = some (.iconst 3) := by decide +kernel
theorem f_Law_law_966 : fch r_Law_law.2.1 966 = some (.iadd) := by decide +kernel
theorem f_Law_law_967 : fch r_Law_law.2.1 967 = some (.iaload) := by decide +kernel
theorem f_Law_law_968 : fch r_Law_law.2.1 968 = some (.aload_n 0) := by decide +kernel
theorem f_Law_law_969 : fch r_Law_law.2.1 969 = some (.iload_n 3) := by decide +kernel
theorem f_Law_law_970 : fch r_Law_law.2.1 970 = some (.iconst 4) := by decide +kernel
theorem f_Law_law_971 : fch r_Law_law.2.1 971 = some (.iadd) := by decide +kernel
theorem f_Law_law_972 : fch r_Law_law.2.1 972 = some (.iaload) := by decide +kernel
theorem f_Law_law_973 : fch r_Law_law.2.1 973 = some (.invokevirtual 91) := by decide +kernel
theorem f_Law_law_976 : fch r_Law_law.2.1 976 = some (.aload_n 2) := by decide +kernel
theorem f_Law_law_977 : fch r_Law_law.2.1 977 = some (.aload_n 0) := by decide +kernel
theorem f_Law_law_978 : fch r_Law_law.2.1 978 = some (.iload_n 3) := by decide +kernel
theorem f_Law_law_979 : fch r_Law_law.2.1 979 = some (.iconst 1) := by decide +kernel
theorem f_Law_law_980 : fch r_Law_law.2.1 980 = some (.iadd) := by decide +kernel
theorem f_Law_law_981 : fch r_Law_law.2.1 981 = some (.iaload) := by decide +kernel
theorem f_Law_law_982 : fch r_Law_law.2.1 982 = some (.aload_n 0) := by decide +kernel
theorem f_Law_law_983 : fch r_Law_law.2.1 983 = some (.iload_n 3) := by decide +kernel
theorem f_Law_law_984 : fch r_Law_law.2.1 984 = some (.iconst 2) := by decide +kernel
theorem f_Law_law_985 : fch r_Law_law.2.1 985 = some (.iadd) := by decide +kernel
theorem f_Law_law_986 : fch r_Law_law.2.1 986 = some (.iaload) := by decide +kernel
theorem f_Law_law_987 : fch r_Law_law.2.1 987 = some (.aload_n 0) := by decide +kernel
theorem f_Law_law_988 : fch r_Law_law.2.1 988 = some (.iload_n 3) := by decide +kernel
theorem f_Law_law_989 : fch r_Law_law.2.1 989 = some (.iconst 3) := by decide +kernel
theorem f_Law_law_990 : fch r_Law_law.2.1 990 = some (.iadd) := by decide +kernel
theorem f_Law_law_991 : fch r_Law_law.2.1 991 = some (.iaload) := by decide +kernel
theorem f_Law_law_992 : fch r_Law_law.2.1 992 = some (.aload_n 0) := by decide +kernel
theorem f_Law_law_993 : fch r_Law_law.2.1 993 = some (.iload_n 3) := by decide +kernel
theorem f_Law_law_994 : fch r_Law_law.2.1 994 = some (.iconst 4) := by decide +kernel
theorem f_Law_law_995 : fch r_Law_law.2.1 995 = some (.iadd) := by decide +kernel
theorem f_Law_law_996 : fch r_Law_law.2.1 996 = some (.iaload) := by decide +kernel
theorem f_Law_law_997 : fch r_Law_law.2.1 997 = some (.invokevirtual 94) := by decide +kernel
theorem f_Law_law_1000 : fch r_Law_law.2.1 1000 = some (.if_icmp .eq 509) := by decide +kernel
theorem f_Law_law_1003 : fch r_Law_law.2.1 1003 = some (.iconst 0) := by decide +kernel
theorem f_Law_law_1004 : fch r_Law_law.2.1 1004 = some (.ireturn) := by decide +kernel
theorem f_Law_law_1005 : fch r_Law_law.2.1 1005 = some (.aload_n 1) := by decide +kernel
theorem f_Law_law_1006 : fch r_Law_law.2.1 1006 = some (.aload_n 0) := by decide +kernel
theorem f_Law_law_1007 : fch r_Law_law.2.1 1007 = some (.iload_n 3) := by decide +kernel
theorem f_Law_law_1008 : fch r_Law_law.2.1 1008 = some (.iconst 1) := by decide +kernel
theorem f_Law_law_1009 : fch r_Law_law.2.1 1009 = some (.iadd) := by decide +kernel
theorem f_Law_law_1010 : fch r_Law_law.2.1 1010 = some (.iaload) := by decide +kernel
theorem f_Law_law_1011 : fch r_Law_law.2.1 1011 = some (.aload_n 0) := by decide +kernel
theorem f_Law_law_1012 : fch r_Law_law.2.1 1012 = some (.iload_n 3) := by decide +kernel
theorem f_Law_law_1013 : fch r_Law_law.2.1 1013 = some (.iconst 2) := by decide +kernel
theorem f_Law_law_1014 : fch r_Law_law.2.1 1014 = some (.iadd) := by decide +kernel
theorem f_Law_law_1015 : fch r_Law_law.2.1 1015 = some (.iaload) := by decide +kernel
theorem f_Law_law_1016 : fch r_Law_law.2.1 1016 = some (.invokevirtual 95) := by decide +kernel
theorem f_Law_law_1019 : fch r_Law_law.2.1 1019 = some (.aload_n 2) := by decide +kernel
theorem f_Law_law_1020 : fch r_Law_law.2.1 1020 = some (.aload_n 0) := by decide +kernel
theorem f_Law_law_1021 : fch r_Law_law.2.1 1021 = some (.iload_n 3) := by decide +kernel
theorem f_Law_law_1022 : fch r_Law_law.2.1 1022 = some (.iconst 1) := by decide +kernel
theorem f_Law_law_1023 : fch r_Law_law.2.1 1023 = some (.iadd) := by decide +kernel
theorem f_Law_law_1024 : fch r_Law_law.2.1 1024 = some (.iaload) := by decide +kernel
theorem f_Law_law_1025 : fch r_Law_law.2.1 1025 = some (.aload_n 0) := by decide +kernel
theorem f_Law_law_1026 : fch r_Law_law.2.1 1026 = some (.iload_n 3) := by decide +kernel
theorem f_Law_law_1027 : fch r_Law_law.2.1 1027 = some (.iconst 2) := by decide +kernel
theorem f_Law_law_1028 : fch r_Law_law.2.1 1028 = some (.iadd) := by decide +kernel
theorem f_Law_law_1029 : fch r_Law_law.2.1 1029 = some (.iaload) := by decide +kernel
theorem f_Law_law_1030 : fch r_Law_law.2.1 1030 = some (.invokevirtual 98) := by decide +kernel
theorem f_Law_law_1033 : fch r_Law_law.2.1 1033 = some (.if_icmp .eq 476) := by decide +kernel
theorem f_Law_law_1036 : fch r_Law_law.2.1 1036 = some (.iconst 0) := by decide +kernel
theorem f_Law_law_1037 : fch r_Law_law.2.1 1037 = some (.ireturn) := by decide +kernel
theorem f_Law_law_1038 : fch r_Law_law.2.1 1038 = some (.aload_n 1) := by decide +kernel
theorem f_Law_law_1039 : fch r_Law_law.2.1 1039 = some (.aload_n 0) := by decide +kernel
theorem f_Law_law_1040 : fch r_Law_law.2.1 1040 = some (.iload_n 3) := by decide +kernel
theorem f_Law_law_1041 : fch r_Law_law.2.1 1041 = some (.iconst 1) := by decide +kernel
theorem f_Law_law_1042 : fch r_Law_law.2.1 1042 = some (.iadd) := by decide +kernel
theorem f_Law_law_1043 : fch r_Law_law.2.1 1043 = some (.iaload) := by decide +kernel
theorem f_Law_law_1044 : fch r_Law_law.2.1 1044 = some (.aload_n 0) := by decide +kernel
theorem f_Law_law_1045 : fch r_Law_law.2.1 1045 = some (.iload_n 3) := by decide +kernel
theorem f_Law_law_1046 : fch r_Law_law.2.1 1046 = some (.iconst 2) := by decide +kernel
theorem f_Law_law_1047 : fch r_Law_law.2.1 1047 = some (.iadd) := by decide +kernel
theorem f_Law_law_1048 : fch r_Law_law.2.1 1048 = some (.iaload) := by decide +kernel
theorem f_Law_law_1049 : fch r_Law_law.2.1 1049 = some (.aload_n 0) := by decide +kernel
theorem f_Law_law_1050 : fch r_Law_law.2.1 1050 = some (.iload_n 3) := by decide +kernel
theorem f_Law_law_1051 : fch r_Law_law.2.1 1051 = some (.iconst 3) := by decide +kernel
theorem f_Law_law_1052 : fch r_Law_law.2.1 1052 = some (.iadd) := by decide +kernel
theorem f_Law_law_1053 : fch r_Law_law.2.1 1053 = some (.iaload) := by decide +kernel
theorem f_Law_law_1054 : fch r_Law_law.2.1 1054 = some (.invokevirtual 99) := by decide +kernel
theorem f_Law_law_1057 : fch r_Law_law.2.1 1057 = some (.aload_n 2) := by decide +kernel
theorem f_Law_law_1058 : fch r_Law_law.2.1 1058 = some (.aload_n 0) := by decide +kernel
theorem f_Law_law_1059 : fch r_Law_law.2.1 1059 = some (.iload_n 3) := by decide +kernel
theorem f_Law_law_1060 : fch r_Law_law.2.1 1060 = some (.iconst 1) := by decide +kernel
theorem f_Law_law_1061 : fch r_Law_law.2.1 1061 = some (.iadd) := by decide +kernel
theorem f_Law_law_1062 : fch r_Law_law.2.1 1062 = some (.iaload) := by decide +kernel
theorem f_Law_law_1063 : fch r_Law_law.2.1 1063 = some (.aload_n 0) := by decide +kernel
theorem f_Law_law_1064 : fch r_Law_law.2.1 1064 = some (.iload_n 3) := by decide +kernel
theorem f_Law_law_1065 : fch r_Law_law.2.1 1065 = some (.iconst 2) := by decide +kernel
theorem f_Law_law_1066 : fch r_Law_law.2.1 1066 = some (.iadd) := by decide +kernel
theorem f_Law_law_1067 : fch r_Law_law.2.1 1067 = some (.iaload) := by decide +kernel
theorem f_Law_law_1068 : fch r_Law_law.2.1 1068 = some (.aload_n 0) := by decide +kernel
theorem f_Law_law_1069 : fch r_Law_law.2.1 1069 = some (.iload_n 3) := by decide +kernel
theorem f_Law_law_1070 : fch r_Law_law.2.1 1070 = some (.iconst 3) := by decide +kernel
theorem f_Law_law_1071 : fch r_Law_law.2.1 1071 = some (.iadd) := by decide +kernel
theorem f_Law_law_1072 : fch r_Law_law.2.1 1072 = some (.iaload) := by decide +kernel
theorem f_Law_law_1073 : fch r_Law_law.2.1 1073 = some (.invokevirtual 102) := by decide +kernel
theorem f_Law_law_1076 : fch r_Law_law.2.1 1076 = some (.if_icmp .eq 433) := by decide +kernel
theorem f_Law_law_1079 : fch r_Law_law.2.1 1079 = some (.iconst 0) := by decide +kernel
theorem f_Law_law_1080 : fch r_Law_law.2.1 1080 = some (.ireturn) := by decide +kernel
theorem f_Law_law_1081 : fch r_Law_law.2.1 1081 = some (.aload_n 1) := by decide +kernel
theorem f_Law_law_1082 : fch r_Law_law.2.1 1082 = some (.aload_n 0) := by decide +kernel
theorem f_Law_law_1083 : fch r_Law_law.2.1 1083 = some (.iload_n 3) := by decide +kernel
theorem f_Law_law_1084 : fch r_Law_law.2.1 1084 = some (.iconst 1) := by decide +kernel
theorem f_Law_law_1085 : fch r_Law_law.2.1 1085 = some (.iadd) := by decide +kernel
theorem f_Law_law_1086 : fch r_Law_law.2.1 1086 = some (.iaload) := by decide +kernel
theorem f_Law_law_1087 : fch r_Law_law.2.1 1087 = some (.aload_n 0) := by decide +kernel
theorem f_Law_law_1088 : fch r_Law_law.2.1 1088 = some (.iload_n 3) := by decide +kernel
theorem f_Law_law_1089 : fch r_Law_law.2.1 1089 = some (.iconst 2) := by decide +kernel
theorem f_Law_law_1090 : fch r_Law_law.2.1 1090 = some (.iadd) := by decide +kernel
theorem f_Law_law_1091 : fch r_Law_law.2.1 1091 = some (.iaload) := by decide +kernel
theorem f_Law_law_1092 : fch r_Law_law.2.1 1092 = some (.aload_n 0) := by decide +kernel
theorem f_Law_law_1093 : fch r_Law_law.2.1 1093 = some (.iload_n 3) := by decide +kernel
theorem f_Law_law_1094 : fch r_Law_law.2.1 1094 = some (.iconst 3) := by decide +kernel
theorem f_Law_law_1095 : fch r_Law_law.2.1 1095 = some (.iadd) := by decide +kernel
theorem f_Law_law_1096 : fch r_Law_law.2.1 1096 = some (.iaload) := by decide +kernel
theorem f_Law_law_1097 : fch r_Law_law.2.1 1097 = some (.aload_n 0) := by decide +kernel
theorem f_Law_law_1098 : fch r_Law_law.2.1 1098 = some (.iload_n 3) := by decide +kernel
theorem f_Law_law_1099 : fch r_Law_law.2.1 1099 = some (.iconst 4) := by decide +kernel
theorem f_Law_law_1100 : fch r_Law_law.2.1 1100 = some (.iadd) := by decide +kernel
theorem f_Law_law_1101 : fch r_Law_law.2.1 1101 = some (.iaload) := by decide +kernel
theorem f_Law_law_1102 : fch r_Law_law.2.1 1102 = some (.aload_n 0) := by decide +kernel
theorem f_Law_law_1103 : fch r_Law_law.2.1 1103 = some (.iload_n 3) := by decide +kernel
theorem f_Law_law_1104 : fch r_Law_law.2.1 1104 = some (.iconst 5) := by decide +kernel
theorem f_Law_law_1105 : fch r_Law_law.2.1 1105 = some (.iadd) := by decide +kernel
theorem f_Law_law_1106 : fch r_Law_law.2.1 1106 = some (.iaload) := by decide +kernel
theorem f_Law_law_1107 : fch r_Law_law.2.1 1107 = some (.aload_n 0) := by decide +kernel
theorem f_Law_law_1108 : fch r_Law_law.2.1 1108 = some (.iload_n 3) := by decide +kernel
theorem f_Law_law_1109 : fch r_Law_law.2.1 1109 = some (.bipush 6) := by decide +kernel
theorem f_Law_law_1111 : fch r_Law_law.2.1 1111 = some (.iadd) := by decide +kernel
theorem f_Law_law_1112 : fch r_Law_law.2.1 1112 = some (.iaload) := by decide +kernel
theorem f_Law_law_1113 : fch r_Law_law.2.1 1113 = some (.invokevirtual 103) := by decide +kernel
theorem f_Law_law_1116 : fch r_Law_law.2.1 1116 = some (.aload_n 2) := by decide +kernel
theorem f_Law_law_1117 : fch r_Law_law.2.1 1117 = some (.aload_n 0) := by decide +kernel
theorem f_Law_law_1118 : fch r_Law_law.2.1 1118 = some (.iload_n 3) := by decide +kernel
theorem f_Law_law_1119 : fch r_Law_law.2.1 1119 = some (.iconst 1) := by decide +kernel
theorem f_Law_law_1120 : fch r_Law_law.2.1 1120 = some (.iadd) := by decide +kernel
theorem f_Law_law_1121 : fch r_Law_law.2.1 1121 = some (.iaload) := by decide +kernel
theorem f_Law_law_1122 : fch r_Law_law.2.1 1122 = some (.aload_n 0) := by decide +kernel
theorem f_Law_law_1123 : fch r_Law_law.2.1 1123 = some (.iload_n 3) := by decide +kernel
theorem f_Law_law_1124 : fch r_Law_law.2.1 1124 = some (.iconst 2) := by decide +kernel
theorem f_Law_law_1125 : fch r_Law_law.2.1 1125 = some (.iadd) := by decide +kernel
theorem f_Law_law_1126 : fch r_Law_law.2.1 1126 = some (.iaload) := by decide +kernel
theorem f_Law_law_1127 : fch r_Law_law.2.1 1127 = some (.aload_n 0) := by decide +kernel
theorem f_Law_law_1128 : fch r_Law_law.2.1 1128 = some (.iload_n 3) := by decide +kernel
theorem f_Law_law_1129 : fch r_Law_law.2.1 1129 = some (.iconst 3) := by decide +kernel
theorem f_Law_law_1130 : fch r_Law_law.2.1 1130 = some (.iadd) := by decide +kernel
theorem f_Law_law_1131 : fch r_Law_law.2.1 1131 = some (.iaload) := by decide +kernel
theorem f_Law_law_1132 : fch r_Law_law.2.1 1132 = some (.aload_n 0) := by decide +kernel
theorem f_Law_law_1133 : fch r_Law_law.2.1 1133 = some (.iload_n 3) := by decide +kernel
theorem f_Law_law_1134 : fch r_Law_law.2.1 1134 = some (.iconst 4) := by decide +kernel
theorem f_Law_law_1135 : fch r_Law_law.2.1 1135 = some (.iadd) := by decide +kernel
theorem f_Law_law_1136 : fch r_Law_law.2.1 1136 = some (.iaload) := by decide +kernel
theorem f_Law_law_1137 : fch r_Law_law.2.1 1137 = some (.aload_n 0) := by decide +kernel
theorem f_Law_law_1138 : fch r_Law_law.2.1 1138 = some (.iload_n 3) := by decide +kernel
theorem f_Law_law_1139 : fch r_Law_law.2.1 1139 = some (.iconst 5) := by decide +kernel
theorem f_Law_law_1140 : fch r_Law_law.2.1 1140 = some (.iadd) := by decide +kernel
theorem f_Law_law_1141 : fch r_Law_law.2.1 1141 = some (.iaload) := by decide +kernel
theorem f_Law_law_1142 : fch r_Law_law.2.1 1142 = some (.aload_n 0) := by decide +kernel
theorem f_Law_law_1143 : fch r_Law_law.2.1 1143 = some (.iload_n 3) := by decide +kernel
theorem f_Law_law_1144 : fch r_Law_law.2.1 1144 = some (.bipush 6) := by decide +kernel
theorem f_Law_law_1146 : fch r_Law_law.2.1 1146 = some (.iadd) := by decide +kernel
theorem f_Law_law_1147 : fch r_Law_law.2.1 1147 = some (.iaload) := by decide +kernel
theorem f_Law_law_1148 : fch r_Law_law.2.1 1148 = some (.invokevirtual 107) := by decide +kernel
theorem f_Law_law_1151 : fch r_Law_law.2.1 1151 = some (.if_icmp .eq 358) := by decide +kernel
theorem f_Law_law_1154 : fch r_Law_law.2.1 1154 = some (.iconst 0) := by decide +kernel
theorem f_Law_law_1155 : fch r_Law_law.2.1 1155 = some (.ireturn) := by decide +kernel
theorem f_Law_law_1156 : fch r_Law_law.2.1 1156 = some (.aload_n 1) := by decide +kernel
theorem f_Law_law_1157 : fch r_Law_law.2.1 1157 = some (.aload_n 0) := by decide +kernel
theorem f_Law_law_1158 : fch r_Law_law.2.1 1158 = some (.iload_n 3) := by decide +kernel
theorem f_Law_law_1159 : fch r_Law_law.2.1 1159 = some (.iconst 1) := by decide +kernel
theorem f_Law_law_1160 : fch r_Law_law.2.1 1160 = some (.iadd) := by decide +kernel
theorem f_Law_law_1161 : fch r_Law_law.2.1 1161 = some (.iaload) := by decide +kernel
theorem f_Law_law_1162 : fch r_Law_law.2.1 1162 = some (.aload_n 0) := by decide +kernel
theorem f_Law_law_1163 : fch r_Law_law.2.1 1163 = some (.iload_n 3) := by decide +kernel
theorem f_Law_law_1164 : fch r_Law_law.2.1 1164 = some (.iconst 2) := by decide +kernel
theorem f_Law_law_1165 : fch r_Law_law.2.1 1165 = some (.iadd) := by decide +kernel
theorem f_Law_law_1166 : fch r_Law_law.2.1 1166 = some (.iaload) := by decide +kernel
theorem f_Law_law_1167 : fch r_Law_law.2.1 1167 = some (.aload_n 0) := by decide +kernel
theorem f_Law_law_1168 : fch r_Law_law.2.1 1168 = some (.iload_n 3) := by decide +kernel
theorem f_Law_law_1169 : fch r_Law_law.2.1 1169 = some (.iconst 3) := by decide +kernel
theorem f_Law_law_1170 : fch r_Law_law.2.1 1170 = some (.iadd) := by decide +kernel
theorem f_Law_law_1171 : fch r_Law_law.2.1 1171 = some (.iaload) := by decide +kernel
theorem f_Law_law_1172 : fch r_Law_law.2.1 1172 = some (.invokevirtual 108) := by decide +kernel
theorem f_Law_law_1175 : fch r_Law_law.2.1 1175 = some (.aload_n 2) := by decide +kernel
theorem f_Law_law_1176 : fch r_Law_law.2.1 1176 = some (.aload_n 0) := by decide +kernel
theorem f_Law_law_1177 : fch r_Law_law.2.1 1177 = some (.iload_n 3) := by decide +kernel
theorem f_Law_law_1178 : fch r_Law_law.2.1 1178 = some (.iconst 1) := by decide +kernel
theorem f_Law_law_1179 : fch r_Law_law.2.1 1179 = some (.iadd) := by decide +kernel
theorem f_Law_law_1180 : fch r_Law_law.2.1 1180 = some (.iaload) := by decide +kernel
theorem f_Law_law_1181 : fch r_Law_law.2.1 1181 = some (.aload_n 0) := by decide +kernel
theorem f_Law_law_1182 : fch r_Law_law.2.1 1182 = some (.iload_n 3) := by decide +kernel
theorem f_Law_law_1183 : fch r_Law_law.2.1 1183 = some (.iconst 2) := by decide +kernel
theorem f_Law_law_1184 : fch r_Law_law.2.1 1184 = some (.iadd) := by decide +kernel
theorem f_Law_law_1185 : fch r_Law_law.2.1 1185 = some (.iaload) := by decide +kernel
theorem f_Law_law_1186 : fch r_Law_law.2.1 1186 = some (.aload_n 0) := by decide +kernel
theorem f_Law_law_1187 : fch r_Law_law.2.1 1187 = some (.iload_n 3) := by decide +kernel
theorem f_Law_law_1188 : fch r_Law_law.2.1 1188 = some (.iconst 3) := by decide +kernel
theorem f_Law_law_1189 : fch r_Law_law.2.1 1189 = some (.iadd) := by decide +kernel
theorem f_Law_law_1190 : fch r_Law_law.2.1 1190 = some (.iaload) := by decide +kernel
theorem f_Law_law_1191 : fch r_Law_law.2.1 1191 = some (.invokevirtual 111) := by decide +kernel
theorem f_Law_law_1194 : fch r_Law_law.2.1 1194 = some (.if_icmp .eq 315) := by decide +kernel
theorem f_Law_law_1197 : fch r_Law_law.2.1 1197 = some (.iconst 0) := by decide +kernel
theorem f_Law_law_1198 : fch r_Law_law.2.1 1198 = some (.ireturn) := by decide +kernel
theorem f_Law_law_1199 : fch r_Law_law.2.1 1199 = some (.aload_n 1) := by decide +kernel
theorem f_Law_law_1200 : fch r_Law_law.2.1 1200 = some (.aload_n 0) := by decide +kernel
theorem f_Law_law_1201 : fch r_Law_law.2.1 1201 = some (.iload_n 3) := by decide +kernel
theorem f_Law_law_1202 : fch r_Law_law.2.1 1202 = some (.iconst 1) := by decide +kernel
theorem f_Law_law_1203 : fch r_Law_law.2.1 1203 = some (.iadd) := by decide +kernel
theorem f_Law_law_1204 : fch r_Law_law.2.1 1204 = some (.iaload) := by decide +kernel
theorem f_Law_law_1205 : fch r_Law_law.2.1 1205 = some (.aload_n 0) := by decide +kernel
theorem f_Law_law_1206 : fch r_Law_law.2.1 1206 = some (.iload_n 3) := by decide +kernel
theorem f_Law_law_1207 : fch r_Law_law.2.1 1207 = some (.iconst 2) := by decide +kernel
theorem f_Law_law_1208 : fch r_Law_law.2.1 1208 = some (.iadd) := by decide +kernel
theorem f_Law_law_1209 : fch r_Law_law.2.1 1209 = some (.iaload) := by decide +kernel
theorem f_Law_law_1210 : fch r_Law_law.2.1 1210 = some (.ifCond .eq 7) := by decide +kernel
theorem f_Law_law_1213 : fch r_Law_law.2.1 1213 = some (.iconst 1) := by decide +kernel
theorem f_Law_law_1214 : fch r_Law_law.2.1 1214 = some (.goto 4) := by decide +kernel
theorem f_Law_law_1217 : fch r_Law_law.2.1 1217 = some (.iconst 0) := by decide +kernel
theorem f_Law_law_1218 : fch r_Law_law.2.1 1218 = some (.invokevirtual 112) := by decide +kernel
theorem f_Law_law_1221 : fch r_Law_law.2.1 1221 = some (.aload_n 2) := by decide +kernel
theorem f_Law_law_1222 : fch r_Law_law.2.1 1222 = some (.aload_n 0) := by decide +kernel
theorem f_Law_law_1223 : fch r_Law_law.2.1 1223 = some (.iload_n 3) := by decide +kernel
theorem f_Law_law_1224 : fch r_Law_law.2.1 1224 = some (.iconst 1) := by decide +kernel
theorem f_Law_law_1225 : fch r_Law_law.2.1 1225 = some (.iadd) := by decide +kernel
theorem f_Law_law_1226 : fch r_Law_law.2.1 1226 = some (.iaload) := by decide +kernel
theorem f_Law_law_1227 : fch r_Law_law.2.1 1227 = some (.aload_n 0) := by decide +kernel
theorem f_Law_law_1228 : fch r_Law_law.2.1 1228 = some (.iload_n 3) := by decide +kernel
theorem f_Law_law_1229 : fch r_Law_law.2.1 1229 = some (.iconst 2) := by decide +kernel
theorem f_Law_law_1230 : fch r_Law_law.2.1 1230 = some (.iadd) := by decide +kernel
theorem f_Law_law_1231 : fch r_Law_law.2.1 1231 = some (.iaload) := by decide +kernel
theorem f_Law_law_1232 : fch r_Law_law.2.1 1232 = some (.ifCond .eq 7) := by decide +kernel
theorem f_Law_law_1235 : fch r_Law_law.2.1 1235 = some (.iconst 1) := by decide +kernel
theorem f_Law_law_1236 : fch r_Law_law.2.1 1236 = some (.goto 4) := by decide +kernel
theorem f_Law_law_1239 : fch r_Law_law.2.1 1239 = some (.iconst 0) := by decide +kernel
theorem f_Law_law_1240 : fch r_Law_law.2.1 1240 = some (.invokevirtual 116) := by decide +kernel
theorem f_Law_law_1243 : fch r_Law_law.2.1 1243 = some (.if_icmp .eq 266) := by decide +kernel
theorem f_Law_law_1246 : fch r_Law_law.2.1 1246 = some (.iconst 0) := by decide +kernel
theorem f_Law_law_1247 : fch r_Law_law.2.1 1247 = some (.ireturn) := by decide +kernel
theorem f_Law_law_1248 : fch r_Law_law.2.1 1248 = some (.aload_n 1) := by decide +kernel
theorem f_Law_law_1249 : fch r_Law_law.2.1 1249 = some (.aload_n 0) := by decide +kernel
theorem f_Law_law_1250 : fch r_Law_law.2.1 1250 = some (.iload_n 3) := by decide +kernel
theorem f_Law_law_1251 : fch r_Law_law.2.1 1251 = some (.iconst 1) := by decide +kernel
theorem f_Law_law_1252 : fch r_Law_law.2.1 1252 = some (.iadd) := by decide +kernel
theorem f_Law_law_1253 : fch r_Law_law.2.1 1253 = some (.iaload) := by decide +kernel
theorem f_Law_law_1254 : fch r_Law_law.2.1 1254 = some (.invokevirtual 117) := by decide +kernel
theorem f_Law_law_1257 : fch r_Law_law.2.1 1257 = some (.aload_n 2) := by decide +kernel
theorem f_Law_law_1258 : fch r_Law_law.2.1 1258 = some (.aload_n 0) := by decide +kernel
theorem f_Law_law_1259 : fch r_Law_law.2.1 1259 = some (.iload_n 3) := by decide +kernel
theorem f_Law_law_1260 : fch r_Law_law.2.1 1260 = some (.iconst 1) := by decide +kernel
theorem f_Law_law_1261 : fch r_Law_law.2.1 1261 = some (.iadd) := by decide +kernel
theorem f_Law_law_1262 : fch r_Law_law.2.1 1262 = some (.iaload) := by decide +kernel
theorem f_Law_law_1263 : fch r_Law_law.2.1 1263 = some (.invokevirtual 120) := by decide +kernel
theorem f_Law_law_1266 : fch r_Law_law.2.1 1266 = some (.if_icmp .eq 243) := by decide +kernel
theorem f_Law_law_1269 : fch r_Law_law.2.1 1269 = some (.iconst 0) := by decide +kernel
theorem f_Law_law_1270 : fch r_Law_law.2.1 1270 = some (.ireturn) := by decide +kernel
theorem f_Law_law_1271 : fch r_Law_law.2.1 1271 = some (.aload_n 1) := by decide +kernel
theorem f_Law_law_1272 : fch r_Law_law.2.1 1272 = some (.aload_n 0) := by decide +kernel
theorem f_Law_law_1273 : fch r_Law_law.2.1 1273 = some (.iload_n 3) := by decide +kernel
theorem f_Law_law_1274 : fch r_Law_law.2.1 1274 = some (.iconst 1) := by decide +kernel
theorem f_Law_law_1275 : fch r_Law_law.2.1 1275 = some (.iadd) := by decide +kernel
theorem f_Law_law_1276 : fch r_Law_law.2.1 1276 = some (.iaload) := by decide +kernel
theorem f_Law_law_1277 : fch r_Law_law.2.1 1277 = some (.aload_n 0) := by decide +kernel
theorem f_Law_law_1278 : fch r_Law_law.2.1 1278 = some (.iload_n 3) := by decide +kernel
theorem f_Law_law_1279 : fch r_Law_law.2.1 1279 = some (.iconst 2) := by decide +kernel
theorem f_Law_law_1280 : fch r_Law_law.2.1 1280 = some (.iadd) := by decide +kernel
theorem f_Law_law_1281 : fch r_Law_law.2.1 1281 = some (.iaload) := by decide +kernel
theorem f_Law_law_1282 : fch r_Law_law.2.1 1282 = some (.aload_n 0) := by decide +kernel
theorem f_Law_law_1283 : fch r_Law_law.2.1 1283 = some (.iload_n 3) := by decide +kernel
theorem f_Law_law_1284 : fch r_Law_law.2.1 1284 = some (.iconst 3) := by decide +kernel
theorem f_Law_law_1285 : fch r_Law_law.2.1 1285 = some (.iadd) := by decide +kernel
theorem f_Law_law_1286 : fch r_Law_law.2.1 1286 = some (.iaload) := by decide +kernel
theorem f_Law_law_1287 : fch r_Law_law.2.1 1287 = some (.invokevirtual 121) := by decide +kernel
theorem f_Law_law_1290 : fch r_Law_law.2.1 1290 = some (.aload_n 2) := by decide +kernel
theorem f_Law_law_1291 : fch r_Law_law.2.1 1291 = some (.aload_n 0) := by decide +kernel
theorem f_Law_law_1292 : fch r_Law_law.2.1 1292 = some (.iload_n 3) := by decide +kernel
theorem f_Law_law_1293 : fch r_Law_law.2.1 1293 = some (.iconst 1) := by decide +kernel
theorem f_Law_law_1294 : fch r_Law_law.2.1 1294 = some (.iadd) := by decide +kernel
theorem f_Law_law_1295 : fch r_Law_law.2.1 1295 = some (.iaload) := by decide +kernel
theorem f_Law_law_1296 : fch r_Law_law.2.1 1296 = some (.aload_n 0) := by decide +kernel
theorem f_Law_law_1297 : fch r_Law_law.2.1 1297 = some (.iload_n 3) := by decide +kernel
theorem f_Law_law_1298 : fch r_Law_law.2.1 1298 = some (.iconst 2) := by decide +kernel
theorem f_Law_law_1299 : fch r_Law_law.2.1 1299 = some (.iadd) := by decide +kernel
theorem f_Law_law_1300 : fch r_Law_law.2.1 1300 = some (.iaload) := by decide +kernel
theorem f_Law_law_1301 : fch r_Law_law.2.1 1301 = some (.aload_n 0) := by decide +kernel
theorem f_Law_law_1302 : fch r_Law_law.2.1 1302 = some (.iload_n 3) := by decide +kernel
theorem f_Law_law_1303 : fch r_Law_law.2.1 1303 = some (.iconst 3) := by decide +kernel
theorem f_Law_law_1304 : fch r_Law_law.2.1 1304 = some (.iadd) := by decide +kernel
theorem f_Law_law_1305 : fch r_Law_law.2.1 1305 = some (.iaload) := by decide +kernel
theorem f_Law_law_1306 : fch r_Law_law.2.1 1306 = some (.invokevirtual 124) := by decide +kernel
theorem f_Law_law_1309 : fch r_Law_law.2.1 1309 = some (.if_icmp .eq 200) := by decide +kernel
theorem f_Law_law_1312 : fch r_Law_law.2.1 1312 = some (.iconst 0) := by decide +kernel
theorem f_Law_law_1313 : fch r_Law_law.2.1 1313 = some (.ireturn) := by decide +kernel
theorem f_Law_law_1314 : fch r_Law_law.2.1 1314 = some (.aload_n 1) := by decide +kernel
theorem f_Law_law_1315 : fch r_Law_law.2.1 1315 = some (.aload_n 0) := by decide +kernel
theorem f_Law_law_1316 : fch r_Law_law.2.1 1316 = some (.iload_n 3) := by decide +kernel
theorem f_Law_law_1317 : fch r_Law_law.2.1 1317 = some (.iconst 1) := by decide +kernel
theorem f_Law_law_1318 : fch r_Law_law.2.1 1318 = some (.iadd) := by decide +kernel
theorem f_Law_law_1319 : fch r_Law_law.2.1 1319 = some (.iaload) := by decide +kernel
theorem f_Law_law_1320 : fch r_Law_law.2.1 1320 = some (.invokevirtual 125) := by decide +kernel
theorem f_Law_law_1323 : fch r_Law_law.2.1 1323 = some (.aload_n 2) := by decide +kernel
theorem f_Law_law_1324 : fch r_Law_law.2.1 1324 = some (.aload_n 0) := by decide +kernel
theorem f_Law_law_1325 : fch r_Law_law.2.1 1325 = some (.iload_n 3) := by decide +kernel
theorem f_Law_law_1326 : fch r_Law_law.2.1 1326 = some (.iconst 1) := by decide +kernel
theorem f_Law_law_1327 : fch r_Law_law.2.1 1327 = some (.iadd) := by decide +kernel
theorem f_Law_law_1328 : fch r_Law_law.2.1 1328 = some (.iaload) := by decide +kernel
theorem f_Law_law_1329 : fch r_Law_law.2.1 1329 = some (.invokevirtual 128) := by decide +kernel
theorem f_Law_law_1332 : fch r_Law_law.2.1 1332 = some (.if_icmp .eq 177) := by decide +kernel
theorem f_Law_law_1335 : fch r_Law_law.2.1 1335 = some (.iconst 0) := by decide +kernel
theorem f_Law_law_1336 : fch r_Law_law.2.1 1336 = some (.ireturn) := by decide +kernel
theorem f_Law_law_1337 : fch r_Law_law.2.1 1337 = some (.aload_n 1) := by decide +kernel
theorem f_Law_law_1338 : fch r_Law_law.2.1 1338 = some (.aload_n 0) := by decide +kernel
theorem f_Law_law_1339 : fch r_Law_law.2.1 1339 = some (.iload_n 3) := by decide +kernel
theorem f_Law_law_1340 : fch r_Law_law.2.1 1340 = some (.iconst 1) := by decide +kernel
theorem f_Law_law_1341 : fch r_Law_law.2.1 1341 = some (.iadd) := by decide +kernel
theorem f_Law_law_1342 : fch r_Law_law.2.1 1342 = some (.iaload) := by decide +kernel
theorem f_Law_law_1343 : fch r_Law_law.2.1 1343 = some (.aload_n 0) := by decide +kernel
theorem f_Law_law_1344 : fch r_Law_law.2.1 1344 = some (.iload_n 3) := by decide +kernel
theorem f_Law_law_1345 : fch r_Law_law.2.1 1345 = some (.iconst 2) := by decide +kernel
theorem f_Law_law_1346 : fch r_Law_law.2.1 1346 = some (.iadd) := by decide +kernel
theorem f_Law_law_1347 : fch r_Law_law.2.1 1347 = some (.iaload) := by decide +kernel
theorem f_Law_law_1348 : fch r_Law_law.2.1 1348 = some (.aload_n 0) := by decide +kernel
theorem f_Law_law_1349 : fch r_Law_law.2.1 1349 = some (.iload_n 3) := by decide +kernel
theorem f_Law_law_1350 : fch r_Law_law.2.1 1350 = some (.iconst 3) := by decide +kernel
theorem f_Law_law_1351 : fch r_Law_law.2.1 1351 = some (.iadd) := by decide +kernel
theorem f_Law_law_1352 : fch r_Law_law.2.1 1352 = some (.iaload) := by decide +kernel
theorem f_Law_law_1353 : fch r_Law_law.2.1 1353 = some (.aload_n 0) := by decide +kernel
theorem f_Law_law_1354 : fch r_Law_law.2.1 1354 = some (.iload_n 3) := by decide +kernel
theorem f_Law_law_1355 : fch r_Law_law.2.1 1355 = some (.iconst 4) := by decide +kernel
theorem f_Law_law_1356 : fch r_Law_law.2.1 1356 = some (.iadd) := by decide +kernel
theorem f_Law_law_1357 : fch r_Law_law.2.1 1357 = some (.iaload) := by decide +kernel
theorem f_Law_law_1358 : fch r_Law_law.2.1 1358 = some (.invokevirtual 129) := by decide +kernel
theorem f_Law_law_1361 : fch r_Law_law.2.1 1361 = some (.aload_n 2) := by decide +kernel
theorem f_Law_law_1362 : fch r_Law_law.2.1 1362 = some (.aload_n 0) := by decide +kernel
theorem f_Law_law_1363 : fch r_Law_law.2.1 1363 = some (.iload_n 3) := by decide +kernel
theorem f_Law_law_1364 : fch r_Law_law.2.1 1364 = some (.iconst 1) := by decide +kernel
theorem f_Law_law_1365 : fch r_Law_law.2.1 1365 = some (.iadd) := by decide +kernel
theorem f_Law_law_1366 : fch r_Law_law.2.1 1366 = some (.iaload) := by decide +kernel
theorem f_Law_law_1367 : fch r_Law_law.2.1 1367 = some (.aload_n 0) := by decide +kernel
theorem f_Law_law_1368 : fch r_Law_law.2.1 1368 = some (.iload_n 3) := by decide +kernel
theorem f_Law_law_1369 : fch r_Law_law.2.1 1369 = some (.iconst 2) := by decide +kernel
theorem f_Law_law_1370 : fch r_Law_law.2.1 1370 = some (.iadd) := by decide +kernel
theorem f_Law_law_1371 : fch r_Law_law.2.1 1371 = some (.iaload) := by decide +kernel
theorem f_Law_law_1372 : fch r_Law_law.2.1 1372 = some (.aload_n 0) := by decide +kernel
theorem f_Law_law_1373 : fch r_Law_law.2.1 1373 = some (.iload_n 3) := by decide +kernel
theorem f_Law_law_1374 : fch r_Law_law.2.1 1374 = some (.iconst 3) := by decide +kernel
theorem f_Law_law_1375 : fch r_Law_law.2.1 1375 = some (.iadd) := by decide +kernel
theorem f_Law_law_1376 : fch r_Law_law.2.1 1376 = some (.iaload) := by decide +kernel
theorem f_Law_law_1377 : fch r_Law_law.2.1 1377 = some (.aload_n 0) := by decide +kernel
theorem f_Law_law_1378 : fch r_Law_law.2.1 1378 = some (.iload_n 3) := by decide +kernel
theorem f_Law_law_1379 : fch r_Law_law.2.1 1379 = some (.iconst 4) := by decide +kernel
theorem f_Law_law_1380 : fch r_Law_law.2.1 1380 = some (.iadd) := by decide +kernel
theorem f_Law_law_1381 : fch r_Law_law.2.1 1381 = some (.iaload) := by decide +kernel
theorem f_Law_law_1382 : fch r_Law_law.2.1 1382 = some (.invokevirtual 132) := by decide +kernel
theorem f_Law_law_1385 : fch r_Law_law.2.1 1385 = some (.if_icmp .eq 124) := by decide +kernel
theorem f_Law_law_1388 : fch r_Law_law.2.1 1388 = some (.iconst 0) := by decide +kernel
theorem f_Law_law_1389 : fch r_Law_law.2.1 1389 = some (.ireturn) := by decide +kernel
theorem f_Law_law_1390 : fch r_Law_law.2.1 1390 = some (.aload_n 1) := by decide +kernel
theorem f_Law_law_1391 : fch r_Law_law.2.1 1391 = some (.aload_n 0) := by decide +kernel
theorem f_Law_law_1392 : fch r_Law_law.2.1 1392 = some (.iload_n 3) := by decide +kernel
theorem f_Law_law_1393 : fch r_Law_law.2.1 1393 = some (.iconst 1) := by decide +kernel
theorem f_Law_law_1394 : fch r_Law_law.2.1 1394 = some (.iadd) := by decide +kernel
theorem f_Law_law_1395 : fch r_Law_law.2.1 1395 = some (.iaload) := by decide +kernel
theorem f_Law_law_1396 : fch r_Law_law.2.1 1396 = some (.aload_n 0) := by decide +kernel
theorem f_Law_law_1397 : fch r_Law_law.2.1 1397 = some (.iload_n 3) := by decide +kernel
theorem f_Law_law_1398 : fch r_Law_law.2.1 1398 = some (.iconst 2) := by decide +kernel
theorem f_Law_law_1399 : fch r_Law_law.2.1 1399 = some (.iadd) := by decide +kernel
theorem f_Law_law_1400 : fch r_Law_law.2.1 1400 = some (.iaload) := by decide +kernel
theorem f_Law_law_1401 : fch r_Law_law.2.1 1401 = some (.aload_n 0) := by decide +kernel
theorem f_Law_law_1402 : fch r_Law_law.2.1 1402 = some (.iload_n 3) := by decide +kernel
theorem f_Law_law_1403 : fch r_Law_law.2.1 1403 = some (.iconst 3) := by decide +kernel
theorem f_Law_law_1404 : fch r_Law_law.2.1 1404 = some (.iadd) := by decide +kernel
theorem f_Law_law_1405 : fch r_Law_law.2.1 1405 = some (.iaload) := by decide +kernel
theorem f_Law_law_1406 : fch r_Law_law.2.1 1406 = some (.invokevirtual 133) := by decide +kernel
theorem f_Law_law_1409 : fch r_Law_law.2.1 1409 = some (.aload_n 2) := by decide +kernel
theorem f_Law_law_1410 : fch r_Law_law.2.1 1410 = some (.aload_n 0) := by decide +kernel
theorem f_Law_law_1411 : fch r_Law_law.2.1 1411 = some (.iload_n 3) := by decide +kernel
theorem f_Law_law_1412 : fch r_Law_law.2.1 1412 = some (.iconst 1) := by decide +kernel
theorem f_Law_law_1413 : fch r_Law_law.2.1 1413 = some (.iadd) := by decide +kernel
theorem f_Law_law_1414 : fch r_Law_law.2.1 1414 = some (.iaload) := by decide +kernel
theorem f_Law_law_1415 : fch r_Law_law.2.1 1415 = some (.aload_n 0) := by decide +kernel
theorem f_Law_law_1416 : fch r_Law_law.2.1 1416 = some (.iload_n 3) := by decide +kernel
theorem f_Law_law_1417 : fch r_Law_law.2.1 1417 = some (.iconst 2) := by decide +kernel
theorem f_Law_law_1418 : fch r_Law_law.2.1 1418 = some (.iadd) := by decide +kernel
theorem f_Law_law_1419 : fch r_Law_law.2.1 1419 = some (.iaload) := by decide +kernel
theorem f_Law_law_1420 : fch r_Law_law.2.1 1420 = some (.aload_n 0) := by decide +kernel
theorem f_Law_law_1421 : fch r_Law_law.2.1 1421 = some (.iload_n 3) := by decide +kernel
theorem f_Law_law_1422 : fch r_Law_law.2.1 1422 = some (.iconst 3) := by decide +kernel
theorem f_Law_law_1423 : fch r_Law_law.2.1 1423 = some (.iadd) := by decide +kernel
theorem f_Law_law_1424 : fch r_Law_law.2.1 1424 = some (.iaload) := by decide +kernel
theorem f_Law_law_1425 : fch r_Law_law.2.1 1425 = some (.invokevirtual 136) := by decide +kernel
theorem f_Law_law_1428 : fch r_Law_law.2.1 1428 = some (.if_icmp .eq 81) := by decide +kernel
theorem f_Law_law_1431 : fch r_Law_law.2.1 1431 = some (.iconst 0) := by decide +kernel
theorem f_Law_law_1432 : fch r_Law_law.2.1 1432 = some (.ireturn) := by decide +kernel
theorem f_Law_law_1433 : fch r_Law_law.2.1 1433 = some (.aload_n 1) := by decide +kernel
theorem f_Law_law_1434 : fch r_Law_law.2.1 1434 = some (.aload_n 0) := by decide +kernel
theorem f_Law_law_1435 : fch r_Law_law.2.1 1435 = some (.iload_n 3) := by decide +kernel
theorem f_Law_law_1436 : fch r_Law_law.2.1 1436 = some (.iconst 1) := by decide +kernel
theorem f_Law_law_1437 : fch r_Law_law.2.1 1437 = some (.iadd) := by decide +kernel
theorem f_Law_law_1438 : fch r_Law_law.2.1 1438 = some (.iaload) := by decide +kernel
theorem f_Law_law_1439 : fch r_Law_law.2.1 1439 = some (.aload_n 0) := by decide +kernel
theorem f_Law_law_1440 : fch r_Law_law.2.1 1440 = some (.iload_n 3) := by decide +kernel
theorem f_Law_law_1441 : fch r_Law_law.2.1 1441 = some (.iconst 2) := by decide +kernel
theorem f_Law_law_1442 : fch r_Law_law.2.1 1442 = some (.iadd) := by decide +kernel
theorem f_Law_law_1443 : fch r_Law_law.2.1 1443 = some (.iaload) := by decide +kernel
theorem f_Law_law_1444 : fch r_Law_law.2.1 1444 = some (.aload_n 0) := by decide +kernel
theorem f_Law_law_1445 : fch r_Law_law.2.1 1445 = some (.iload_n 3) := by decide +kernel
theorem f_Law_law_1446 : fch r_Law_law.2.1 1446 = some (.iconst 3) := by decide +kernel
theorem f_Law_law_1447 : fch r_Law_law.2.1 1447 = some (.iadd) := by decide +kernel
theorem f_Law_law_1448 : fch r_Law_law.2.1 1448 = some (.iaload) := by decide +kernel
theorem f_Law_law_1449 : fch r_Law_law.2.1 1449 = some (.invokevirtual 137) := by decide +kernel
theorem f_Law_law_1452 : fch r_Law_law.2.1 1452 = some (.aload_n 2) := by decide +kernel
theorem f_Law_law_1453 : fch r_Law_law.2.1 1453 = some (.aload_n 0) := by decide +kernel
theorem f_Law_law_1454 : fch r_Law_law.2.1 1454 = some (.iload_n 3) := by decide +kernel
theorem f_Law_law_1455 : fch r_Law_law.2.1 1455 = some (.iconst 1) := by decide +kernel
theorem f_Law_law_1456 : fch r_Law_law.2.1 1456 = some (.iadd) := by decide +kernel
theorem f_Law_law_1457 : fch r_Law_law.2.1 1457 = some (.iaload) := by decide +kernel
theorem f_Law_law_1458 : fch r_Law_law.2.1 1458 = some (.aload_n 0) := by decide +kernel
theorem f_Law_law_1459 : fch r_Law_law.2.1 1459 = some (.iload_n 3) := by decide +kernel
theorem f_Law_law_1460 : fch r_Law_law.2.1 1460 = some (.iconst 2) := by decide +kernel
theorem f_Law_law_1461 : fch r_Law_law.2.1 1461 = some (.iadd) := by decide +kernel
theorem f_Law_law_1462 : fch r_Law_law.2.1 1462 = some (.iaload) := by decide +kernel
theorem f_Law_law_1463 : fch r_Law_law.2.1 1463 = some (.aload_n 0) := by decide +kernel
theorem f_Law_law_1464 : fch r_Law_law.2.1 1464 = some (.iload_n 3) := by decide +kernel
theorem f_Law_law_1465 : fch r_Law_law.2.1 1465 = some (.iconst 3) := by decide +kernel
theorem f_Law_law_1466 : fch r_Law_law.2.1 1466 = some (.iadd) := by decide +kernel
theorem f_Law_law_1467 : fch r_Law_law.2.1 1467 = some (.iaload) := by decide +kernel
theorem f_Law_law_1468 : fch r_Law_law.2.1 1468 = some (.invokevirtual 140) := by decide +kernel
theorem f_Law_law_1471 : fch r_Law_law.2.1 1471 = some (.if_icmp .eq 38) := by decide +kernel
theorem f_Law_law_1474 : fch r_Law_law.2.1 1474 = some (.iconst 0) := by decide +kernel
theorem f_Law_law_1475 : fch r_Law_law.2.1 1475 = some (.ireturn) := by decide +kernel
theorem f_Law_law_1476 : fch r_Law_law.2.1 1476 = some (.aload_n 1) := by decide +kernel
theorem f_Law_law_1477 : fch r_Law_law.2.1 1477 = some (.aload_n 0) := by decide +kernel
theorem f_Law_law_1478 : fch r_Law_law.2.1 1478 = some (.iload_n 3) := by decide +kernel
theorem f_Law_law_1479 : fch r_Law_law.2.1 1479 = some (.iconst 1) := by decide +kernel
theorem f_Law_law_1480 : fch r_Law_law.2.1 1480 = some (.iadd) := by decide +kernel
theorem f_Law_law_1481 : fch r_Law_law.2.1 1481 = some (.iaload) := by decide +kernel
theorem f_Law_law_1482 : fch r_Law_law.2.1 1482 = some (.aload_n 0) := by decide +kernel
theorem f_Law_law_1483 : fch r_Law_law.2.1 1483 = some (.iload_n 3) := by decide +kernel
theorem f_Law_law_1484 : fch r_Law_law.2.1 1484 = some (.iconst 2) := by decide +kernel
theorem f_Law_law_1485 : fch r_Law_law.2.1 1485 = some (.iadd) := by decide +kernel
theorem f_Law_law_1486 : fch r_Law_law.2.1 1486 = some (.iaload) := by decide +kernel
theorem f_Law_law_1487 : fch r_Law_law.2.1 1487 = some (.invokevirtual 141) := by decide +kernel
theorem f_Law_law_1490 : fch r_Law_law.2.1 1490 = some (.aload_n 2) := by decide +kernel
theorem f_Law_law_1491 : fch r_Law_law.2.1 1491 = some (.aload_n 0) := by decide +kernel
theorem f_Law_law_1492 : fch r_Law_law.2.1 1492 = some (.iload_n 3) := by decide +kernel
theorem f_Law_law_1493 : fch r_Law_law.2.1 1493 = some (.iconst 1) := by decide +kernel
theorem f_Law_law_1494 : fch r_Law_law.2.1 1494 = some (.iadd) := by decide +kernel
theorem f_Law_law_1495 : fch r_Law_law.2.1 1495 = some (.iaload) := by decide +kernel
theorem f_Law_law_1496 : fch r_Law_law.2.1 1496 = some (.aload_n 0) := by decide +kernel
theorem f_Law_law_1497 : fch r_Law_law.2.1 1497 = some (.iload_n 3) := by decide +kernel
theorem f_Law_law_1498 : fch r_Law_law.2.1 1498 = some (.iconst 2) := by decide +kernel
theorem f_Law_law_1499 : fch r_Law_law.2.1 1499 = some (.iadd) := by decide +kernel
theorem f_Law_law_1500 : fch r_Law_law.2.1 1500 = some (.iaload) := by decide +kernel
theorem f_Law_law_1501 : fch r_Law_law.2.1 1501 = some (.invokevirtual 144) := by decide +kernel
theorem f_Law_law_1504 : fch r_Law_law.2.1 1504 = some (.if_icmp .eq 5) := by decide +kernel
theorem f_Law_law_1507 : fch r_Law_law.2.1 1507 = some (.iconst 0) := by decide +kernel
theorem f_Law_law_1508 : fch r_Law_law.2.1 1508 = some (.ireturn) := by decide +kernel
theorem f_Law_law_1509 : fch r_Law_law.2.1 1509 = some (.iinc 3 7) := by decide +kernel
theorem f_Law_law_1512 : fch r_Law_law.2.1 1512 = some (.goto (-1494)) := by decide +kernel
theorem f_Law_law_1515 : fch r_Law_law.2.1 1515 = some (.iconst 1) := by decide +kernel
theorem f_Law_law_1516 : fch r_Law_law.2.1 1516 = some (.ireturn) := by decide +kernel
