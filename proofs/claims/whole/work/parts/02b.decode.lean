theorem dX5_readNumber_49 : decode cX5_readNumber 49 = .ok (.ireturn, 1) := by decide +kernel
theorem dX5_faultHere_0 : decode cX5_faultHere 0 = .ok (.aload_n 0, 1) := by decide +kernel
theorem dX5_faultHere_1 : decode cX5_faultHere 1 = .ok (.iload_n 1, 1) := by decide +kernel
theorem dX5_faultHere_2 : decode cX5_faultHere 2 = .ok (.aload_n 0, 1) := by decide +kernel
theorem dX5_faultHere_3 : decode cX5_faultHere 3 = .ok (.getfield 22, 3) := by decide +kernel
theorem dX5_faultHere_6 : decode cX5_faultHere 6 = .ok (.invokevirtual 57, 3) := by decide +kernel
theorem dX5_faultHere_9 : decode cX5_faultHere 9 = .ok (.ireturn, 1) := by decide +kernel
theorem dX5_faultAt_0 : decode cX5_faultAt 0 = .ok (.bipush 100, 2) := by decide +kernel
theorem dX5_faultAt_2 : decode cX5_faultAt 2 = .ok (.iload_n 1, 1) := by decide +kernel
theorem dX5_faultAt_3 : decode cX5_faultAt 3 = .ok (.imul, 1) := by decide +kernel
theorem dX5_faultAt_4 : decode cX5_faultAt 4 = .ok (.iload_n 2, 1) := by decide +kernel
theorem dX5_faultAt_5 : decode cX5_faultAt 5 = .ok (.iadd, 1) := by decide +kernel
theorem dX5_faultAt_6 : decode cX5_faultAt 6 = .ok (.ireturn, 1) := by decide +kernel
theorem dX6_init_0 : decode cX6_init 0 = .ok (.aload_n 0, 1) := by decide +kernel
theorem dX6_init_1 : decode cX6_init 1 = .ok (.invokespecial 3, 3) := by decide +kernel
theorem dX6_init_4 : decode cX6_init 4 = .ok (.aload_n 0, 1) := by decide +kernel
theorem dX6_init_5 : decode cX6_init 5 = .ok (.bipush 6, 2) := by decide +kernel
theorem dX6_init_7 : decode cX6_init 7 = .ok (.newarray .int, 2) := by decide +kernel
theorem dX6_init_9 : decode cX6_init 9 = .ok (.putfield 9, 3) := by decide +kernel
theorem dX6_init_12 : decode cX6_init 12 = .ok (.aload_n 0, 1) := by decide +kernel
theorem dX6_init_13 : decode cX6_init 13 = .ok (.bipush 6, 2) := by decide +kernel
theorem dX6_init_15 : decode cX6_init 15 = .ok (.newarray .int, 2) := by decide +kernel
theorem dX6_init_17 : decode cX6_init 17 = .ok (.putfield 15, 3) := by decide +kernel
theorem dX6_init_20 : decode cX6_init 20 = .ok (.aload_n 0, 1) := by decide +kernel
theorem dX6_init_21 : decode cX6_init 21 = .ok (.bipush 6, 2) := by decide +kernel
theorem dX6_init_23 : decode cX6_init 23 = .ok (.newarray .int, 2) := by decide +kernel
theorem dX6_init_25 : decode cX6_init 25 = .ok (.putfield 18, 3) := by decide +kernel
theorem dX6_init_28 : decode cX6_init 28 = .ok (.aload_n 0, 1) := by decide +kernel
theorem dX6_init_29 : decode cX6_init 29 = .ok (.bipush 6, 2) := by decide +kernel
theorem dX6_init_31 : decode cX6_init 31 = .ok (.newarray .int, 2) := by decide +kernel
theorem dX6_init_33 : decode cX6_init 33 = .ok (.putfield 21, 3) := by decide +kernel
theorem dX6_init_36 : decode cX6_init 36 = .ok (.return_, 1) := by decide +kernel
theorem dX6_plan_0 : decode cX6_plan 0 = .ok (.iconst 0, 1) := by decide +kernel
theorem dX6_plan_1 : decode cX6_plan 1 = .ok (.istore 4, 2) := by decide +kernel
theorem dX6_plan_3 : decode cX6_plan 3 = .ok (.iload 4, 2) := by decide +kernel
theorem dX6_plan_5 : decode cX6_plan 5 = .ok (.bipush 6, 2) := by decide +kernel
theorem dX6_plan_7 : decode cX6_plan 7 = .ok (.if_icmp .ge 48, 3) := by decide +kernel
theorem dX6_plan_10 : decode cX6_plan 10 = .ok (.aload_n 0, 1) := by decide +kernel
theorem dX6_plan_11 : decode cX6_plan 11 = .ok (.getfield 9, 3) := by decide +kernel
theorem dX6_plan_14 : decode cX6_plan 14 = .ok (.iload 4, 2) := by decide +kernel
theorem dX6_plan_16 : decode cX6_plan 16 = .ok (.aload_n 1, 1) := by decide +kernel
theorem dX6_plan_17 : decode cX6_plan 17 = .ok (.iload 4, 2) := by decide +kernel
theorem dX6_plan_19 : decode cX6_plan 19 = .ok (.aaload, 1) := by decide +kernel
theorem dX6_plan_20 : decode cX6_plan 20 = .ok (.aload_n 2, 1) := by decide +kernel
theorem dX6_plan_21 : decode cX6_plan 21 = .ok (.invokestatic 24, 3) := by decide +kernel
theorem dX6_plan_24 : decode cX6_plan 24 = .ok (.iastore, 1) := by decide +kernel
theorem dX6_plan_25 : decode cX6_plan 25 = .ok (.aload_n 0, 1) := by decide +kernel
theorem dX6_plan_26 : decode cX6_plan 26 = .ok (.getfield 15, 3) := by decide +kernel
theorem dX6_plan_29 : decode cX6_plan 29 = .ok (.iload 4, 2) := by decide +kernel
theorem dX6_plan_31 : decode cX6_plan 31 = .ok (.iconst (-1), 1) := by decide +kernel
theorem dX6_plan_32 : decode cX6_plan 32 = .ok (.iastore, 1) := by decide +kernel
theorem dX6_plan_33 : decode cX6_plan 33 = .ok (.aload_n 0, 1) := by decide +kernel
theorem dX6_plan_34 : decode cX6_plan 34 = .ok (.getfield 18, 3) := by decide +kernel
theorem dX6_plan_37 : decode cX6_plan 37 = .ok (.iload 4, 2) := by decide +kernel
theorem dX6_plan_39 : decode cX6_plan 39 = .ok (.iconst 0, 1) := by decide +kernel
theorem dX6_plan_40 : decode cX6_plan 40 = .ok (.iastore, 1) := by decide +kernel
theorem dX6_plan_41 : decode cX6_plan 41 = .ok (.aload_n 0, 1) := by decide +kernel
theorem dX6_plan_42 : decode cX6_plan 42 = .ok (.getfield 21, 3) := by decide +kernel
theorem dX6_plan_45 : decode cX6_plan 45 = .ok (.iload 4, 2) := by decide +kernel
theorem dX6_plan_47 : decode cX6_plan 47 = .ok (.iconst 0, 1) := by decide +kernel
theorem dX6_plan_48 : decode cX6_plan 48 = .ok (.iastore, 1) := by decide +kernel
theorem dX6_plan_49 : decode cX6_plan 49 = .ok (.iinc 4 1, 3) := by decide +kernel
theorem dX6_plan_52 : decode cX6_plan 52 = .ok (.goto (-49), 3) := by decide +kernel
theorem dX6_plan_55 : decode cX6_plan 55 = .ok (.iconst 0, 1) := by decide +kernel
theorem dX6_plan_56 : decode cX6_plan 56 = .ok (.istore 4, 2) := by decide +kernel
theorem dX6_plan_58 : decode cX6_plan 58 = .ok (.iconst 0, 1) := by decide +kernel
theorem dX6_plan_59 : decode cX6_plan 59 = .ok (.istore 5, 2) := by decide +kernel
theorem dX6_plan_61 : decode cX6_plan 61 = .ok (.iload 5, 2) := by decide +kernel
theorem dX6_plan_63 : decode cX6_plan 63 = .ok (.bipush 6, 2) := by decide +kernel
theorem dX6_plan_65 : decode cX6_plan 65 = .ok (.if_icmp .ge 24, 3) := by decide +kernel
theorem dX6_plan_68 : decode cX6_plan 68 = .ok (.iload 4, 2) := by decide +kernel
theorem dX6_plan_70 : decode cX6_plan 70 = .ok (.ifCond .ne 19, 3) := by decide +kernel
theorem dX6_plan_73 : decode cX6_plan 73 = .ok (.aload_n 0, 1) := by decide +kernel
theorem dX6_plan_74 : decode cX6_plan 74 = .ok (.iconst 0, 1) := by decide +kernel
theorem dX6_plan_75 : decode cX6_plan 75 = .ok (.iload 5, 2) := by decide +kernel
theorem dX6_plan_77 : decode cX6_plan 77 = .ok (.iload_n 3, 1) := by decide +kernel
theorem dX6_plan_78 : decode cX6_plan 78 = .ok (.invokestatic 28, 3) := by decide +kernel
theorem dX6_plan_81 : decode cX6_plan 81 = .ok (.istore 4, 2) := by decide +kernel
theorem dX6_plan_83 : decode cX6_plan 83 = .ok (.iinc 5 1, 3) := by decide +kernel
theorem dX6_plan_86 : decode cX6_plan 86 = .ok (.goto (-25), 3) := by decide +kernel
theorem dX6_plan_89 : decode cX6_plan 89 = .ok (.return_, 1) := by decide +kernel
theorem dX6_lastHour_0 : decode cX6_lastHour 0 = .ok (.iconst (-1), 1) := by decide +kernel
theorem dX6_lastHour_1 : decode cX6_lastHour 1 = .ok (.istore_n 1, 1) := by decide +kernel
theorem dX6_lastHour_2 : decode cX6_lastHour 2 = .ok (.iconst 0, 1) := by decide +kernel
theorem dX6_lastHour_3 : decode cX6_lastHour 3 = .ok (.istore_n 2, 1) := by decide +kernel
theorem dX6_lastHour_4 : decode cX6_lastHour 4 = .ok (.iload_n 2, 1) := by decide +kernel
theorem dX6_lastHour_5 : decode cX6_lastHour 5 = .ok (.bipush 6, 2) := by decide +kernel
theorem dX6_lastHour_7 : decode cX6_lastHour 7 = .ok (.if_icmp .ge 20, 3) := by decide +kernel
theorem dX6_lastHour_10 : decode cX6_lastHour 10 = .ok (.iload_n 1, 1) := by decide +kernel
theorem dX6_lastHour_11 : decode cX6_lastHour 11 = .ok (.aload_n 0, 1) := by decide +kernel
theorem dX6_lastHour_12 : decode cX6_lastHour 12 = .ok (.getfield 15, 3) := by decide +kernel
theorem dX6_lastHour_15 : decode cX6_lastHour 15 = .ok (.iload_n 2, 1) := by decide +kernel
theorem dX6_lastHour_16 : decode cX6_lastHour 16 = .ok (.iaload, 1) := by decide +kernel
theorem dX6_lastHour_17 : decode cX6_lastHour 17 = .ok (.invokestatic 32, 3) := by decide +kernel
theorem dX6_lastHour_20 : decode cX6_lastHour 20 = .ok (.istore_n 1, 1) := by decide +kernel
theorem dX6_lastHour_21 : decode cX6_lastHour 21 = .ok (.iinc 2 1, 3) := by decide +kernel
theorem dX6_lastHour_24 : decode cX6_lastHour 24 = .ok (.goto (-20), 3) := by decide +kernel
theorem dX6_lastHour_27 : decode cX6_lastHour 27 = .ok (.iload_n 1, 1) := by decide +kernel
theorem dX6_lastHour_28 : decode cX6_lastHour 28 = .ok (.ireturn, 1) := by decide +kernel
theorem dX6_handlersOf_0 : decode cX6_handlersOf 0 = .ok (.iconst 0, 1) := by decide +kernel
theorem dX6_handlersOf_1 : decode cX6_handlersOf 1 = .ok (.istore_n 2, 1) := by decide +kernel
theorem dX6_handlersOf_2 : decode cX6_handlersOf 2 = .ok (.iconst 0, 1) := by decide +kernel
theorem dX6_handlersOf_3 : decode cX6_handlersOf 3 = .ok (.istore_n 3, 1) := by decide +kernel
theorem dX6_handlersOf_4 : decode cX6_handlersOf 4 = .ok (.iload_n 3, 1) := by decide +kernel
theorem dX6_handlersOf_5 : decode cX6_handlersOf 5 = .ok (.aload_n 0, 1) := by decide +kernel
theorem dX6_handlersOf_6 : decode cX6_handlersOf 6 = .ok (.getfield 38, 3) := by decide +kernel
theorem dX6_handlersOf_9 : decode cX6_handlersOf 9 = .ok (.if_icmp .ge 25, 3) := by decide +kernel
theorem dX6_handlersOf_12 : decode cX6_handlersOf 12 = .ok (.iload_n 2, 1) := by decide +kernel
theorem dX6_handlersOf_13 : decode cX6_handlersOf 13 = .ok (.iconst 1, 1) := by decide +kernel
theorem dX6_handlersOf_14 : decode cX6_handlersOf 14 = .ok (.aload_n 1, 1) := by decide +kernel
theorem dX6_handlersOf_15 : decode cX6_handlersOf 15 = .ok (.aload_n 0, 1) := by decide +kernel
theorem dX6_handlersOf_16 : decode cX6_handlersOf 16 = .ok (.getfield 44, 3) := by decide +kernel
theorem dX6_handlersOf_19 : decode cX6_handlersOf 19 = .ok (.iload_n 3, 1) := by decide +kernel
theorem dX6_handlersOf_20 : decode cX6_handlersOf 20 = .ok (.iaload, 1) := by decide +kernel
theorem dX6_handlersOf_21 : decode cX6_handlersOf 21 = .ok (.aaload, 1) := by decide +kernel
theorem dX6_handlersOf_22 : decode cX6_handlersOf 22 = .ok (.getfield 47, 3) := by decide +kernel
theorem dX6_handlersOf_25 : decode cX6_handlersOf 25 = .ok (.ishl, 1) := by decide +kernel
theorem dX6_handlersOf_26 : decode cX6_handlersOf 26 = .ok (.ior, 1) := by decide +kernel
theorem dX6_handlersOf_27 : decode cX6_handlersOf 27 = .ok (.istore_n 2, 1) := by decide +kernel
theorem dX6_handlersOf_28 : decode cX6_handlersOf 28 = .ok (.iinc 3 1, 3) := by decide +kernel
theorem dX6_handlersOf_31 : decode cX6_handlersOf 31 = .ok (.goto (-27), 3) := by decide +kernel
theorem dX6_handlersOf_34 : decode cX6_handlersOf 34 = .ok (.iload_n 2, 1) := by decide +kernel
theorem dX6_handlersOf_35 : decode cX6_handlersOf 35 = .ok (.ireturn, 1) := by decide +kernel
theorem dX6_fitFrom_0 : decode cX6_fitFrom 0 = .ok (.iload_n 1, 1) := by decide +kernel
theorem dX6_fitFrom_1 : decode cX6_fitFrom 1 = .ok (.bipush 6, 2) := by decide +kernel
theorem dX6_fitFrom_3 : decode cX6_fitFrom 3 = .ok (.if_icmp .lt 5, 3) := by decide +kernel
theorem dX6_fitFrom_6 : decode cX6_fitFrom 6 = .ok (.iconst 1, 1) := by decide +kernel
theorem dX6_fitFrom_7 : decode cX6_fitFrom 7 = .ok (.ireturn, 1) := by decide +kernel
theorem dX6_fitFrom_8 : decode cX6_fitFrom 8 = .ok (.aload_n 0, 1) := by decide +kernel
theorem dX6_fitFrom_9 : decode cX6_fitFrom 9 = .ok (.getfield 9, 3) := by decide +kernel
theorem dX6_fitFrom_12 : decode cX6_fitFrom 12 = .ok (.iload_n 1, 1) := by decide +kernel
theorem dX6_fitFrom_13 : decode cX6_fitFrom 13 = .ok (.iaload, 1) := by decide +kernel
theorem dX6_fitFrom_14 : decode cX6_fitFrom 14 = .ok (.istore 4, 2) := by decide +kernel
theorem dX6_fitFrom_16 : decode cX6_fitFrom 16 = .ok (.iload 4, 2) := by decide +kernel
theorem dX6_fitFrom_18 : decode cX6_fitFrom 18 = .ok (.ifCond .ne 13, 3) := by decide +kernel
theorem dX6_fitFrom_21 : decode cX6_fitFrom 21 = .ok (.aload_n 0, 1) := by decide +kernel
theorem dX6_fitFrom_22 : decode cX6_fitFrom 22 = .ok (.iload_n 1, 1) := by decide +kernel
theorem dX6_fitFrom_23 : decode cX6_fitFrom 23 = .ok (.iconst 1, 1) := by decide +kernel
theorem dX6_fitFrom_24 : decode cX6_fitFrom 24 = .ok (.iadd, 1) := by decide +kernel
theorem dX6_fitFrom_25 : decode cX6_fitFrom 25 = .ok (.iload_n 2, 1) := by decide +kernel
theorem dX6_fitFrom_26 : decode cX6_fitFrom 26 = .ok (.iload_n 3, 1) := by decide +kernel
theorem dX6_fitFrom_27 : decode cX6_fitFrom 27 = .ok (.invokestatic 28, 3) := by decide +kernel
theorem dX6_fitFrom_30 : decode cX6_fitFrom 30 = .ok (.ireturn, 1) := by decide +kernel
theorem dX6_fitFrom_31 : decode cX6_fitFrom 31 = .ok (.iconst 0, 1) := by decide +kernel
theorem dX6_fitFrom_32 : decode cX6_fitFrom 32 = .ok (.istore 5, 2) := by decide +kernel
theorem dX6_fitFrom_34 : decode cX6_fitFrom 34 = .ok (.iload 5, 2) := by decide +kernel
theorem dX6_fitFrom_36 : decode cX6_fitFrom 36 = .ok (.iload_n 2, 1) := by decide +kernel
theorem dX6_fitFrom_37 : decode cX6_fitFrom 37 = .ok (.if_icmp .gt 103, 3) := by decide +kernel
theorem dX6_fitFrom_40 : decode cX6_fitFrom 40 = .ok (.aload_n 0, 1) := by decide +kernel
theorem dX6_fitFrom_41 : decode cX6_fitFrom 41 = .ok (.getfield 21, 3) := by decide +kernel
theorem dX6_fitFrom_44 : decode cX6_fitFrom 44 = .ok (.iload 5, 2) := by decide +kernel
theorem dX6_fitFrom_46 : decode cX6_fitFrom 46 = .ok (.iaload, 1) := by decide +kernel
theorem dX6_fitFrom_47 : decode cX6_fitFrom 47 = .ok (.iload_n 3, 1) := by decide +kernel
theorem dX6_fitFrom_48 : decode cX6_fitFrom 48 = .ok (.if_icmp .ge 86, 3) := by decide +kernel
theorem dX6_fitFrom_51 : decode cX6_fitFrom 51 = .ok (.aload_n 0, 1) := by decide +kernel
theorem dX6_fitFrom_52 : decode cX6_fitFrom 52 = .ok (.getfield 18, 3) := by decide +kernel
theorem dX6_fitFrom_55 : decode cX6_fitFrom 55 = .ok (.iload 5, 2) := by decide +kernel
theorem dX6_fitFrom_57 : decode cX6_fitFrom 57 = .ok (.iaload, 1) := by decide +kernel
theorem dX6_fitFrom_58 : decode cX6_fitFrom 58 = .ok (.iload 4, 2) := by decide +kernel
theorem dX6_fitFrom_60 : decode cX6_fitFrom 60 = .ok (.iand, 1) := by decide +kernel
theorem dX6_fitFrom_61 : decode cX6_fitFrom 61 = .ok (.ifCond .ne 73, 3) := by decide +kernel
theorem dX6_fitFrom_64 : decode cX6_fitFrom 64 = .ok (.aload_n 0, 1) := by decide +kernel
theorem dX6_fitFrom_65 : decode cX6_fitFrom 65 = .ok (.getfield 15, 3) := by decide +kernel
theorem dX6_fitFrom_68 : decode cX6_fitFrom 68 = .ok (.iload_n 1, 1) := by decide +kernel
theorem dX6_fitFrom_69 : decode cX6_fitFrom 69 = .ok (.iload 5, 2) := by decide +kernel
theorem dX6_fitFrom_71 : decode cX6_fitFrom 71 = .ok (.iastore, 1) := by decide +kernel
theorem dX6_fitFrom_72 : decode cX6_fitFrom 72 = .ok (.aload_n 0, 1) := by decide +kernel
theorem dX6_fitFrom_73 : decode cX6_fitFrom 73 = .ok (.getfield 21, 3) := by decide +kernel
theorem dX6_fitFrom_76 : decode cX6_fitFrom 76 = .ok (.iload 5, 2) := by decide +kernel
theorem dX6_fitFrom_78 : decode cX6_fitFrom 78 = .ok (.dup2, 1) := by decide +kernel
theorem dX6_fitFrom_79 : decode cX6_fitFrom 79 = .ok (.iaload, 1) := by decide +kernel
theorem dX6_fitFrom_80 : decode cX6_fitFrom 80 = .ok (.iconst 1, 1) := by decide +kernel
theorem dX6_fitFrom_81 : decode cX6_fitFrom 81 = .ok (.iadd, 1) := by decide +kernel
theorem dX6_fitFrom_82 : decode cX6_fitFrom 82 = .ok (.iastore, 1) := by decide +kernel
theorem dX6_fitFrom_83 : decode cX6_fitFrom 83 = .ok (.aload_n 0, 1) := by decide +kernel
theorem dX6_fitFrom_84 : decode cX6_fitFrom 84 = .ok (.getfield 18, 3) := by decide +kernel
theorem dX6_fitFrom_87 : decode cX6_fitFrom 87 = .ok (.iload 5, 2) := by decide +kernel
theorem dX6_fitFrom_89 : decode cX6_fitFrom 89 = .ok (.dup2, 1) := by decide +kernel
theorem dX6_fitFrom_90 : decode cX6_fitFrom 90 = .ok (.iaload, 1) := by decide +kernel
theorem dX6_fitFrom_91 : decode cX6_fitFrom 91 = .ok (.iload 4, 2) := by decide +kernel
theorem dX6_fitFrom_93 : decode cX6_fitFrom 93 = .ok (.ior, 1) := by decide +kernel
theorem dX6_fitFrom_94 : decode cX6_fitFrom 94 = .ok (.iastore, 1) := by decide +kernel
theorem dX6_fitFrom_95 : decode cX6_fitFrom 95 = .ok (.aload_n 0, 1) := by decide +kernel
theorem dX6_fitFrom_96 : decode cX6_fitFrom 96 = .ok (.iload_n 1, 1) := by decide +kernel
theorem dX6_fitFrom_97 : decode cX6_fitFrom 97 = .ok (.iconst 1, 1) := by decide +kernel
theorem dX6_fitFrom_98 : decode cX6_fitFrom 98 = .ok (.iadd, 1) := by decide +kernel
theorem dX6_fitFrom_99 : decode cX6_fitFrom 99 = .ok (.iload_n 2, 1) := by decide +kernel
theorem dX6_fitFrom_100 : decode cX6_fitFrom 100 = .ok (.iload_n 3, 1) := by decide +kernel
theorem dX6_fitFrom_101 : decode cX6_fitFrom 101 = .ok (.invokestatic 28, 3) := by decide +kernel
theorem dX6_fitFrom_104 : decode cX6_fitFrom 104 = .ok (.ifCond .eq 5, 3) := by decide +kernel
theorem dX6_fitFrom_107 : decode cX6_fitFrom 107 = .ok (.iconst 1, 1) := by decide +kernel
theorem dX6_fitFrom_108 : decode cX6_fitFrom 108 = .ok (.ireturn, 1) := by decide +kernel
theorem dX6_fitFrom_109 : decode cX6_fitFrom 109 = .ok (.aload_n 0, 1) := by decide +kernel
theorem dX6_fitFrom_110 : decode cX6_fitFrom 110 = .ok (.getfield 21, 3) := by decide +kernel
theorem dX6_fitFrom_113 : decode cX6_fitFrom 113 = .ok (.iload 5, 2) := by decide +kernel
theorem dX6_fitFrom_115 : decode cX6_fitFrom 115 = .ok (.dup2, 1) := by decide +kernel
theorem dX6_fitFrom_116 : decode cX6_fitFrom 116 = .ok (.iaload, 1) := by decide +kernel
theorem dX6_fitFrom_117 : decode cX6_fitFrom 117 = .ok (.iconst 1, 1) := by decide +kernel
theorem dX6_fitFrom_118 : decode cX6_fitFrom 118 = .ok (.isub, 1) := by decide +kernel
theorem dX6_fitFrom_119 : decode cX6_fitFrom 119 = .ok (.iastore, 1) := by decide +kernel
theorem dX6_fitFrom_120 : decode cX6_fitFrom 120 = .ok (.aload_n 0, 1) := by decide +kernel
theorem dX6_fitFrom_121 : decode cX6_fitFrom 121 = .ok (.getfield 18, 3) := by decide +kernel
theorem dX6_fitFrom_124 : decode cX6_fitFrom 124 = .ok (.iload 5, 2) := by decide +kernel
theorem dX6_fitFrom_126 : decode cX6_fitFrom 126 = .ok (.dup2, 1) := by decide +kernel
theorem dX6_fitFrom_127 : decode cX6_fitFrom 127 = .ok (.iaload, 1) := by decide +kernel
theorem dX6_fitFrom_128 : decode cX6_fitFrom 128 = .ok (.iload 4, 2) := by decide +kernel
theorem dX6_fitFrom_130 : decode cX6_fitFrom 130 = .ok (.iconst (-1), 1) := by decide +kernel
theorem dX6_fitFrom_131 : decode cX6_fitFrom 131 = .ok (.ixor, 1) := by decide +kernel
theorem dX6_fitFrom_132 : decode cX6_fitFrom 132 = .ok (.iand, 1) := by decide +kernel
theorem dX6_fitFrom_133 : decode cX6_fitFrom 133 = .ok (.iastore, 1) := by decide +kernel
theorem dX6_fitFrom_134 : decode cX6_fitFrom 134 = .ok (.iinc 5 1, 3) := by decide +kernel
theorem dX6_fitFrom_137 : decode cX6_fitFrom 137 = .ok (.goto (-103), 3) := by decide +kernel
theorem dX6_fitFrom_140 : decode cX6_fitFrom 140 = .ok (.iconst 0, 1) := by decide +kernel
theorem dX6_fitFrom_141 : decode cX6_fitFrom 141 = .ok (.ireturn, 1) := by decide +kernel
theorem dX7_init_0 : decode cX7_init 0 = .ok (.aload_n 0, 1) := by decide +kernel
theorem dX7_init_1 : decode cX7_init 1 = .ok (.invokespecial 1, 3) := by decide +kernel
theorem dX7_init_4 : decode cX7_init 4 = .ok (.aload_n 0, 1) := by decide +kernel
theorem dX7_init_5 : decode cX7_init 5 = .ok (.new 7, 3) := by decide +kernel
theorem dX7_init_8 : decode cX7_init 8 = .ok (.dup, 1) := by decide +kernel
theorem dX7_init_9 : decode cX7_init 9 = .ok (.invokespecial 9, 3) := by decide +kernel
theorem dX7_init_12 : decode cX7_init 12 = .ok (.putfield 10, 3) := by decide +kernel
theorem dX7_init_15 : decode cX7_init 15 = .ok (.aload_n 0, 1) := by decide +kernel
theorem dX7_init_16 : decode cX7_init 16 = .ok (.bipush 20, 2) := by decide +kernel
theorem dX7_init_18 : decode cX7_init 18 = .ok (.anewarray 16, 3) := by decide +kernel
theorem dX7_init_21 : decode cX7_init 21 = .ok (.putfield 18, 3) := by decide +kernel
theorem dX7_init_24 : decode cX7_init 24 = .ok (.aload_n 0, 1) := by decide +kernel
theorem dX7_init_25 : decode cX7_init 25 = .ok (.bipush 6, 2) := by decide +kernel
theorem dX7_init_27 : decode cX7_init 27 = .ok (.anewarray 22, 3) := by decide +kernel
theorem dX7_init_30 : decode cX7_init 30 = .ok (.putfield 24, 3) := by decide +kernel
theorem dX7_init_33 : decode cX7_init 33 = .ok (.aload_n 0, 1) := by decide +kernel
theorem dX7_init_34 : decode cX7_init 34 = .ok (.bipush 6, 2) := by decide +kernel
theorem dX7_init_36 : decode cX7_init 36 = .ok (.newarray .int, 2) := by decide +kernel
theorem dX7_init_38 : decode cX7_init 38 = .ok (.putfield 28, 3) := by decide +kernel
theorem dX7_init_41 : decode cX7_init 41 = .ok (.aload_n 0, 1) := by decide +kernel
theorem dX7_init_42 : decode cX7_init 42 = .ok (.new 32, 3) := by decide +kernel
theorem dX7_init_45 : decode cX7_init 45 = .ok (.dup, 1) := by decide +kernel
theorem dX7_init_46 : decode cX7_init 46 = .ok (.invokespecial 34, 3) := by decide +kernel
theorem dX7_init_49 : decode cX7_init 49 = .ok (.putfield 35, 3) := by decide +kernel
theorem dX7_init_52 : decode cX7_init 52 = .ok (.aload_n 0, 1) := by decide +kernel
theorem dX7_init_53 : decode cX7_init 53 = .ok (.new 39, 3) := by decide +kernel
theorem dX7_init_56 : decode cX7_init 56 = .ok (.dup, 1) := by decide +kernel
theorem dX7_init_57 : decode cX7_init 57 = .ok (.invokespecial 41, 3) := by decide +kernel
theorem dX7_init_60 : decode cX7_init 60 = .ok (.putfield 42, 3) := by decide +kernel
theorem dX7_init_63 : decode cX7_init 63 = .ok (.aload_n 0, 1) := by decide +kernel
theorem dX7_init_64 : decode cX7_init 64 = .ok (.new 46, 3) := by decide +kernel
theorem dX7_init_67 : decode cX7_init 67 = .ok (.dup, 1) := by decide +kernel
theorem dX7_init_68 : decode cX7_init 68 = .ok (.invokespecial 48, 3) := by decide +kernel
theorem dX7_init_71 : decode cX7_init 71 = .ok (.putfield 49, 3) := by decide +kernel
theorem dX7_init_74 : decode cX7_init 74 = .ok (.aload_n 0, 1) := by decide +kernel
theorem dX7_init_75 : decode cX7_init 75 = .ok (.new 53, 3) := by decide +kernel
theorem dX7_init_78 : decode cX7_init 78 = .ok (.dup, 1) := by decide +kernel
theorem dX7_init_79 : decode cX7_init 79 = .ok (.invokespecial 55, 3) := by decide +kernel
theorem dX7_init_82 : decode cX7_init 82 = .ok (.putfield 56, 3) := by decide +kernel
theorem dX7_init_85 : decode cX7_init 85 = .ok (.aload_n 0, 1) := by decide +kernel
theorem dX7_init_86 : decode cX7_init 86 = .ok (.iconst 0, 1) := by decide +kernel
theorem dX7_init_87 : decode cX7_init 87 = .ok (.putfield 60, 3) := by decide +kernel
theorem dX7_init_90 : decode cX7_init 90 = .ok (.aload_n 0, 1) := by decide +kernel
theorem dX7_init_91 : decode cX7_init 91 = .ok (.iconst 2, 1) := by decide +kernel
theorem dX7_init_92 : decode cX7_init 92 = .ok (.putfield 64, 3) := by decide +kernel
theorem dX7_init_95 : decode cX7_init 95 = .ok (.iconst 0, 1) := by decide +kernel
theorem dX7_init_96 : decode cX7_init 96 = .ok (.istore_n 1, 1) := by decide +kernel
theorem dX7_init_97 : decode cX7_init 97 = .ok (.iload_n 1, 1) := by decide +kernel
theorem dX7_init_98 : decode cX7_init 98 = .ok (.bipush 6, 2) := by decide +kernel
theorem dX7_init_100 : decode cX7_init 100 = .ok (.if_icmp .ge 22, 3) := by decide +kernel
theorem dX7_init_103 : decode cX7_init 103 = .ok (.aload_n 0, 1) := by decide +kernel
theorem dX7_init_104 : decode cX7_init 104 = .ok (.getfield 24, 3) := by decide +kernel
theorem dX7_init_107 : decode cX7_init 107 = .ok (.iload_n 1, 1) := by decide +kernel
theorem dX7_init_108 : decode cX7_init 108 = .ok (.new 22, 3) := by decide +kernel
theorem dX7_init_111 : decode cX7_init 111 = .ok (.dup, 1) := by decide +kernel
theorem dX7_init_112 : decode cX7_init 112 = .ok (.invokespecial 67, 3) := by decide +kernel
theorem dX7_init_115 : decode cX7_init 115 = .ok (.aastore, 1) := by decide +kernel
theorem dX7_init_116 : decode cX7_init 116 = .ok (.iinc 1 1, 3) := by decide +kernel
theorem dX7_init_119 : decode cX7_init 119 = .ok (.goto (-22), 3) := by decide +kernel
theorem dX7_init_122 : decode cX7_init 122 = .ok (.return_, 1) := by decide +kernel
theorem dX7_feed_0 : decode cX7_feed 0 = .ok (.aload_n 0, 1) := by decide +kernel
theorem dX7_feed_1 : decode cX7_feed 1 = .ok (.getfield 10, 3) := by decide +kernel
theorem dX7_feed_4 : decode cX7_feed 4 = .ok (.invokevirtual 68, 3) := by decide +kernel
theorem dX7_feed_7 : decode cX7_feed 7 = .ok (.ifCond .ne 5, 3) := by decide +kernel
theorem dX7_feed_10 : decode cX7_feed 10 = .ok (.iconst (-1), 1) := by decide +kernel
theorem dX7_feed_11 : decode cX7_feed 11 = .ok (.ireturn, 1) := by decide +kernel
theorem dX7_feed_12 : decode cX7_feed 12 = .ok (.aload_n 0, 1) := by decide +kernel
theorem dX7_feed_13 : decode cX7_feed 13 = .ok (.getfield 10, 3) := by decide +kernel
theorem dX7_feed_16 : decode cX7_feed 16 = .ok (.iload_n 1, 1) := by decide +kernel
theorem dX7_feed_17 : decode cX7_feed 17 = .ok (.invokevirtual 72, 3) := by decide +kernel
theorem dX7_feed_20 : decode cX7_feed 20 = .ok (.aload_n 0, 1) := by decide +kernel
theorem dX7_feed_21 : decode cX7_feed 21 = .ok (.getfield 10, 3) := by decide +kernel
theorem dX7_feed_24 : decode cX7_feed 24 = .ok (.iload_n 2, 1) := by decide +kernel
theorem dX7_feed_25 : decode cX7_feed 25 = .ok (.invokevirtual 72, 3) := by decide +kernel
theorem dX7_feed_28 : decode cX7_feed 28 = .ok (.aload_n 0, 1) := by decide +kernel
theorem dX7_feed_29 : decode cX7_feed 29 = .ok (.getfield 10, 3) := by decide +kernel
theorem dX7_feed_32 : decode cX7_feed 32 = .ok (.iload_n 3, 1) := by decide +kernel
theorem dX7_feed_33 : decode cX7_feed 33 = .ok (.invokevirtual 72, 3) := by decide +kernel
theorem dX7_feed_36 : decode cX7_feed 36 = .ok (.aload_n 0, 1) := by decide +kernel
theorem dX7_feed_37 : decode cX7_feed 37 = .ok (.getfield 10, 3) := by decide +kernel
theorem dX7_feed_40 : decode cX7_feed 40 = .ok (.iload 4, 2) := by decide +kernel
theorem dX7_feed_42 : decode cX7_feed 42 = .ok (.invokevirtual 72, 3) := by decide +kernel
theorem dX7_feed_45 : decode cX7_feed 45 = .ok (.aload_n 0, 1) := by decide +kernel
theorem dX7_feed_46 : decode cX7_feed 46 = .ok (.getfield 10, 3) := by decide +kernel
theorem dX7_feed_49 : decode cX7_feed 49 = .ok (.iload 5, 2) := by decide +kernel
theorem dX7_feed_51 : decode cX7_feed 51 = .ok (.invokevirtual 72, 3) := by decide +kernel
theorem dX7_feed_54 : decode cX7_feed 54 = .ok (.aload_n 0, 1) := by decide +kernel
theorem dX7_feed_55 : decode cX7_feed 55 = .ok (.getfield 10, 3) := by decide +kernel
theorem dX7_feed_58 : decode cX7_feed 58 = .ok (.invokevirtual 76, 3) := by decide +kernel
theorem dX7_feed_61 : decode cX7_feed 61 = .ok (.ireturn, 1) := by decide +kernel
theorem dX7_text_0 : decode cX7_text 0 = .ok (.aload_n 0, 1) := by decide +kernel
theorem dX7_text_1 : decode cX7_text 1 = .ok (.iload_n 1, 1) := by decide +kernel
theorem dX7_text_2 : decode cX7_text 2 = .ok (.invokevirtual 80, 3) := by decide +kernel
theorem dX7_text_5 : decode cX7_text 5 = .ok (.astore_n 3, 1) := by decide +kernel
theorem dX7_text_6 : decode cX7_text 6 = .ok (.aload_n 3, 1) := by decide +kernel
theorem dX7_text_7 : decode cX7_text 7 = .ok (.ifnull 14, 3) := by decide +kernel
theorem dX7_text_10 : decode cX7_text 10 = .ok (.aload_n 0, 1) := by decide +kernel
theorem dX7_text_11 : decode cX7_text 11 = .ok (.getfield 10, 3) := by decide +kernel
theorem dX7_text_14 : decode cX7_text 14 = .ok (.iload_n 2, 1) := by decide +kernel
theorem dX7_text_15 : decode cX7_text 15 = .ok (.invokevirtual 84, 3) := by decide +kernel
theorem dX7_text_18 : decode cX7_text 18 = .ok (.ifCond .ne 5, 3) := by decide +kernel
theorem dX7_text_21 : decode cX7_text 21 = .ok (.iconst (-1), 1) := by decide +kernel
theorem dX7_text_22 : decode cX7_text 22 = .ok (.ireturn, 1) := by decide +kernel
theorem dX7_text_23 : decode cX7_text 23 = .ok (.aload_n 0, 1) := by decide +kernel
theorem dX7_text_24 : decode cX7_text 24 = .ok (.getfield 10, 3) := by decide +kernel
theorem dX7_text_27 : decode cX7_text 27 = .ok (.iload_n 2, 1) := by decide +kernel
theorem dX7_text_28 : decode cX7_text 28 = .ok (.invokevirtual 88, 3) := by decide +kernel
theorem dX7_text_31 : decode cX7_text 31 = .ok (.aload_n 0, 1) := by decide +kernel
theorem dX7_text_32 : decode cX7_text 32 = .ok (.getfield 56, 3) := by decide +kernel
theorem dX7_text_35 : decode cX7_text 35 = .ok (.aload_n 0, 1) := by decide +kernel
theorem dX7_text_36 : decode cX7_text 36 = .ok (.getfield 10, 3) := by decide +kernel
theorem dX7_text_39 : decode cX7_text 39 = .ok (.invokevirtual 91, 3) := by decide +kernel
theorem dX7_text_42 : decode cX7_text 42 = .ok (.istore 4, 2) := by decide +kernel
theorem dX7_text_44 : decode cX7_text 44 = .ok (.aload_n 0, 1) := by decide +kernel
theorem dX7_text_45 : decode cX7_text 45 = .ok (.getfield 10, 3) := by decide +kernel
theorem dX7_text_48 : decode cX7_text 48 = .ok (.invokevirtual 95, 3) := by decide +kernel
theorem dX7_text_51 : decode cX7_text 51 = .ok (.iload 4, 2) := by decide +kernel
theorem dX7_text_53 : decode cX7_text 53 = .ok (.ifCond .ne 15, 3) := by decide +kernel
theorem dX7_text_56 : decode cX7_text 56 = .ok (.aload_n 0, 1) := by decide +kernel
theorem dX7_text_57 : decode cX7_text 57 = .ok (.aload_n 3, 1) := by decide +kernel
theorem dX7_text_58 : decode cX7_text 58 = .ok (.aload_n 0, 1) := by decide +kernel
theorem dX7_text_59 : decode cX7_text 59 = .ok (.getfield 56, 3) := by decide +kernel
theorem dX7_text_62 : decode cX7_text 62 = .ok (.invokevirtual 98, 3) := by decide +kernel
theorem dX7_text_65 : decode cX7_text 65 = .ok (.putfield 56, 3) := by decide +kernel
theorem dX7_text_68 : decode cX7_text 68 = .ok (.iload 4, 2) := by decide +kernel
theorem dX7_text_70 : decode cX7_text 70 = .ok (.ireturn, 1) := by decide +kernel
theorem dX7_beast_0 : decode cX7_beast 0 = .ok (.iload_n 1, 1) := by decide +kernel
theorem dX7_beast_1 : decode cX7_beast 1 = .ok (.iconst 4, 1) := by decide +kernel
theorem dX7_beast_2 : decode cX7_beast 2 = .ok (.invokestatic 102, 3) := by decide +kernel
theorem dX7_beast_5 : decode cX7_beast 5 = .ok (.ifCond .eq 41, 3) := by decide +kernel
theorem dX7_beast_8 : decode cX7_beast 8 = .ok (.iload_n 2, 1) := by decide +kernel
theorem dX7_beast_9 : decode cX7_beast 9 = .ok (.sipush 201, 3) := by decide +kernel
theorem dX7_beast_12 : decode cX7_beast 12 = .ok (.invokestatic 102, 3) := by decide +kernel
theorem dX7_beast_15 : decode cX7_beast 15 = .ok (.ifCond .eq 31, 3) := by decide +kernel
theorem dX7_beast_18 : decode cX7_beast 18 = .ok (.iload_n 3, 1) := by decide +kernel
theorem dX7_beast_19 : decode cX7_beast 19 = .ok (.bipush 10, 2) := by decide +kernel
theorem dX7_beast_21 : decode cX7_beast 21 = .ok (.invokestatic 102, 3) := by decide +kernel
theorem dX7_beast_24 : decode cX7_beast 24 = .ok (.ifCond .eq 22, 3) := by decide +kernel
theorem dX7_beast_27 : decode cX7_beast 27 = .ok (.iload 4, 2) := by decide +kernel
theorem dX7_beast_29 : decode cX7_beast 29 = .ok (.bipush 10, 2) := by decide +kernel
theorem dX7_beast_31 : decode cX7_beast 31 = .ok (.invokestatic 102, 3) := by decide +kernel
theorem dX7_beast_34 : decode cX7_beast 34 = .ok (.ifCond .eq 12, 3) := by decide +kernel
theorem dX7_beast_37 : decode cX7_beast 37 = .ok (.aload_n 0, 1) := by decide +kernel
theorem dX7_beast_38 : decode cX7_beast 38 = .ok (.getfield 60, 3) := by decide +kernel
theorem dX7_beast_41 : decode cX7_beast 41 = .ok (.bipush 20, 2) := by decide +kernel
theorem dX7_beast_43 : decode cX7_beast 43 = .ok (.if_icmp .lt 5, 3) := by decide +kernel
theorem dX7_beast_46 : decode cX7_beast 46 = .ok (.iconst (-1), 1) := by decide +kernel
theorem dX7_beast_47 : decode cX7_beast 47 = .ok (.ireturn, 1) := by decide +kernel
theorem dX7_beast_48 : decode cX7_beast 48 = .ok (.aload_n 0, 1) := by decide +kernel
theorem dX7_beast_49 : decode cX7_beast 49 = .ok (.getfield 18, 3) := by decide +kernel
theorem dX7_beast_52 : decode cX7_beast 52 = .ok (.aload_n 0, 1) := by decide +kernel
theorem dX7_beast_53 : decode cX7_beast 53 = .ok (.getfield 60, 3) := by decide +kernel
theorem dX7_beast_56 : decode cX7_beast 56 = .ok (.new 16, 3) := by decide +kernel
theorem dX7_beast_59 : decode cX7_beast 59 = .ok (.dup, 1) := by decide +kernel
theorem dX7_beast_60 : decode cX7_beast 60 = .ok (.iload_n 1, 1) := by decide +kernel
theorem dX7_beast_61 : decode cX7_beast 61 = .ok (.iload_n 2, 1) := by decide +kernel
theorem dX7_beast_62 : decode cX7_beast 62 = .ok (.iload_n 3, 1) := by decide +kernel
theorem dX7_beast_63 : decode cX7_beast 63 = .ok (.iload 4, 2) := by decide +kernel
theorem dX7_beast_65 : decode cX7_beast 65 = .ok (.invokespecial 106, 3) := by decide +kernel
theorem dX7_beast_68 : decode cX7_beast 68 = .ok (.aastore, 1) := by decide +kernel
theorem dX7_beast_69 : decode cX7_beast 69 = .ok (.aload_n 0, 1) := by decide +kernel
theorem dX7_beast_70 : decode cX7_beast 70 = .ok (.dup, 1) := by decide +kernel
theorem dX7_beast_71 : decode cX7_beast 71 = .ok (.getfield 60, 3) := by decide +kernel
theorem dX7_beast_74 : decode cX7_beast 74 = .ok (.iconst 1, 1) := by decide +kernel
theorem dX7_beast_75 : decode cX7_beast 75 = .ok (.iadd, 1) := by decide +kernel
theorem dX7_beast_76 : decode cX7_beast 76 = .ok (.putfield 60, 3) := by decide +kernel
theorem dX7_beast_79 : decode cX7_beast 79 = .ok (.aload_n 0, 1) := by decide +kernel
theorem dX7_beast_80 : decode cX7_beast 80 = .ok (.getfield 60, 3) := by decide +kernel
theorem dX7_beast_83 : decode cX7_beast 83 = .ok (.iconst 1, 1) := by decide +kernel
theorem dX7_beast_84 : decode cX7_beast 84 = .ok (.isub, 1) := by decide +kernel
theorem dX7_beast_85 : decode cX7_beast 85 = .ok (.ireturn, 1) := by decide +kernel
theorem dX7_measure_0 : decode cX7_measure 0 = .ok (.aload_n 0, 1) := by decide +kernel
theorem dX7_measure_1 : decode cX7_measure 1 = .ok (.iload_n 1, 1) := by decide +kernel
theorem dX7_measure_2 : decode cX7_measure 2 = .ok (.invokevirtual 109, 3) := by decide +kernel
theorem dX7_measure_5 : decode cX7_measure 5 = .ok (.astore 4, 2) := by decide +kernel
theorem dX7_measure_7 : decode cX7_measure 7 = .ok (.aload 4, 2) := by decide +kernel
theorem dX7_measure_9 : decode cX7_measure 9 = .ok (.ifnull 20, 3) := by decide +kernel
theorem dX7_measure_12 : decode cX7_measure 12 = .ok (.iload_n 2, 1) := by decide +kernel
theorem dX7_measure_13 : decode cX7_measure 13 = .ok (.iconst 3, 1) := by decide +kernel
theorem dX7_measure_14 : decode cX7_measure 14 = .ok (.invokestatic 102, 3) := by decide +kernel
theorem dX7_measure_17 : decode cX7_measure 17 = .ok (.ifCond .eq 12, 3) := by decide +kernel
theorem dX7_measure_20 : decode cX7_measure 20 = .ok (.iload_n 3, 1) := by decide +kernel
theorem dX7_measure_21 : decode cX7_measure 21 = .ok (.bipush 100, 2) := by decide +kernel
theorem dX7_measure_23 : decode cX7_measure 23 = .ok (.invokestatic 102, 3) := by decide +kernel
theorem dX7_measure_26 : decode cX7_measure 26 = .ok (.ifCond .ne 5, 3) := by decide +kernel
theorem dX7_measure_29 : decode cX7_measure 29 = .ok (.iconst 0, 1) := by decide +kernel
theorem dX7_measure_30 : decode cX7_measure 30 = .ok (.ireturn, 1) := by decide +kernel
theorem dX7_measure_31 : decode cX7_measure 31 = .ok (.aload 4, 2) := by decide +kernel
theorem dX7_measure_33 : decode cX7_measure 33 = .ok (.getfield 113, 3) := by decide +kernel
theorem dX7_measure_36 : decode cX7_measure 36 = .ok (.iload_n 2, 1) := by decide +kernel
theorem dX7_measure_37 : decode cX7_measure 37 = .ok (.iload_n 3, 1) := by decide +kernel
theorem dX7_measure_38 : decode cX7_measure 38 = .ok (.iastore, 1) := by decide +kernel
theorem dX7_measure_39 : decode cX7_measure 39 = .ok (.iconst 1, 1) := by decide +kernel
theorem dX7_measure_40 : decode cX7_measure 40 = .ok (.ireturn, 1) := by decide +kernel
theorem dX7_lets_0 : decode cX7_lets 0 = .ok (.aload_n 0, 1) := by decide +kernel
theorem dX7_lets_1 : decode cX7_lets 1 = .ok (.iload_n 1, 1) := by decide +kernel
theorem dX7_lets_2 : decode cX7_lets 2 = .ok (.invokevirtual 80, 3) := by decide +kernel
theorem dX7_lets_5 : decode cX7_lets 5 = .ok (.astore_n 3, 1) := by decide +kernel
theorem dX7_lets_6 : decode cX7_lets 6 = .ok (.aload_n 0, 1) := by decide +kernel
theorem dX7_lets_7 : decode cX7_lets 7 = .ok (.iload_n 2, 1) := by decide +kernel
theorem dX7_lets_8 : decode cX7_lets 8 = .ok (.invokevirtual 109, 3) := by decide +kernel
theorem dX7_lets_11 : decode cX7_lets 11 = .ok (.astore 4, 2) := by decide +kernel
theorem dX7_lets_13 : decode cX7_lets 13 = .ok (.aload_n 3, 1) := by decide +kernel
theorem dX7_lets_14 : decode cX7_lets 14 = .ok (.ifnull 8, 3) := by decide +kernel
theorem dX7_lets_17 : decode cX7_lets 17 = .ok (.aload 4, 2) := by decide +kernel
theorem dX7_lets_19 : decode cX7_lets 19 = .ok (.ifnonnull 5, 3) := by decide +kernel
theorem dX7_lets_22 : decode cX7_lets 22 = .ok (.iconst (-1), 1) := by decide +kernel
theorem dX7_lets_23 : decode cX7_lets 23 = .ok (.ireturn, 1) := by decide +kernel
theorem dX7_lets_24 : decode cX7_lets 24 = .ok (.aload_n 3, 1) := by decide +kernel
theorem dX7_lets_25 : decode cX7_lets 25 = .ok (.aload 4, 2) := by decide +kernel
theorem dX7_lets_27 : decode cX7_lets 27 = .ok (.invokevirtual 116, 3) := by decide +kernel
theorem dX7_lets_30 : decode cX7_lets 30 = .ok (.ifCond .eq 7, 3) := by decide +kernel
theorem dX7_lets_33 : decode cX7_lets 33 = .ok (.iconst 1, 1) := by decide +kernel
theorem dX7_lets_34 : decode cX7_lets 34 = .ok (.goto 4, 3) := by decide +kernel
theorem dX7_lets_37 : decode cX7_lets 37 = .ok (.iconst 0, 1) := by decide +kernel
theorem dX7_lets_38 : decode cX7_lets 38 = .ok (.ireturn, 1) := by decide +kernel
theorem dX7_enter_0 : decode cX7_enter 0 = .ok (.aload_n 0, 1) := by decide +kernel
theorem dX7_enter_1 : decode cX7_enter 1 = .ok (.iload_n 1, 1) := by decide +kernel
theorem dX7_enter_2 : decode cX7_enter 2 = .ok (.iload_n 2, 1) := by decide +kernel
theorem dX7_enter_3 : decode cX7_enter 3 = .ok (.invokevirtual 120, 3) := by decide +kernel
theorem dX7_enter_6 : decode cX7_enter 6 = .ok (.iconst 1, 1) := by decide +kernel
theorem dX7_enter_7 : decode cX7_enter 7 = .ok (.if_icmp .eq 5, 3) := by decide +kernel
theorem dX7_enter_10 : decode cX7_enter 10 = .ok (.iconst 0, 1) := by decide +kernel
theorem dX7_enter_11 : decode cX7_enter 11 = .ok (.ireturn, 1) := by decide +kernel
theorem dX7_enter_12 : decode cX7_enter 12 = .ok (.aload_n 0, 1) := by decide +kernel
theorem dX7_enter_13 : decode cX7_enter 13 = .ok (.getfield 24, 3) := by decide +kernel
theorem dX7_enter_16 : decode cX7_enter 16 = .ok (.iload_n 1, 1) := by decide +kernel
theorem dX7_enter_17 : decode cX7_enter 17 = .ok (.aaload, 1) := by decide +kernel
theorem dX7_enter_18 : decode cX7_enter 18 = .ok (.astore_n 3, 1) := by decide +kernel
theorem dX7_enter_19 : decode cX7_enter 19 = .ok (.aload_n 3, 1) := by decide +kernel
theorem dX7_enter_20 : decode cX7_enter 20 = .ok (.iload_n 2, 1) := by decide +kernel
theorem dX7_enter_21 : decode cX7_enter 21 = .ok (.invokevirtual 124, 3) := by decide +kernel
theorem dX7_enter_24 : decode cX7_enter 24 = .ok (.ifCond .ne 5, 3) := by decide +kernel
theorem dX7_enter_27 : decode cX7_enter 27 = .ok (.iconst 0, 1) := by decide +kernel
theorem dX7_enter_28 : decode cX7_enter 28 = .ok (.ireturn, 1) := by decide +kernel
theorem dX7_enter_29 : decode cX7_enter 29 = .ok (.aload_n 3, 1) := by decide +kernel
theorem dX7_enter_30 : decode cX7_enter 30 = .ok (.iload_n 2, 1) := by decide +kernel
theorem dX7_enter_31 : decode cX7_enter 31 = .ok (.invokevirtual 127, 3) := by decide +kernel
theorem dX7_enter_34 : decode cX7_enter 34 = .ok (.aload_n 0, 1) := by decide +kernel
theorem dX7_enter_35 : decode cX7_enter 35 = .ok (.getfield 35, 3) := by decide +kernel
theorem dX7_enter_38 : decode cX7_enter 38 = .ok (.aload_n 3, 1) := by decide +kernel
theorem dX7_enter_39 : decode cX7_enter 39 = .ok (.invokevirtual 130, 3) := by decide +kernel
theorem dX7_enter_42 : decode cX7_enter 42 = .ok (.iconst 1, 1) := by decide +kernel
theorem dX7_enter_43 : decode cX7_enter 43 = .ok (.ireturn, 1) := by decide +kernel
theorem dX7_protest_0 : decode cX7_protest 0 = .ok (.aload_n 0, 1) := by decide +kernel
theorem dX7_protest_1 : decode cX7_protest 1 = .ok (.iload_n 1, 1) := by decide +kernel
theorem dX7_protest_2 : decode cX7_protest 2 = .ok (.invokevirtual 80, 3) := by decide +kernel
theorem dX7_protest_5 : decode cX7_protest 5 = .ok (.astore_n 3, 1) := by decide +kernel
theorem dX7_protest_6 : decode cX7_protest 6 = .ok (.aload_n 3, 1) := by decide +kernel
theorem dX7_protest_7 : decode cX7_protest 7 = .ok (.ifnull 19, 3) := by decide +kernel
theorem dX7_protest_10 : decode cX7_protest 10 = .ok (.aload_n 0, 1) := by decide +kernel
theorem dX7_protest_11 : decode cX7_protest 11 = .ok (.iload_n 2, 1) := by decide +kernel
theorem dX7_protest_12 : decode cX7_protest 12 = .ok (.invokevirtual 109, 3) := by decide +kernel
theorem dX7_protest_15 : decode cX7_protest 15 = .ok (.ifnull 11, 3) := by decide +kernel
theorem dX7_protest_18 : decode cX7_protest 18 = .ok (.aload_n 3, 1) := by decide +kernel
theorem dX7_protest_19 : decode cX7_protest 19 = .ok (.iload_n 2, 1) := by decide +kernel
theorem dX7_protest_20 : decode cX7_protest 20 = .ok (.invokevirtual 134, 3) := by decide +kernel
theorem dX7_protest_23 : decode cX7_protest 23 = .ok (.ifCond .ne 5, 3) := by decide +kernel
theorem dX7_protest_26 : decode cX7_protest 26 = .ok (.iconst 0, 1) := by decide +kernel
theorem dX7_protest_27 : decode cX7_protest 27 = .ok (.ireturn, 1) := by decide +kernel
theorem dX7_protest_28 : decode cX7_protest 28 = .ok (.aload_n 3, 1) := by decide +kernel
theorem dX7_protest_29 : decode cX7_protest 29 = .ok (.iload_n 2, 1) := by decide +kernel
theorem dX7_protest_30 : decode cX7_protest 30 = .ok (.invokevirtual 137, 3) := by decide +kernel
theorem dX7_protest_33 : decode cX7_protest 33 = .ok (.aload_n 0, 1) := by decide +kernel
theorem dX7_protest_34 : decode cX7_protest 34 = .ok (.getfield 35, 3) := by decide +kernel
theorem dX7_protest_37 : decode cX7_protest 37 = .ok (.aload_n 3, 1) := by decide +kernel
theorem dX7_protest_38 : decode cX7_protest 38 = .ok (.invokevirtual 130, 3) := by decide +kernel
theorem dX7_protest_41 : decode cX7_protest 41 = .ok (.iconst 1, 1) := by decide +kernel
theorem dX7_protest_42 : decode cX7_protest 42 = .ok (.ireturn, 1) := by decide +kernel
theorem dX7_bar_0 : decode cX7_bar 0 = .ok (.iload_n 1, 1) := by decide +kernel
theorem dX7_bar_1 : decode cX7_bar 1 = .ok (.bipush 6, 2) := by decide +kernel
theorem dX7_bar_3 : decode cX7_bar 3 = .ok (.invokestatic 102, 3) := by decide +kernel
theorem dX7_bar_6 : decode cX7_bar 6 = .ok (.ifCond .eq 24, 3) := by decide +kernel
theorem dX7_bar_9 : decode cX7_bar 9 = .ok (.aload_n 0, 1) := by decide +kernel
theorem dX7_bar_10 : decode cX7_bar 10 = .ok (.iload_n 2, 1) := by decide +kernel
theorem dX7_bar_11 : decode cX7_bar 11 = .ok (.invokevirtual 109, 3) := by decide +kernel
theorem dX7_bar_14 : decode cX7_bar 14 = .ok (.ifnull 16, 3) := by decide +kernel
theorem dX7_bar_17 : decode cX7_bar 17 = .ok (.aload_n 0, 1) := by decide +kernel
theorem dX7_bar_18 : decode cX7_bar 18 = .ok (.getfield 28, 3) := by decide +kernel
theorem dX7_bar_21 : decode cX7_bar 21 = .ok (.iload_n 1, 1) := by decide +kernel
theorem dX7_bar_22 : decode cX7_bar 22 = .ok (.iaload, 1) := by decide +kernel
theorem dX7_bar_23 : decode cX7_bar 23 = .ok (.iconst 1, 1) := by decide +kernel
theorem dX7_bar_24 : decode cX7_bar 24 = .ok (.iload_n 2, 1) := by decide +kernel
theorem dX7_bar_25 : decode cX7_bar 25 = .ok (.ishl, 1) := by decide +kernel
theorem dX7_bar_26 : decode cX7_bar 26 = .ok (.iand, 1) := by decide +kernel
theorem dX7_bar_27 : decode cX7_bar 27 = .ok (.ifCond .eq 5, 3) := by decide +kernel
theorem dX7_bar_30 : decode cX7_bar 30 = .ok (.iconst 0, 1) := by decide +kernel
theorem dX7_bar_31 : decode cX7_bar 31 = .ok (.ireturn, 1) := by decide +kernel
theorem dX7_bar_32 : decode cX7_bar 32 = .ok (.aload_n 0, 1) := by decide +kernel
theorem dX7_bar_33 : decode cX7_bar 33 = .ok (.getfield 28, 3) := by decide +kernel
theorem dX7_bar_36 : decode cX7_bar 36 = .ok (.iload_n 1, 1) := by decide +kernel
theorem dX7_bar_37 : decode cX7_bar 37 = .ok (.dup2, 1) := by decide +kernel
theorem dX7_bar_38 : decode cX7_bar 38 = .ok (.iaload, 1) := by decide +kernel
theorem dX7_bar_39 : decode cX7_bar 39 = .ok (.iconst 1, 1) := by decide +kernel
theorem dX7_bar_40 : decode cX7_bar 40 = .ok (.iload_n 2, 1) := by decide +kernel
theorem dX7_bar_41 : decode cX7_bar 41 = .ok (.ishl, 1) := by decide +kernel
theorem dX7_bar_42 : decode cX7_bar 42 = .ok (.ior, 1) := by decide +kernel
theorem dX7_bar_43 : decode cX7_bar 43 = .ok (.iastore, 1) := by decide +kernel
theorem dX7_bar_44 : decode cX7_bar 44 = .ok (.iconst 1, 1) := by decide +kernel
theorem dX7_bar_45 : decode cX7_bar 45 = .ok (.ireturn, 1) := by decide +kernel
theorem dX7_order_0 : decode cX7_order 0 = .ok (.aload_n 0, 1) := by decide +kernel
theorem dX7_order_1 : decode cX7_order 1 = .ok (.iload_n 2, 1) := by decide +kernel
theorem dX7_order_2 : decode cX7_order 2 = .ok (.invokevirtual 80, 3) := by decide +kernel
theorem dX7_order_5 : decode cX7_order 5 = .ok (.astore_n 3, 1) := by decide +kernel
theorem dX7_order_6 : decode cX7_order 6 = .ok (.iload_n 1, 1) := by decide +kernel
theorem dX7_order_7 : decode cX7_order 7 = .ok (.bipush 6, 2) := by decide +kernel
theorem dX7_order_9 : decode cX7_order 9 = .ok (.invokestatic 102, 3) := by decide +kernel
theorem dX7_order_12 : decode cX7_order 12 = .ok (.ifCond .eq 28, 3) := by decide +kernel
theorem dX7_order_15 : decode cX7_order 15 = .ok (.aload_n 3, 1) := by decide +kernel
theorem dX7_order_16 : decode cX7_order 16 = .ok (.ifnull 24, 3) := by decide +kernel
theorem dX7_order_19 : decode cX7_order 19 = .ok (.aload_n 3, 1) := by decide +kernel
theorem dX7_order_20 : decode cX7_order 20 = .ok (.getfield 140, 3) := by decide +kernel
theorem dX7_order_23 : decode cX7_order 23 = .ok (.ifCond .eq 17, 3) := by decide +kernel
theorem dX7_order_26 : decode cX7_order 26 = .ok (.aload_n 0, 1) := by decide +kernel
theorem dX7_order_27 : decode cX7_order 27 = .ok (.getfield 10, 3) := by decide +kernel
theorem dX7_order_30 : decode cX7_order 30 = .ok (.aload_n 3, 1) := by decide +kernel
theorem dX7_order_31 : decode cX7_order 31 = .ok (.getfield 140, 3) := by decide +kernel
theorem dX7_order_34 : decode cX7_order 34 = .ok (.invokevirtual 84, 3) := by decide +kernel
theorem dX7_order_37 : decode cX7_order 37 = .ok (.ifCond .ne 5, 3) := by decide +kernel
theorem dX7_order_40 : decode cX7_order 40 = .ok (.iconst 0, 1) := by decide +kernel
theorem dX7_order_41 : decode cX7_order 41 = .ok (.ireturn, 1) := by decide +kernel
theorem dX7_order_42 : decode cX7_order 42 = .ok (.aload_n 0, 1) := by decide +kernel
theorem dX7_order_43 : decode cX7_order 43 = .ok (.getfield 28, 3) := by decide +kernel
theorem dX7_order_46 : decode cX7_order 46 = .ok (.iload_n 1, 1) := by decide +kernel
theorem dX7_order_47 : decode cX7_order 47 = .ok (.iaload, 1) := by decide +kernel
theorem dX7_order_48 : decode cX7_order 48 = .ok (.aload_n 3, 1) := by decide +kernel
theorem dX7_order_49 : decode cX7_order 49 = .ok (.getfield 143, 3) := by decide +kernel
theorem dX7_order_52 : decode cX7_order 52 = .ok (.iand, 1) := by decide +kernel
theorem dX7_order_53 : decode cX7_order 53 = .ok (.ifCond .ne 21, 3) := by decide +kernel
theorem dX7_order_56 : decode cX7_order 56 = .ok (.aload_n 0, 1) := by decide +kernel
theorem dX7_order_57 : decode cX7_order 57 = .ok (.getfield 10, 3) := by decide +kernel
theorem dX7_order_60 : decode cX7_order 60 = .ok (.aload_n 3, 1) := by decide +kernel
theorem dX7_order_61 : decode cX7_order 61 = .ok (.getfield 143, 3) := by decide +kernel
theorem dX7_order_64 : decode cX7_order 64 = .ok (.invokevirtual 146, 3) := by decide +kernel
theorem dX7_order_67 : decode cX7_order 67 = .ok (.ifCond .eq 7, 3) := by decide +kernel
theorem dX7_order_70 : decode cX7_order 70 = .ok (.iconst 1, 1) := by decide +kernel
theorem dX7_order_71 : decode cX7_order 71 = .ok (.goto 4, 3) := by decide +kernel
theorem dX7_order_74 : decode cX7_order 74 = .ok (.iconst 0, 1) := by decide +kernel
theorem dX7_order_75 : decode cX7_order 75 = .ok (.istore 4, 2) := by decide +kernel
theorem dX7_order_77 : decode cX7_order 77 = .ok (.iload 4, 2) := by decide +kernel
theorem dX7_order_79 : decode cX7_order 79 = .ok (.ifCond .eq 20, 3) := by decide +kernel
theorem dX7_order_82 : decode cX7_order 82 = .ok (.aload_n 3, 1) := by decide +kernel
theorem dX7_order_83 : decode cX7_order 83 = .ok (.iload_n 1, 1) := by decide +kernel
theorem dX7_order_84 : decode cX7_order 84 = .ok (.aload_n 0, 1) := by decide +kernel
theorem dX7_order_85 : decode cX7_order 85 = .ok (.getfield 10, 3) := by decide +kernel
theorem dX7_order_88 : decode cX7_order 88 = .ok (.invokevirtual 149, 3) := by decide +kernel
theorem dX7_order_91 : decode cX7_order 91 = .ok (.aload_n 0, 1) := by decide +kernel
theorem dX7_order_92 : decode cX7_order 92 = .ok (.getfield 35, 3) := by decide +kernel
theorem dX7_order_95 : decode cX7_order 95 = .ok (.aload_n 3, 1) := by decide +kernel
theorem dX7_order_96 : decode cX7_order 96 = .ok (.invokevirtual 130, 3) := by decide +kernel
theorem dX7_order_99 : decode cX7_order 99 = .ok (.aload_n 0, 1) := by decide +kernel
theorem dX7_order_100 : decode cX7_order 100 = .ok (.getfield 10, 3) := by decide +kernel
theorem dX7_order_103 : decode cX7_order 103 = .ok (.invokevirtual 95, 3) := by decide +kernel
theorem dX7_order_106 : decode cX7_order 106 = .ok (.iload 4, 2) := by decide +kernel
theorem dX7_order_108 : decode cX7_order 108 = .ok (.ireturn, 1) := by decide +kernel
theorem dX7_placed_0 : decode cX7_placed 0 = .ok (.aload_n 0, 1) := by decide +kernel
theorem dX7_placed_1 : decode cX7_placed 1 = .ok (.iload_n 1, 1) := by decide +kernel
theorem dX7_placed_2 : decode cX7_placed 2 = .ok (.invokevirtual 80, 3) := by decide +kernel
theorem dX7_placed_5 : decode cX7_placed 5 = .ok (.astore_n 3, 1) := by decide +kernel
theorem dX7_placed_6 : decode cX7_placed 6 = .ok (.aload_n 3, 1) := by decide +kernel
theorem dX7_placed_7 : decode cX7_placed 7 = .ok (.ifnull 16, 3) := by decide +kernel
theorem dX7_placed_10 : decode cX7_placed 10 = .ok (.iload_n 2, 1) := by decide +kernel
theorem dX7_placed_11 : decode cX7_placed 11 = .ok (.iconst 1, 1) := by decide +kernel
theorem dX7_placed_12 : decode cX7_placed 12 = .ok (.if_icmp .lt 11, 3) := by decide +kernel
theorem dX7_placed_15 : decode cX7_placed 15 = .ok (.iload_n 2, 1) := by decide +kernel
theorem dX7_placed_16 : decode cX7_placed 16 = .ok (.aload_n 3, 1) := by decide +kernel
theorem dX7_placed_17 : decode cX7_placed 17 = .ok (.getfield 140, 3) := by decide +kernel
theorem dX7_placed_20 : decode cX7_placed 20 = .ok (.if_icmp .le 5, 3) := by decide +kernel
theorem dX7_placed_23 : decode cX7_placed 23 = .ok (.iconst (-1), 1) := by decide +kernel
theorem dX7_placed_24 : decode cX7_placed 24 = .ok (.ireturn, 1) := by decide +kernel
theorem dX7_placed_25 : decode cX7_placed 25 = .ok (.aload_n 3, 1) := by decide +kernel
theorem dX7_placed_26 : decode cX7_placed 26 = .ok (.getfield 153, 3) := by decide +kernel
theorem dX7_placed_29 : decode cX7_placed 29 = .ok (.iload_n 2, 1) := by decide +kernel
theorem dX7_placed_30 : decode cX7_placed 30 = .ok (.iconst 1, 1) := by decide +kernel
theorem dX7_placed_31 : decode cX7_placed 31 = .ok (.isub, 1) := by decide +kernel
theorem dX7_placed_32 : decode cX7_placed 32 = .ok (.iaload, 1) := by decide +kernel
theorem dX7_placed_33 : decode cX7_placed 33 = .ok (.ireturn, 1) := by decide +kernel
theorem dX7_swaps_0 : decode cX7_swaps 0 = .ok (.aload_n 0, 1) := by decide +kernel
theorem dX7_swaps_1 : decode cX7_swaps 1 = .ok (.iload_n 1, 1) := by decide +kernel
theorem dX7_swaps_2 : decode cX7_swaps 2 = .ok (.invokevirtual 80, 3) := by decide +kernel
theorem dX7_swaps_5 : decode cX7_swaps 5 = .ok (.astore_n 2, 1) := by decide +kernel
theorem dX7_swaps_6 : decode cX7_swaps 6 = .ok (.aload_n 2, 1) := by decide +kernel
theorem dX7_swaps_7 : decode cX7_swaps 7 = .ok (.ifnonnull 7, 3) := by decide +kernel
theorem dX7_swaps_10 : decode cX7_swaps 10 = .ok (.iconst (-1), 1) := by decide +kernel
theorem dX7_swaps_11 : decode cX7_swaps 11 = .ok (.goto 7, 3) := by decide +kernel
theorem dX7_swaps_14 : decode cX7_swaps 14 = .ok (.aload_n 2, 1) := by decide +kernel
theorem dX7_swaps_15 : decode cX7_swaps 15 = .ok (.getfield 156, 3) := by decide +kernel
theorem dX7_swaps_18 : decode cX7_swaps 18 = .ok (.ireturn, 1) := by decide +kernel
theorem dX7_ring_0 : decode cX7_ring 0 = .ok (.aload_n 0, 1) := by decide +kernel
theorem dX7_ring_1 : decode cX7_ring 1 = .ok (.iload_n 1, 1) := by decide +kernel
theorem dX7_ring_2 : decode cX7_ring 2 = .ok (.invokevirtual 80, 3) := by decide +kernel
theorem dX7_ring_5 : decode cX7_ring 5 = .ok (.astore_n 3, 1) := by decide +kernel
theorem dX7_ring_6 : decode cX7_ring 6 = .ok (.aload_n 3, 1) := by decide +kernel
theorem dX7_ring_7 : decode cX7_ring 7 = .ok (.ifnull 11, 3) := by decide +kernel
theorem dX7_ring_10 : decode cX7_ring 10 = .ok (.iload_n 2, 1) := by decide +kernel
theorem dX7_ring_11 : decode cX7_ring 11 = .ok (.iconst 3, 1) := by decide +kernel
theorem dX7_ring_12 : decode cX7_ring 12 = .ok (.invokestatic 102, 3) := by decide +kernel
theorem dX7_ring_15 : decode cX7_ring 15 = .ok (.ifCond .ne 5, 3) := by decide +kernel
theorem dX7_ring_18 : decode cX7_ring 18 = .ok (.iconst (-1), 1) := by decide +kernel
theorem dX7_ring_19 : decode cX7_ring 19 = .ok (.ireturn, 1) := by decide +kernel
theorem dX7_ring_20 : decode cX7_ring 20 = .ok (.aload_n 0, 1) := by decide +kernel
theorem dX7_ring_21 : decode cX7_ring 21 = .ok (.getfield 35, 3) := by decide +kernel
theorem dX7_ring_24 : decode cX7_ring 24 = .ok (.aload_n 3, 1) := by decide +kernel
theorem dX7_ring_25 : decode cX7_ring 25 = .ok (.iload_n 2, 1) := by decide +kernel
theorem dX7_ring_26 : decode cX7_ring 26 = .ok (.invokevirtual 159, 3) := by decide +kernel
theorem dX7_ring_29 : decode cX7_ring 29 = .ok (.ireturn, 1) := by decide +kernel
theorem dX7_cut_0 : decode cX7_cut 0 = .ok (.aload_n 0, 1) := by decide +kernel
theorem dX7_cut_1 : decode cX7_cut 1 = .ok (.iload_n 1, 1) := by decide +kernel
theorem dX7_cut_2 : decode cX7_cut 2 = .ok (.invokevirtual 80, 3) := by decide +kernel
theorem dX7_cut_5 : decode cX7_cut 5 = .ok (.astore 4, 2) := by decide +kernel
theorem dX7_cut_7 : decode cX7_cut 7 = .ok (.aload 4, 2) := by decide +kernel
theorem dX7_cut_9 : decode cX7_cut 9 = .ok (.ifnull 22, 3) := by decide +kernel
theorem dX7_cut_12 : decode cX7_cut 12 = .ok (.iload_n 2, 1) := by decide +kernel
theorem dX7_cut_13 : decode cX7_cut 13 = .ok (.iconst 1, 1) := by decide +kernel
theorem dX7_cut_14 : decode cX7_cut 14 = .ok (.if_icmp .lt 17, 3) := by decide +kernel
theorem dX7_cut_17 : decode cX7_cut 17 = .ok (.iload_n 2, 1) := by decide +kernel
theorem dX7_cut_18 : decode cX7_cut 18 = .ok (.iconst 3, 1) := by decide +kernel
theorem dX7_cut_19 : decode cX7_cut 19 = .ok (.if_icmp .gt 12, 3) := by decide +kernel
theorem dX7_cut_22 : decode cX7_cut 22 = .ok (.iload_n 3, 1) := by decide +kernel
theorem dX7_cut_23 : decode cX7_cut 23 = .ok (.bipush 16, 2) := by decide +kernel
theorem dX7_cut_25 : decode cX7_cut 25 = .ok (.invokestatic 102, 3) := by decide +kernel
theorem dX7_cut_28 : decode cX7_cut 28 = .ok (.ifCond .ne 5, 3) := by decide +kernel
theorem dX7_cut_31 : decode cX7_cut 31 = .ok (.iconst 0, 1) := by decide +kernel
theorem dX7_cut_32 : decode cX7_cut 32 = .ok (.ireturn, 1) := by decide +kernel
theorem dX7_cut_33 : decode cX7_cut 33 = .ok (.aload 4, 2) := by decide +kernel
theorem dX7_cut_35 : decode cX7_cut 35 = .ok (.getfield 163, 3) := by decide +kernel
theorem dX7_cut_38 : decode cX7_cut 38 = .ok (.iload_n 2, 1) := by decide +kernel
theorem dX7_cut_39 : decode cX7_cut 39 = .ok (.iconst 1, 1) := by decide +kernel
theorem dX7_cut_40 : decode cX7_cut 40 = .ok (.isub, 1) := by decide +kernel
theorem dX7_cut_41 : decode cX7_cut 41 = .ok (.iload_n 3, 1) := by decide +kernel
theorem dX7_cut_42 : decode cX7_cut 42 = .ok (.iastore, 1) := by decide +kernel
theorem dX7_cut_43 : decode cX7_cut 43 = .ok (.iconst 1, 1) := by decide +kernel
theorem dX7_cut_44 : decode cX7_cut 44 = .ok (.ireturn, 1) := by decide +kernel
theorem dX7_card_0 : decode cX7_card 0 = .ok (.aload_n 0, 1) := by decide +kernel
theorem dX7_card_1 : decode cX7_card 1 = .ok (.iload_n 1, 1) := by decide +kernel
theorem dX7_card_2 : decode cX7_card 2 = .ok (.invokevirtual 80, 3) := by decide +kernel
theorem dX7_card_5 : decode cX7_card 5 = .ok (.astore_n 2, 1) := by decide +kernel
theorem dX7_card_6 : decode cX7_card 6 = .ok (.aload_n 2, 1) := by decide +kernel
theorem dX7_card_7 : decode cX7_card 7 = .ok (.ifnull 25, 3) := by decide +kernel
theorem dX7_card_10 : decode cX7_card 10 = .ok (.aload_n 2, 1) := by decide +kernel
theorem dX7_card_11 : decode cX7_card 11 = .ok (.getfield 140, 3) := by decide +kernel
theorem dX7_card_14 : decode cX7_card 14 = .ok (.iconst 2, 1) := by decide +kernel
theorem dX7_card_15 : decode cX7_card 15 = .ok (.if_icmp .lt 17, 3) := by decide +kernel
theorem dX7_card_18 : decode cX7_card 18 = .ok (.aload_n 0, 1) := by decide +kernel
theorem dX7_card_19 : decode cX7_card 19 = .ok (.getfield 10, 3) := by decide +kernel
theorem dX7_card_22 : decode cX7_card 22 = .ok (.aload_n 2, 1) := by decide +kernel
theorem dX7_card_23 : decode cX7_card 23 = .ok (.invokevirtual 166, 3) := by decide +kernel
theorem dX7_card_26 : decode cX7_card 26 = .ok (.invokevirtual 84, 3) := by decide +kernel
theorem dX7_card_29 : decode cX7_card 29 = .ok (.ifCond .ne 5, 3) := by decide +kernel
theorem dX7_card_32 : decode cX7_card 32 = .ok (.iconst (-1), 1) := by decide +kernel
theorem dX7_card_33 : decode cX7_card 33 = .ok (.ireturn, 1) := by decide +kernel
theorem dX7_card_34 : decode cX7_card 34 = .ok (.aload_n 0, 1) := by decide +kernel
theorem dX7_card_35 : decode cX7_card 35 = .ok (.getfield 10, 3) := by decide +kernel
theorem dX7_card_38 : decode cX7_card 38 = .ok (.aload_n 2, 1) := by decide +kernel
theorem dX7_card_39 : decode cX7_card 39 = .ok (.invokevirtual 169, 3) := by decide +kernel
theorem dX7_card_42 : decode cX7_card 42 = .ok (.invokevirtual 146, 3) := by decide +kernel
theorem dX7_card_45 : decode cX7_card 45 = .ok (.ifCond .eq 14, 3) := by decide +kernel
theorem dX7_card_48 : decode cX7_card 48 = .ok (.aload_n 2, 1) := by decide +kernel
theorem dX7_card_49 : decode cX7_card 49 = .ok (.aload_n 0, 1) := by decide +kernel
theorem dX7_card_50 : decode cX7_card 50 = .ok (.getfield 10, 3) := by decide +kernel
theorem dX7_card_53 : decode cX7_card 53 = .ok (.invokevirtual 172, 3) := by decide +kernel
theorem dX7_card_56 : decode cX7_card 56 = .ok (.goto 4, 3) := by decide +kernel
theorem dX7_card_59 : decode cX7_card 59 = .ok (.iconst (-1), 1) := by decide +kernel
theorem dX7_card_60 : decode cX7_card 60 = .ok (.istore_n 3, 1) := by decide +kernel
theorem dX7_card_61 : decode cX7_card 61 = .ok (.aload_n 0, 1) := by decide +kernel
theorem dX7_card_62 : decode cX7_card 62 = .ok (.getfield 10, 3) := by decide +kernel
theorem dX7_card_65 : decode cX7_card 65 = .ok (.invokevirtual 95, 3) := by decide +kernel
theorem dX7_card_68 : decode cX7_card 68 = .ok (.iload_n 3, 1) := by decide +kernel
theorem dX7_card_69 : decode cX7_card 69 = .ok (.ireturn, 1) := by decide +kernel
theorem dX7_reasons_0 : decode cX7_reasons 0 = .ok (.aload_n 0, 1) := by decide +kernel
theorem dX7_reasons_1 : decode cX7_reasons 1 = .ok (.iload_n 1, 1) := by decide +kernel
theorem dX7_reasons_2 : decode cX7_reasons 2 = .ok (.invokevirtual 80, 3) := by decide +kernel
theorem dX7_reasons_5 : decode cX7_reasons 5 = .ok (.astore_n 3, 1) := by decide +kernel
theorem dX7_reasons_6 : decode cX7_reasons 6 = .ok (.aload_n 3, 1) := by decide +kernel
theorem dX7_reasons_7 : decode cX7_reasons 7 = .ok (.ifnull 14, 3) := by decide +kernel
theorem dX7_reasons_10 : decode cX7_reasons 10 = .ok (.aload_n 0, 1) := by decide +kernel
theorem dX7_reasons_11 : decode cX7_reasons 11 = .ok (.getfield 10, 3) := by decide +kernel
theorem dX7_reasons_14 : decode cX7_reasons 14 = .ok (.iload_n 2, 1) := by decide +kernel
theorem dX7_reasons_15 : decode cX7_reasons 15 = .ok (.invokevirtual 84, 3) := by decide +kernel
theorem dX7_reasons_18 : decode cX7_reasons 18 = .ok (.ifCond .ne 5, 3) := by decide +kernel
theorem dX7_reasons_21 : decode cX7_reasons 21 = .ok (.iconst (-1), 1) := by decide +kernel
theorem dX7_reasons_22 : decode cX7_reasons 22 = .ok (.ireturn, 1) := by decide +kernel
theorem dX7_reasons_23 : decode cX7_reasons 23 = .ok (.aload_n 0, 1) := by decide +kernel
theorem dX7_reasons_24 : decode cX7_reasons 24 = .ok (.getfield 10, 3) := by decide +kernel
theorem dX7_reasons_27 : decode cX7_reasons 27 = .ok (.iload_n 2, 1) := by decide +kernel
theorem dX7_reasons_28 : decode cX7_reasons 28 = .ok (.invokevirtual 88, 3) := by decide +kernel
theorem dX7_reasons_31 : decode cX7_reasons 31 = .ok (.aload_n 0, 1) := by decide +kernel
theorem dX7_reasons_32 : decode cX7_reasons 32 = .ok (.getfield 49, 3) := by decide +kernel
theorem dX7_reasons_35 : decode cX7_reasons 35 = .ok (.aload_n 0, 1) := by decide +kernel
theorem dX7_reasons_36 : decode cX7_reasons 36 = .ok (.getfield 10, 3) := by decide +kernel
theorem dX7_reasons_39 : decode cX7_reasons 39 = .ok (.aload_n 3, 1) := by decide +kernel
theorem dX7_reasons_40 : decode cX7_reasons 40 = .ok (.aload_n 0, 1) := by decide +kernel
theorem dX7_reasons_41 : decode cX7_reasons 41 = .ok (.getfield 18, 3) := by decide +kernel
theorem dX7_reasons_44 : decode cX7_reasons 44 = .ok (.invokevirtual 175, 3) := by decide +kernel
theorem dX7_reasons_47 : decode cX7_reasons 47 = .ok (.istore 4, 2) := by decide +kernel
theorem dX7_reasons_49 : decode cX7_reasons 49 = .ok (.aload_n 0, 1) := by decide +kernel
theorem dX7_reasons_50 : decode cX7_reasons 50 = .ok (.getfield 10, 3) := by decide +kernel
theorem dX7_reasons_53 : decode cX7_reasons 53 = .ok (.invokevirtual 95, 3) := by decide +kernel
theorem dX7_reasons_56 : decode cX7_reasons 56 = .ok (.iload 4, 2) := by decide +kernel
theorem dX7_reasons_58 : decode cX7_reasons 58 = .ok (.ireturn, 1) := by decide +kernel
theorem dX7_sand_0 : decode cX7_sand 0 = .ok (.iload_n 1, 1) := by decide +kernel
theorem dX7_sand_1 : decode cX7_sand 1 = .ok (.iconst 1, 1) := by decide +kernel
theorem dX7_sand_2 : decode cX7_sand 2 = .ok (.if_icmp .lt 8, 3) := by decide +kernel
theorem dX7_sand_5 : decode cX7_sand 5 = .ok (.iload_n 1, 1) := by decide +kernel
theorem dX7_sand_6 : decode cX7_sand 6 = .ok (.iconst 3, 1) := by decide +kernel
theorem dX7_sand_7 : decode cX7_sand 7 = .ok (.if_icmp .le 5, 3) := by decide +kernel
theorem dX7_sand_10 : decode cX7_sand 10 = .ok (.iconst 0, 1) := by decide +kernel
theorem dX7_sand_11 : decode cX7_sand 11 = .ok (.ireturn, 1) := by decide +kernel
theorem dX7_sand_12 : decode cX7_sand 12 = .ok (.aload_n 0, 1) := by decide +kernel
theorem dX7_sand_13 : decode cX7_sand 13 = .ok (.iload_n 1, 1) := by decide +kernel
theorem dX7_sand_14 : decode cX7_sand 14 = .ok (.putfield 64, 3) := by decide +kernel
theorem dX7_sand_17 : decode cX7_sand 17 = .ok (.iconst 1, 1) := by decide +kernel
theorem dX7_sand_18 : decode cX7_sand 18 = .ok (.ireturn, 1) := by decide +kernel
theorem dX7_hour_0 : decode cX7_hour 0 = .ok (.iload_n 1, 1) := by decide +kernel
theorem dX7_hour_1 : decode cX7_hour 1 = .ok (.bipush 6, 2) := by decide +kernel
theorem dX7_hour_3 : decode cX7_hour 3 = .ok (.invokestatic 102, 3) := by decide +kernel
theorem dX7_hour_6 : decode cX7_hour 6 = .ok (.ifCond .ne 5, 3) := by decide +kernel
theorem dX7_hour_9 : decode cX7_hour 9 = .ok (.iconst (-1), 1) := by decide +kernel
theorem dX7_hour_10 : decode cX7_hour 10 = .ok (.ireturn, 1) := by decide +kernel
theorem dX7_hour_11 : decode cX7_hour 11 = .ok (.aload_n 0, 1) := by decide +kernel
theorem dX7_hour_12 : decode cX7_hour 12 = .ok (.getfield 42, 3) := by decide +kernel
theorem dX7_hour_15 : decode cX7_hour 15 = .ok (.aload_n 0, 1) := by decide +kernel
theorem dX7_hour_16 : decode cX7_hour 16 = .ok (.getfield 24, 3) := by decide +kernel
theorem dX7_hour_19 : decode cX7_hour 19 = .ok (.aload_n 0, 1) := by decide +kernel
theorem dX7_hour_20 : decode cX7_hour 20 = .ok (.getfield 18, 3) := by decide +kernel
theorem dX7_hour_23 : decode cX7_hour 23 = .ok (.aload_n 0, 1) := by decide +kernel
theorem dX7_hour_24 : decode cX7_hour 24 = .ok (.getfield 64, 3) := by decide +kernel
theorem dX7_hour_27 : decode cX7_hour 27 = .ok (.invokevirtual 179, 3) := by decide +kernel
theorem dX7_hour_30 : decode cX7_hour 30 = .ok (.aload_n 0, 1) := by decide +kernel
theorem dX7_hour_31 : decode cX7_hour 31 = .ok (.getfield 42, 3) := by decide +kernel
theorem dX7_hour_34 : decode cX7_hour 34 = .ok (.getfield 183, 3) := by decide +kernel
theorem dX7_hour_37 : decode cX7_hour 37 = .ok (.iload_n 1, 1) := by decide +kernel
theorem dX7_hour_38 : decode cX7_hour 38 = .ok (.iaload, 1) := by decide +kernel
theorem dX7_hour_39 : decode cX7_hour 39 = .ok (.ireturn, 1) := by decide +kernel
theorem dX7_team_0 : decode cX7_team 0 = .ok (.iload_n 1, 1) := by decide +kernel
theorem dX7_team_1 : decode cX7_team 1 = .ok (.bipush 10, 2) := by decide +kernel
theorem dX7_team_3 : decode cX7_team 3 = .ok (.invokestatic 102, 3) := by decide +kernel
theorem dX7_team_6 : decode cX7_team 6 = .ok (.ifCond .ne 5, 3) := by decide +kernel
theorem dX7_team_9 : decode cX7_team 9 = .ok (.iconst (-1), 1) := by decide +kernel
theorem dX7_team_10 : decode cX7_team 10 = .ok (.ireturn, 1) := by decide +kernel
theorem dX7_team_11 : decode cX7_team 11 = .ok (.iconst 0, 1) := by decide +kernel
theorem dX7_team_12 : decode cX7_team 12 = .ok (.istore_n 2, 1) := by decide +kernel
theorem dX7_team_13 : decode cX7_team 13 = .ok (.iconst 0, 1) := by decide +kernel
theorem dX7_team_14 : decode cX7_team 14 = .ok (.istore_n 3, 1) := by decide +kernel
theorem dX7_team_15 : decode cX7_team 15 = .ok (.iconst 1, 1) := by decide +kernel
theorem dX7_team_16 : decode cX7_team 16 = .ok (.istore 4, 2) := by decide +kernel
theorem dX7_team_18 : decode cX7_team 18 = .ok (.iload 4, 2) := by decide +kernel
theorem dX7_team_20 : decode cX7_team 20 = .ok (.bipush 8, 2) := by decide +kernel
theorem dX7_team_22 : decode cX7_team 22 = .ok (.if_icmp .gt 65, 3) := by decide +kernel
theorem dX7_team_25 : decode cX7_team 25 = .ok (.iconst 0, 1) := by decide +kernel
theorem dX7_team_26 : decode cX7_team 26 = .ok (.istore 5, 2) := by decide +kernel
theorem dX7_team_28 : decode cX7_team 28 = .ok (.iload 5, 2) := by decide +kernel
theorem dX7_team_30 : decode cX7_team 30 = .ok (.aload_n 0, 1) := by decide +kernel
theorem dX7_team_31 : decode cX7_team 31 = .ok (.getfield 60, 3) := by decide +kernel
theorem dX7_team_34 : decode cX7_team 34 = .ok (.if_icmp .ge 47, 3) := by decide +kernel
theorem dX7_team_37 : decode cX7_team 37 = .ok (.iload_n 2, 1) := by decide +kernel
theorem dX7_team_38 : decode cX7_team 38 = .ok (.iconst 3, 1) := by decide +kernel
theorem dX7_team_39 : decode cX7_team 39 = .ok (.if_icmp .ge 42, 3) := by decide +kernel
theorem dX7_team_42 : decode cX7_team 42 = .ok (.aload_n 0, 1) := by decide +kernel
theorem dX7_team_43 : decode cX7_team 43 = .ok (.getfield 18, 3) := by decide +kernel
theorem dX7_team_46 : decode cX7_team 46 = .ok (.iload 5, 2) := by decide +kernel
theorem dX7_team_48 : decode cX7_team 48 = .ok (.aaload, 1) := by decide +kernel
theorem dX7_team_49 : decode cX7_team 49 = .ok (.getfield 186, 3) := by decide +kernel
theorem dX7_team_52 : decode cX7_team 52 = .ok (.iload_n 1, 1) := by decide +kernel
theorem dX7_team_53 : decode cX7_team 53 = .ok (.if_icmp .ne 22, 3) := by decide +kernel
theorem dX7_team_56 : decode cX7_team 56 = .ok (.aload_n 0, 1) := by decide +kernel
theorem dX7_team_57 : decode cX7_team 57 = .ok (.iload 5, 2) := by decide +kernel
theorem dX7_team_59 : decode cX7_team 59 = .ok (.invokevirtual 189, 3) := by decide +kernel
theorem dX7_team_62 : decode cX7_team 62 = .ok (.iload 4, 2) := by decide +kernel
theorem dX7_team_64 : decode cX7_team 64 = .ok (.if_icmp .ne 11, 3) := by decide +kernel
theorem dX7_team_67 : decode cX7_team 67 = .ok (.iinc 2 1, 3) := by decide +kernel
theorem dX7_team_70 : decode cX7_team 70 = .ok (.iload_n 3, 1) := by decide +kernel
theorem dX7_team_71 : decode cX7_team 71 = .ok (.iload 4, 2) := by decide +kernel
theorem dX7_team_73 : decode cX7_team 73 = .ok (.iadd, 1) := by decide +kernel
theorem dX7_team_74 : decode cX7_team 74 = .ok (.istore_n 3, 1) := by decide +kernel
theorem dX7_team_75 : decode cX7_team 75 = .ok (.iinc 5 1, 3) := by decide +kernel
theorem dX7_team_78 : decode cX7_team 78 = .ok (.goto (-50), 3) := by decide +kernel
theorem dX7_team_81 : decode cX7_team 81 = .ok (.iinc 4 1, 3) := by decide +kernel
theorem dX7_team_84 : decode cX7_team 84 = .ok (.goto (-66), 3) := by decide +kernel
theorem dX7_team_87 : decode cX7_team 87 = .ok (.iload_n 2, 1) := by decide +kernel
theorem dX7_team_88 : decode cX7_team 88 = .ok (.iconst 3, 1) := by decide +kernel
theorem dX7_team_89 : decode cX7_team 89 = .ok (.if_icmp .ne 7, 3) := by decide +kernel
theorem dX7_team_92 : decode cX7_team 92 = .ok (.iload_n 3, 1) := by decide +kernel
theorem dX7_team_93 : decode cX7_team 93 = .ok (.goto 4, 3) := by decide +kernel
theorem dX7_team_96 : decode cX7_team 96 = .ok (.iconst (-1), 1) := by decide +kernel
theorem dX7_team_97 : decode cX7_team 97 = .ok (.ireturn, 1) := by decide +kernel
theorem dX7_price_0 : decode cX7_price 0 = .ok (.aload_n 0, 1) := by decide +kernel
theorem dX7_price_1 : decode cX7_price 1 = .ok (.iload_n 1, 1) := by decide +kernel
theorem dX7_price_2 : decode cX7_price 2 = .ok (.invokevirtual 109, 3) := by decide +kernel
theorem dX7_price_5 : decode cX7_price 5 = .ok (.ifnonnull 5, 3) := by decide +kernel
theorem dX7_price_8 : decode cX7_price 8 = .ok (.iconst (-1), 1) := by decide +kernel
theorem dX7_price_9 : decode cX7_price 9 = .ok (.ireturn, 1) := by decide +kernel
theorem dX7_price_10 : decode cX7_price 10 = .ok (.bipush 100, 2) := by decide +kernel
theorem dX7_price_12 : decode cX7_price 12 = .ok (.istore_n 2, 1) := by decide +kernel
theorem dX7_price_13 : decode cX7_price 13 = .ok (.iconst 0, 1) := by decide +kernel
theorem dX7_price_14 : decode cX7_price 14 = .ok (.istore_n 3, 1) := by decide +kernel
theorem dX7_price_15 : decode cX7_price 15 = .ok (.iload_n 3, 1) := by decide +kernel
theorem dX7_price_16 : decode cX7_price 16 = .ok (.bipush 6, 2) := by decide +kernel
theorem dX7_price_18 : decode cX7_price 18 = .ok (.if_icmp .ge 34, 3) := by decide +kernel
theorem dX7_price_21 : decode cX7_price 21 = .ok (.aload_n 0, 1) := by decide +kernel
theorem dX7_price_22 : decode cX7_price 22 = .ok (.getfield 24, 3) := by decide +kernel
theorem dX7_price_25 : decode cX7_price 25 = .ok (.iload_n 3, 1) := by decide +kernel
theorem dX7_price_26 : decode cX7_price 26 = .ok (.aaload, 1) := by decide +kernel
theorem dX7_price_27 : decode cX7_price 27 = .ok (.iload_n 1, 1) := by decide +kernel
theorem dX7_price_28 : decode cX7_price 28 = .ok (.invokevirtual 193, 3) := by decide +kernel
theorem dX7_price_31 : decode cX7_price 31 = .ok (.istore 4, 2) := by decide +kernel
theorem dX7_price_33 : decode cX7_price 33 = .ok (.iload 4, 2) := by decide +kernel
theorem dX7_price_35 : decode cX7_price 35 = .ok (.ifCond .le 11, 3) := by decide +kernel
theorem dX7_price_38 : decode cX7_price 38 = .ok (.iload_n 2, 1) := by decide +kernel
theorem dX7_price_39 : decode cX7_price 39 = .ok (.bipush 50, 2) := by decide +kernel
theorem dX7_price_41 : decode cX7_price 41 = .ok (.iload 4, 2) := by decide +kernel
theorem dX7_price_43 : decode cX7_price 43 = .ok (.idiv, 1) := by decide +kernel
theorem dX7_price_44 : decode cX7_price 44 = .ok (.iadd, 1) := by decide +kernel
theorem dX7_price_45 : decode cX7_price 45 = .ok (.istore_n 2, 1) := by decide +kernel
theorem dX7_price_46 : decode cX7_price 46 = .ok (.iinc 3 1, 3) := by decide +kernel
theorem dX7_price_49 : decode cX7_price 49 = .ok (.goto (-34), 3) := by decide +kernel
theorem dX7_price_52 : decode cX7_price 52 = .ok (.iload_n 2, 1) := by decide +kernel
theorem dX7_price_53 : decode cX7_price 53 = .ok (.ireturn, 1) := by decide +kernel
theorem dX7_look_0 : decode cX7_look 0 = .ok (.aload_n 0, 1) := by decide +kernel
theorem dX7_look_1 : decode cX7_look 1 = .ok (.iload_n 1, 1) := by decide +kernel
theorem dX7_look_2 : decode cX7_look 2 = .ok (.invokevirtual 109, 3) := by decide +kernel
theorem dX7_look_5 : decode cX7_look 5 = .ok (.astore_n 3, 1) := by decide +kernel
theorem dX7_look_6 : decode cX7_look 6 = .ok (.aload_n 3, 1) := by decide +kernel
theorem dX7_look_7 : decode cX7_look 7 = .ok (.ifnonnull 5, 3) := by decide +kernel
theorem dX7_look_10 : decode cX7_look 10 = .ok (.iconst (-1), 1) := by decide +kernel
theorem dX7_look_11 : decode cX7_look 11 = .ok (.ireturn, 1) := by decide +kernel
theorem dX7_look_12 : decode cX7_look 12 = .ok (.iload_n 2, 1) := by decide +kernel
theorem dX7_look_13 : decode cX7_look 13 = .ok (.iconst 4, 1) := by decide +kernel
theorem dX7_look_14 : decode cX7_look 14 = .ok (.if_icmp .lt 18, 3) := by decide +kernel
theorem dX7_look_17 : decode cX7_look 17 = .ok (.iload_n 2, 1) := by decide +kernel
theorem dX7_look_18 : decode cX7_look 18 = .ok (.bipush 7, 2) := by decide +kernel
theorem dX7_look_20 : decode cX7_look 20 = .ok (.if_icmp .ge 12, 3) := by decide +kernel
theorem dX7_look_23 : decode cX7_look 23 = .ok (.aload_n 3, 1) := by decide +kernel
theorem dX7_look_24 : decode cX7_look 24 = .ok (.getfield 113, 3) := by decide +kernel
theorem dX7_look_27 : decode cX7_look 27 = .ok (.iload_n 2, 1) := by decide +kernel
theorem dX7_look_28 : decode cX7_look 28 = .ok (.iconst 4, 1) := by decide +kernel
theorem dX7_look_29 : decode cX7_look 29 = .ok (.isub, 1) := by decide +kernel
theorem dX7_look_30 : decode cX7_look 30 = .ok (.iaload, 1) := by decide +kernel
theorem dX7_look_31 : decode cX7_look 31 = .ok (.ireturn, 1) := by decide +kernel
theorem dX7_look_32 : decode cX7_look 32 = .ok (.iload_n 2, 1) := by decide +kernel
theorem dX7_look_33 : decode cX7_look 33 = .ok (.bipush 10, 2) := by decide +kernel
theorem dX7_look_35 : decode cX7_look 35 = .ok (.if_icmp .lt 23, 3) := by decide +kernel
theorem dX7_look_38 : decode cX7_look 38 = .ok (.iload_n 2, 1) := by decide +kernel
theorem dX7_look_39 : decode cX7_look 39 = .ok (.bipush 16, 2) := by decide +kernel
theorem dX7_look_41 : decode cX7_look 41 = .ok (.if_icmp .ge 17, 3) := by decide +kernel
theorem dX7_look_44 : decode cX7_look 44 = .ok (.aload_n 0, 1) := by decide +kernel
theorem dX7_look_45 : decode cX7_look 45 = .ok (.getfield 24, 3) := by decide +kernel
theorem dX7_look_48 : decode cX7_look 48 = .ok (.iload_n 2, 1) := by decide +kernel
theorem dX7_look_49 : decode cX7_look 49 = .ok (.bipush 10, 2) := by decide +kernel
theorem dX7_look_51 : decode cX7_look 51 = .ok (.isub, 1) := by decide +kernel
theorem dX7_look_52 : decode cX7_look 52 = .ok (.aaload, 1) := by decide +kernel
theorem dX7_look_53 : decode cX7_look 53 = .ok (.iload_n 1, 1) := by decide +kernel
theorem dX7_look_54 : decode cX7_look 54 = .ok (.invokevirtual 193, 3) := by decide +kernel
theorem dX7_look_57 : decode cX7_look 57 = .ok (.ireturn, 1) := by decide +kernel
theorem dX7_look_58 : decode cX7_look 58 = .ok (.iload_n 2, 1) := by decide +kernel
theorem dX7_look_59 : decode cX7_look 59 = .ok (.tableswitch 71 0 7 #[45, 50, 55, 60, 71, 71, 71, 65], 45) := by decide +kernel
theorem dX7_look_104 : decode cX7_look 104 = .ok (.aload_n 3, 1) := by decide +kernel
theorem dX7_look_105 : decode cX7_look 105 = .ok (.getfield 196, 3) := by decide +kernel
theorem dX7_look_108 : decode cX7_look 108 = .ok (.ireturn, 1) := by decide +kernel
theorem dX7_look_109 : decode cX7_look 109 = .ok (.aload_n 3, 1) := by decide +kernel
theorem dX7_look_110 : decode cX7_look 110 = .ok (.getfield 199, 3) := by decide +kernel
theorem dX7_look_113 : decode cX7_look 113 = .ok (.ireturn, 1) := by decide +kernel
theorem dX7_look_114 : decode cX7_look 114 = .ok (.aload_n 3, 1) := by decide +kernel
theorem dX7_look_115 : decode cX7_look 115 = .ok (.getfield 186, 3) := by decide +kernel
theorem dX7_look_118 : decode cX7_look 118 = .ok (.ireturn, 1) := by decide +kernel
theorem dX7_look_119 : decode cX7_look 119 = .ok (.aload_n 3, 1) := by decide +kernel
theorem dX7_look_120 : decode cX7_look 120 = .ok (.getfield 202, 3) := by decide +kernel
theorem dX7_look_123 : decode cX7_look 123 = .ok (.ireturn, 1) := by decide +kernel
theorem dX7_look_124 : decode cX7_look 124 = .ok (.aload_n 0, 1) := by decide +kernel
theorem dX7_look_125 : decode cX7_look 125 = .ok (.iload_n 1, 1) := by decide +kernel
theorem dX7_look_126 : decode cX7_look 126 = .ok (.invokevirtual 205, 3) := by decide +kernel
theorem dX7_look_129 : decode cX7_look 129 = .ok (.ireturn, 1) := by decide +kernel
theorem dX7_look_130 : decode cX7_look 130 = .ok (.iconst (-1), 1) := by decide +kernel
theorem dX7_look_131 : decode cX7_look 131 = .ok (.ireturn, 1) := by decide +kernel
theorem dX7_count_0 : decode cX7_count 0 = .ok (.iload_n 1, 1) := by decide +kernel
theorem dX7_count_1 : decode cX7_count 1 = .ok (.bipush 10, 2) := by decide +kernel
theorem dX7_count_3 : decode cX7_count 3 = .ok (.if_icmp .lt 22, 3) := by decide +kernel
theorem dX7_count_6 : decode cX7_count 6 = .ok (.iload_n 1, 1) := by decide +kernel
theorem dX7_count_7 : decode cX7_count 7 = .ok (.bipush 16, 2) := by decide +kernel
theorem dX7_count_9 : decode cX7_count 9 = .ok (.if_icmp .ge 16, 3) := by decide +kernel
theorem dX7_count_12 : decode cX7_count 12 = .ok (.aload_n 0, 1) := by decide +kernel
theorem dX7_count_13 : decode cX7_count 13 = .ok (.getfield 24, 3) := by decide +kernel
theorem dX7_count_16 : decode cX7_count 16 = .ok (.iload_n 1, 1) := by decide +kernel
theorem dX7_count_17 : decode cX7_count 17 = .ok (.bipush 10, 2) := by decide +kernel
theorem dX7_count_19 : decode cX7_count 19 = .ok (.isub, 1) := by decide +kernel
theorem dX7_count_20 : decode cX7_count 20 = .ok (.aaload, 1) := by decide +kernel
theorem dX7_count_21 : decode cX7_count 21 = .ok (.getfield 140, 3) := by decide +kernel
theorem dX7_count_24 : decode cX7_count 24 = .ok (.ireturn, 1) := by decide +kernel
theorem dX7_count_25 : decode cX7_count 25 = .ok (.iload_n 1, 1) := by decide +kernel
theorem dX7_count_26 : decode cX7_count 26 = .ok (.bipush 20, 2) := by decide +kernel
theorem dX7_count_28 : decode cX7_count 28 = .ok (.if_icmp .lt 22, 3) := by decide +kernel
theorem dX7_count_31 : decode cX7_count 31 = .ok (.iload_n 1, 1) := by decide +kernel
theorem dX7_count_32 : decode cX7_count 32 = .ok (.bipush 26, 2) := by decide +kernel
theorem dX7_count_34 : decode cX7_count 34 = .ok (.if_icmp .ge 16, 3) := by decide +kernel
theorem dX7_count_37 : decode cX7_count 37 = .ok (.aload_n 0, 1) := by decide +kernel
theorem dX7_count_38 : decode cX7_count 38 = .ok (.getfield 24, 3) := by decide +kernel
theorem dX7_count_41 : decode cX7_count 41 = .ok (.iload_n 1, 1) := by decide +kernel
theorem dX7_count_42 : decode cX7_count 42 = .ok (.bipush 20, 2) := by decide +kernel
theorem dX7_count_44 : decode cX7_count 44 = .ok (.isub, 1) := by decide +kernel
theorem dX7_count_45 : decode cX7_count 45 = .ok (.aaload, 1) := by decide +kernel
theorem dX7_count_46 : decode cX7_count 46 = .ok (.invokevirtual 208, 3) := by decide +kernel
theorem dX7_count_49 : decode cX7_count 49 = .ok (.ireturn, 1) := by decide +kernel
theorem dX7_count_50 : decode cX7_count 50 = .ok (.iload_n 1, 1) := by decide +kernel
theorem dX7_count_51 : decode cX7_count 51 = .ok (.tableswitch 74 0 3 #[29, 34, 39, 47], 29) := by decide +kernel
theorem dX7_count_80 : decode cX7_count 80 = .ok (.aload_n 0, 1) := by decide +kernel
theorem dX7_count_81 : decode cX7_count 81 = .ok (.getfield 60, 3) := by decide +kernel
theorem dX7_count_84 : decode cX7_count 84 = .ok (.ireturn, 1) := by decide +kernel
theorem dX7_count_85 : decode cX7_count 85 = .ok (.aload_n 0, 1) := by decide +kernel
theorem dX7_count_86 : decode cX7_count 86 = .ok (.getfield 64, 3) := by decide +kernel
theorem dX7_count_89 : decode cX7_count 89 = .ok (.ireturn, 1) := by decide +kernel
theorem dX7_count_90 : decode cX7_count 90 = .ok (.aload_n 0, 1) := by decide +kernel
theorem dX7_count_91 : decode cX7_count 91 = .ok (.getfield 10, 3) := by decide +kernel
theorem dX7_count_94 : decode cX7_count 94 = .ok (.invokevirtual 76, 3) := by decide +kernel
theorem dX7_count_97 : decode cX7_count 97 = .ok (.ireturn, 1) := by decide +kernel
theorem dX7_count_98 : decode cX7_count 98 = .ok (.aload_n 0, 1) := by decide +kernel
theorem dX7_count_99 : decode cX7_count 99 = .ok (.getfield 42, 3) := by decide +kernel
theorem dX7_count_102 : decode cX7_count 102 = .ok (.aload_n 0, 1) := by decide +kernel
theorem dX7_count_103 : decode cX7_count 103 = .ok (.getfield 24, 3) := by decide +kernel
theorem dX7_count_106 : decode cX7_count 106 = .ok (.aload_n 0, 1) := by decide +kernel
theorem dX7_count_107 : decode cX7_count 107 = .ok (.getfield 18, 3) := by decide +kernel
theorem dX7_count_110 : decode cX7_count 110 = .ok (.aload_n 0, 1) := by decide +kernel
theorem dX7_count_111 : decode cX7_count 111 = .ok (.getfield 64, 3) := by decide +kernel
theorem dX7_count_114 : decode cX7_count 114 = .ok (.invokevirtual 179, 3) := by decide +kernel
theorem dX7_count_117 : decode cX7_count 117 = .ok (.aload_n 0, 1) := by decide +kernel
theorem dX7_count_118 : decode cX7_count 118 = .ok (.getfield 42, 3) := by decide +kernel
theorem dX7_count_121 : decode cX7_count 121 = .ok (.invokevirtual 211, 3) := by decide +kernel
theorem dX7_count_124 : decode cX7_count 124 = .ok (.ireturn, 1) := by decide +kernel
theorem dX7_count_125 : decode cX7_count 125 = .ok (.iconst (-1), 1) := by decide +kernel
theorem dX7_count_126 : decode cX7_count 126 = .ok (.ireturn, 1) := by decide +kernel
theorem dX7_isBelow_0 : decode cX7_isBelow 0 = .ok (.iload_n 0, 1) := by decide +kernel
theorem dX7_isBelow_1 : decode cX7_isBelow 1 = .ok (.ifCond .lt 12, 3) := by decide +kernel
theorem dX7_isBelow_4 : decode cX7_isBelow 4 = .ok (.iload_n 0, 1) := by decide +kernel
theorem dX7_isBelow_5 : decode cX7_isBelow 5 = .ok (.iload_n 1, 1) := by decide +kernel
theorem dX7_isBelow_6 : decode cX7_isBelow 6 = .ok (.if_icmp .ge 7, 3) := by decide +kernel
theorem dX7_isBelow_9 : decode cX7_isBelow 9 = .ok (.iconst 1, 1) := by decide +kernel
theorem dX7_isBelow_10 : decode cX7_isBelow 10 = .ok (.goto 4, 3) := by decide +kernel
theorem dX7_isBelow_13 : decode cX7_isBelow 13 = .ok (.iconst 0, 1) := by decide +kernel
theorem dX7_isBelow_14 : decode cX7_isBelow 14 = .ok (.ireturn, 1) := by decide +kernel
theorem dX7_classAt_0 : decode cX7_classAt 0 = .ok (.iload_n 1, 1) := by decide +kernel
theorem dX7_classAt_1 : decode cX7_classAt 1 = .ok (.bipush 6, 2) := by decide +kernel
theorem dX7_classAt_3 : decode cX7_classAt 3 = .ok (.invokestatic 102, 3) := by decide +kernel
theorem dX7_classAt_6 : decode cX7_classAt 6 = .ok (.ifCond .eq 12, 3) := by decide +kernel
theorem dX7_classAt_9 : decode cX7_classAt 9 = .ok (.aload_n 0, 1) := by decide +kernel
theorem dX7_classAt_10 : decode cX7_classAt 10 = .ok (.getfield 24, 3) := by decide +kernel
theorem dX7_classAt_13 : decode cX7_classAt 13 = .ok (.iload_n 1, 1) := by decide +kernel
theorem dX7_classAt_14 : decode cX7_classAt 14 = .ok (.aaload, 1) := by decide +kernel
theorem dX7_classAt_15 : decode cX7_classAt 15 = .ok (.goto 4, 3) := by decide +kernel
theorem dX7_classAt_18 : decode cX7_classAt 18 = .ok (.aconst_null, 1) := by decide +kernel
theorem dX7_classAt_19 : decode cX7_classAt 19 = .ok (.areturn, 1) := by decide +kernel
theorem dX7_beastAt_0 : decode cX7_beastAt 0 = .ok (.iload_n 1, 1) := by decide +kernel
theorem dX7_beastAt_1 : decode cX7_beastAt 1 = .ok (.aload_n 0, 1) := by decide +kernel
theorem dX7_beastAt_2 : decode cX7_beastAt 2 = .ok (.getfield 60, 3) := by decide +kernel
theorem dX7_beastAt_5 : decode cX7_beastAt 5 = .ok (.invokestatic 102, 3) := by decide +kernel
theorem dX7_beastAt_8 : decode cX7_beastAt 8 = .ok (.ifCond .eq 12, 3) := by decide +kernel
theorem dX7_beastAt_11 : decode cX7_beastAt 11 = .ok (.aload_n 0, 1) := by decide +kernel
theorem dX7_beastAt_12 : decode cX7_beastAt 12 = .ok (.getfield 18, 3) := by decide +kernel
theorem dX7_beastAt_15 : decode cX7_beastAt 15 = .ok (.iload_n 1, 1) := by decide +kernel
theorem dX7_beastAt_16 : decode cX7_beastAt 16 = .ok (.aaload, 1) := by decide +kernel
theorem dX7_beastAt_17 : decode cX7_beastAt 17 = .ok (.goto 4, 3) := by decide +kernel
theorem dX7_beastAt_20 : decode cX7_beastAt 20 = .ok (.aconst_null, 1) := by decide +kernel
theorem dX7_beastAt_21 : decode cX7_beastAt 21 = .ok (.areturn, 1) := by decide +kernel
theorem dX7_leastPlace_0 : decode cX7_leastPlace 0 = .ok (.iconst (-1), 1) := by decide +kernel
theorem dX7_leastPlace_1 : decode cX7_leastPlace 1 = .ok (.istore_n 2, 1) := by decide +kernel
theorem dX7_leastPlace_2 : decode cX7_leastPlace 2 = .ok (.iconst 0, 1) := by decide +kernel
theorem dX7_leastPlace_3 : decode cX7_leastPlace 3 = .ok (.istore_n 3, 1) := by decide +kernel
theorem dX7_leastPlace_4 : decode cX7_leastPlace 4 = .ok (.iload_n 3, 1) := by decide +kernel
theorem dX7_leastPlace_5 : decode cX7_leastPlace 5 = .ok (.bipush 6, 2) := by decide +kernel
theorem dX7_leastPlace_7 : decode cX7_leastPlace 7 = .ok (.if_icmp .ge 41, 3) := by decide +kernel
theorem dX7_leastPlace_10 : decode cX7_leastPlace 10 = .ok (.aload_n 0, 1) := by decide +kernel
theorem dX7_leastPlace_11 : decode cX7_leastPlace 11 = .ok (.getfield 24, 3) := by decide +kernel
theorem dX7_leastPlace_14 : decode cX7_leastPlace 14 = .ok (.iload_n 3, 1) := by decide +kernel
theorem dX7_leastPlace_15 : decode cX7_leastPlace 15 = .ok (.aaload, 1) := by decide +kernel
theorem dX7_leastPlace_16 : decode cX7_leastPlace 16 = .ok (.iload_n 1, 1) := by decide +kernel
theorem dX7_leastPlace_17 : decode cX7_leastPlace 17 = .ok (.invokevirtual 193, 3) := by decide +kernel
theorem dX7_leastPlace_20 : decode cX7_leastPlace 20 = .ok (.istore 4, 2) := by decide +kernel
theorem dX7_leastPlace_22 : decode cX7_leastPlace 22 = .ok (.iload 4, 2) := by decide +kernel
theorem dX7_leastPlace_24 : decode cX7_leastPlace 24 = .ok (.iconst (-1), 1) := by decide +kernel
theorem dX7_leastPlace_25 : decode cX7_leastPlace 25 = .ok (.if_icmp .eq 17, 3) := by decide +kernel
theorem dX7_leastPlace_28 : decode cX7_leastPlace 28 = .ok (.iload_n 2, 1) := by decide +kernel
theorem dX7_leastPlace_29 : decode cX7_leastPlace 29 = .ok (.iconst (-1), 1) := by decide +kernel
theorem dX7_leastPlace_30 : decode cX7_leastPlace 30 = .ok (.if_icmp .eq 9, 3) := by decide +kernel
theorem dX7_leastPlace_33 : decode cX7_leastPlace 33 = .ok (.iload 4, 2) := by decide +kernel
theorem dX7_leastPlace_35 : decode cX7_leastPlace 35 = .ok (.iload_n 2, 1) := by decide +kernel
theorem dX7_leastPlace_36 : decode cX7_leastPlace 36 = .ok (.if_icmp .ge 6, 3) := by decide +kernel
theorem dX7_leastPlace_39 : decode cX7_leastPlace 39 = .ok (.iload 4, 2) := by decide +kernel
theorem dX7_leastPlace_41 : decode cX7_leastPlace 41 = .ok (.istore_n 2, 1) := by decide +kernel
theorem dX7_leastPlace_42 : decode cX7_leastPlace 42 = .ok (.iinc 3 1, 3) := by decide +kernel
theorem dX7_leastPlace_45 : decode cX7_leastPlace 45 = .ok (.goto (-41), 3) := by decide +kernel
theorem dX7_leastPlace_48 : decode cX7_leastPlace 48 = .ok (.iload_n 2, 1) := by decide +kernel
theorem dX7_leastPlace_49 : decode cX7_leastPlace 49 = .ok (.ireturn, 1) := by decide +kernel
theorem dX7_classesOf_0 : decode cX7_classesOf 0 = .ok (.iconst 0, 1) := by decide +kernel
theorem dX7_classesOf_1 : decode cX7_classesOf 1 = .ok (.istore_n 2, 1) := by decide +kernel
theorem dX7_classesOf_2 : decode cX7_classesOf 2 = .ok (.iconst 0, 1) := by decide +kernel
theorem dX7_classesOf_3 : decode cX7_classesOf 3 = .ok (.istore_n 3, 1) := by decide +kernel
theorem dX7_classesOf_4 : decode cX7_classesOf 4 = .ok (.iload_n 3, 1) := by decide +kernel
theorem dX7_classesOf_5 : decode cX7_classesOf 5 = .ok (.bipush 6, 2) := by decide +kernel
theorem dX7_classesOf_7 : decode cX7_classesOf 7 = .ok (.if_icmp .ge 25, 3) := by decide +kernel
theorem dX7_classesOf_10 : decode cX7_classesOf 10 = .ok (.aload_n 0, 1) := by decide +kernel
theorem dX7_classesOf_11 : decode cX7_classesOf 11 = .ok (.getfield 24, 3) := by decide +kernel
theorem dX7_classesOf_14 : decode cX7_classesOf 14 = .ok (.iload_n 3, 1) := by decide +kernel
theorem dX7_classesOf_15 : decode cX7_classesOf 15 = .ok (.aaload, 1) := by decide +kernel
theorem dX7_classesOf_16 : decode cX7_classesOf 16 = .ok (.iload_n 1, 1) := by decide +kernel
theorem dX7_classesOf_17 : decode cX7_classesOf 17 = .ok (.invokevirtual 134, 3) := by decide +kernel
theorem dX7_classesOf_20 : decode cX7_classesOf 20 = .ok (.ifCond .eq 6, 3) := by decide +kernel
theorem dX7_classesOf_23 : decode cX7_classesOf 23 = .ok (.iinc 2 1, 3) := by decide +kernel
theorem dX7_classesOf_26 : decode cX7_classesOf 26 = .ok (.iinc 3 1, 3) := by decide +kernel
theorem dX7_classesOf_29 : decode cX7_classesOf 29 = .ok (.goto (-25), 3) := by decide +kernel
theorem dX7_classesOf_32 : decode cX7_classesOf 32 = .ok (.iload_n 2, 1) := by decide +kernel
theorem dX7_classesOf_33 : decode cX7_classesOf 33 = .ok (.ireturn, 1) := by decide +kernel
theorem dX8_init_0 : decode cX8_init 0 = .ok (.aload_n 0, 1) := by decide +kernel
theorem dX8_init_1 : decode cX8_init 1 = .ok (.invokespecial 1, 3) := by decide +kernel
theorem dX8_init_4 : decode cX8_init 4 = .ok (.aload_n 0, 1) := by decide +kernel
theorem dX8_init_5 : decode cX8_init 5 = .ok (.bipush 80, 2) := by decide +kernel
theorem dX8_init_7 : decode cX8_init 7 = .ok (.newarray .byte, 2) := by decide +kernel
theorem dX8_init_9 : decode cX8_init 9 = .ok (.putfield 7, 3) := by decide +kernel
theorem dX8_init_12 : decode cX8_init 12 = .ok (.aload_n 0, 1) := by decide +kernel
theorem dX8_init_13 : decode cX8_init 13 = .ok (.iconst 2, 1) := by decide +kernel
theorem dX8_init_14 : decode cX8_init 14 = .ok (.putfield 13, 3) := by decide +kernel
theorem dX8_init_17 : decode cX8_init 17 = .ok (.aload_n 0, 1) := by decide +kernel
theorem dX8_init_18 : decode cX8_init 18 = .ok (.bipush 20, 2) := by decide +kernel
theorem dX8_init_20 : decode cX8_init 20 = .ok (.newarray .int, 2) := by decide +kernel
theorem dX8_init_22 : decode cX8_init 22 = .ok (.putfield 17, 3) := by decide +kernel
theorem dX8_init_25 : decode cX8_init 25 = .ok (.aload_n 0, 1) := by decide +kernel
theorem dX8_init_26 : decode cX8_init 26 = .ok (.bipush 20, 2) := by decide +kernel
theorem dX8_init_28 : decode cX8_init 28 = .ok (.newarray .int, 2) := by decide +kernel
theorem dX8_init_30 : decode cX8_init 30 = .ok (.putfield 21, 3) := by decide +kernel
theorem dX8_init_33 : decode cX8_init 33 = .ok (.aload_n 0, 1) := by decide +kernel
theorem dX8_init_34 : decode cX8_init 34 = .ok (.bipush 20, 2) := by decide +kernel
theorem dX8_init_36 : decode cX8_init 36 = .ok (.newarray .int, 2) := by decide +kernel
theorem dX8_init_38 : decode cX8_init 38 = .ok (.putfield 24, 3) := by decide +kernel
theorem dX8_init_41 : decode cX8_init 41 = .ok (.aload_n 0, 1) := by decide +kernel
theorem dX8_init_42 : decode cX8_init 42 = .ok (.bipush 20, 2) := by decide +kernel
theorem dX8_init_44 : decode cX8_init 44 = .ok (.newarray .int, 2) := by decide +kernel
theorem dX8_init_46 : decode cX8_init 46 = .ok (.putfield 27, 3) := by decide +kernel
theorem dX8_init_49 : decode cX8_init 49 = .ok (.aload_n 0, 1) := by decide +kernel
theorem dX8_init_50 : decode cX8_init 50 = .ok (.bipush 60, 2) := by decide +kernel
theorem dX8_init_52 : decode cX8_init 52 = .ok (.newarray .int, 2) := by decide +kernel
theorem dX8_init_54 : decode cX8_init 54 = .ok (.putfield 30, 3) := by decide +kernel
theorem dX8_init_57 : decode cX8_init 57 = .ok (.aload_n 0, 1) := by decide +kernel
theorem dX8_init_58 : decode cX8_init 58 = .ok (.bipush 6, 2) := by decide +kernel
theorem dX8_init_60 : decode cX8_init 60 = .ok (.newarray .int, 2) := by decide +kernel
theorem dX8_init_62 : decode cX8_init 62 = .ok (.putfield 33, 3) := by decide +kernel
theorem dX8_init_65 : decode cX8_init 65 = .ok (.aload_n 0, 1) := by decide +kernel
theorem dX8_init_66 : decode cX8_init 66 = .ok (.bipush 48, 2) := by decide +kernel
theorem dX8_init_68 : decode cX8_init 68 = .ok (.newarray .int, 2) := by decide +kernel
theorem dX8_init_70 : decode cX8_init 70 = .ok (.putfield 36, 3) := by decide +kernel
theorem dX8_init_73 : decode cX8_init 73 = .ok (.aload_n 0, 1) := by decide +kernel
theorem dX8_init_74 : decode cX8_init 74 = .ok (.bipush 48, 2) := by decide +kernel
theorem dX8_init_76 : decode cX8_init 76 = .ok (.newarray .int, 2) := by decide +kernel
theorem dX8_init_78 : decode cX8_init 78 = .ok (.putfield 39, 3) := by decide +kernel
theorem dX8_init_81 : decode cX8_init 81 = .ok (.aload_n 0, 1) := by decide +kernel
theorem dX8_init_82 : decode cX8_init 82 = .ok (.bipush 8, 2) := by decide +kernel
theorem dX8_init_84 : decode cX8_init 84 = .ok (.newarray .int, 2) := by decide +kernel
theorem dX8_init_86 : decode cX8_init 86 = .ok (.putfield 42, 3) := by decide +kernel
theorem dX8_init_89 : decode cX8_init 89 = .ok (.aload_n 0, 1) := by decide +kernel
theorem dX8_init_90 : decode cX8_init 90 = .ok (.bipush 8, 2) := by decide +kernel
theorem dX8_init_92 : decode cX8_init 92 = .ok (.newarray .int, 2) := by decide +kernel
theorem dX8_init_94 : decode cX8_init 94 = .ok (.putfield 45, 3) := by decide +kernel
theorem dX8_init_97 : decode cX8_init 97 = .ok (.aload_n 0, 1) := by decide +kernel
theorem dX8_init_98 : decode cX8_init 98 = .ok (.bipush 6, 2) := by decide +kernel
theorem dX8_init_100 : decode cX8_init 100 = .ok (.newarray .int, 2) := by decide +kernel
theorem dX8_init_102 : decode cX8_init 102 = .ok (.putfield 48, 3) := by decide +kernel
theorem dX8_init_105 : decode cX8_init 105 = .ok (.aload_n 0, 1) := by decide +kernel
theorem dX8_init_106 : decode cX8_init 106 = .ok (.bipush 6, 2) := by decide +kernel
theorem dX8_init_108 : decode cX8_init 108 = .ok (.newarray .int, 2) := by decide +kernel
theorem dX8_init_110 : decode cX8_init 110 = .ok (.putfield 51, 3) := by decide +kernel
theorem dX8_init_113 : decode cX8_init 113 = .ok (.aload_n 0, 1) := by decide +kernel
theorem dX8_init_114 : decode cX8_init 114 = .ok (.bipush 6, 2) := by decide +kernel
theorem dX8_init_116 : decode cX8_init 116 = .ok (.newarray .int, 2) := by decide +kernel
theorem dX8_init_118 : decode cX8_init 118 = .ok (.putfield 54, 3) := by decide +kernel
theorem dX8_init_121 : decode cX8_init 121 = .ok (.aload_n 0, 1) := by decide +kernel
theorem dX8_init_122 : decode cX8_init 122 = .ok (.bipush 36, 2) := by decide +kernel
theorem dX8_init_124 : decode cX8_init 124 = .ok (.newarray .int, 2) := by decide +kernel
theorem dX8_init_126 : decode cX8_init 126 = .ok (.putfield 57, 3) := by decide +kernel
theorem dX8_init_129 : decode cX8_init 129 = .ok (.aload_n 0, 1) := by decide +kernel
theorem dX8_init_130 : decode cX8_init 130 = .ok (.sipush 288, 3) := by decide +kernel
theorem dX8_init_133 : decode cX8_init 133 = .ok (.newarray .int, 2) := by decide +kernel
theorem dX8_init_135 : decode cX8_init 135 = .ok (.putfield 60, 3) := by decide +kernel
theorem dX8_init_138 : decode cX8_init 138 = .ok (.aload_n 0, 1) := by decide +kernel
theorem dX8_init_139 : decode cX8_init 139 = .ok (.bipush 18, 2) := by decide +kernel
theorem dX8_init_141 : decode cX8_init 141 = .ok (.newarray .int, 2) := by decide +kernel
theorem dX8_init_143 : decode cX8_init 143 = .ok (.putfield 63, 3) := by decide +kernel
theorem dX8_init_146 : decode cX8_init 146 = .ok (.aload_n 0, 1) := by decide +kernel
theorem dX8_init_147 : decode cX8_init 147 = .ok (.bipush 8, 2) := by decide +kernel
theorem dX8_init_149 : decode cX8_init 149 = .ok (.newarray .int, 2) := by decide +kernel
theorem dX8_init_151 : decode cX8_init 151 = .ok (.putfield 66, 3) := by decide +kernel
theorem dX8_init_154 : decode cX8_init 154 = .ok (.aload_n 0, 1) := by decide +kernel
theorem dX8_init_155 : decode cX8_init 155 = .ok (.bipush 64, 2) := by decide +kernel
theorem dX8_init_157 : decode cX8_init 157 = .ok (.newarray .int, 2) := by decide +kernel
theorem dX8_init_159 : decode cX8_init 159 = .ok (.putfield 69, 3) := by decide +kernel
theorem dX8_init_162 : decode cX8_init 162 = .ok (.aload_n 0, 1) := by decide +kernel
theorem dX8_init_163 : decode cX8_init 163 = .ok (.sipush 256, 3) := by decide +kernel
theorem dX8_init_166 : decode cX8_init 166 = .ok (.newarray .int, 2) := by decide +kernel
theorem dX8_init_168 : decode cX8_init 168 = .ok (.putfield 72, 3) := by decide +kernel
theorem dX8_init_171 : decode cX8_init 171 = .ok (.aload_n 0, 1) := by decide +kernel
theorem dX8_init_172 : decode cX8_init 172 = .ok (.bipush 8, 2) := by decide +kernel
theorem dX8_init_174 : decode cX8_init 174 = .ok (.newarray .int, 2) := by decide +kernel
theorem dX8_init_176 : decode cX8_init 176 = .ok (.putfield 75, 3) := by decide +kernel
theorem dX8_init_179 : decode cX8_init 179 = .ok (.aload_n 0, 1) := by decide +kernel
theorem dX8_init_180 : decode cX8_init 180 = .ok (.bipush 6, 2) := by decide +kernel
theorem dX8_init_182 : decode cX8_init 182 = .ok (.newarray .int, 2) := by decide +kernel
theorem dX8_init_184 : decode cX8_init 184 = .ok (.putfield 78, 3) := by decide +kernel
theorem dX8_init_187 : decode cX8_init 187 = .ok (.aload_n 0, 1) := by decide +kernel
theorem dX8_init_188 : decode cX8_init 188 = .ok (.bipush 6, 2) := by decide +kernel
theorem dX8_init_190 : decode cX8_init 190 = .ok (.newarray .int, 2) := by decide +kernel
theorem dX8_init_192 : decode cX8_init 192 = .ok (.putfield 81, 3) := by decide +kernel
theorem dX8_init_195 : decode cX8_init 195 = .ok (.aload_n 0, 1) := by decide +kernel
theorem dX8_init_196 : decode cX8_init 196 = .ok (.bipush 20, 2) := by decide +kernel
theorem dX8_init_198 : decode cX8_init 198 = .ok (.newarray .int, 2) := by decide +kernel
theorem dX8_init_200 : decode cX8_init 200 = .ok (.putfield 84, 3) := by decide +kernel
theorem dX8_init_203 : decode cX8_init 203 = .ok (.iconst 0, 1) := by decide +kernel
theorem dX8_init_204 : decode cX8_init 204 = .ok (.istore_n 1, 1) := by decide +kernel
theorem dX8_init_205 : decode cX8_init 205 = .ok (.iload_n 1, 1) := by decide +kernel
theorem dX8_init_206 : decode cX8_init 206 = .ok (.bipush 18, 2) := by decide +kernel
theorem dX8_init_208 : decode cX8_init 208 = .ok (.if_icmp .ge 16, 3) := by decide +kernel
theorem dX8_init_211 : decode cX8_init 211 = .ok (.aload_n 0, 1) := by decide +kernel
theorem dX8_init_212 : decode cX8_init 212 = .ok (.getfield 63, 3) := by decide +kernel
theorem dX8_init_215 : decode cX8_init 215 = .ok (.iload_n 1, 1) := by decide +kernel
theorem dX8_init_216 : decode cX8_init 216 = .ok (.iconst 3, 1) := by decide +kernel
theorem dX8_init_217 : decode cX8_init 217 = .ok (.iastore, 1) := by decide +kernel
theorem dX8_init_218 : decode cX8_init 218 = .ok (.iinc 1 1, 3) := by decide +kernel
theorem dX8_init_221 : decode cX8_init 221 = .ok (.goto (-16), 3) := by decide +kernel
theorem dX8_init_224 : decode cX8_init 224 = .ok (.return_, 1) := by decide +kernel
theorem dX8_lies_0 : decode cX8_lies 0 = .ok (.iload_n 0, 1) := by decide +kernel
theorem dX8_lies_1 : decode cX8_lies 1 = .ok (.iload_n 1, 1) := by decide +kernel
theorem dX8_lies_2 : decode cX8_lies 2 = .ok (.if_icmp .lt 12, 3) := by decide +kernel
theorem dX8_lies_5 : decode cX8_lies 5 = .ok (.iload_n 0, 1) := by decide +kernel
theorem dX8_lies_6 : decode cX8_lies 6 = .ok (.iload_n 2, 1) := by decide +kernel
theorem dX8_lies_7 : decode cX8_lies 7 = .ok (.if_icmp .gt 7, 3) := by decide +kernel
theorem dX8_lies_10 : decode cX8_lies 10 = .ok (.iconst 1, 1) := by decide +kernel
theorem dX8_lies_11 : decode cX8_lies 11 = .ok (.goto 4, 3) := by decide +kernel
theorem dX8_lies_14 : decode cX8_lies 14 = .ok (.iconst 0, 1) := by decide +kernel
theorem dX8_lies_15 : decode cX8_lies 15 = .ok (.ireturn, 1) := by decide +kernel
theorem dX8_isClass_0 : decode cX8_isClass 0 = .ok (.iload_n 0, 1) := by decide +kernel
theorem dX8_isClass_1 : decode cX8_isClass 1 = .ok (.iconst 0, 1) := by decide +kernel
theorem dX8_isClass_2 : decode cX8_isClass 2 = .ok (.iconst 5, 1) := by decide +kernel
theorem dX8_isClass_3 : decode cX8_isClass 3 = .ok (.invokestatic 87, 3) := by decide +kernel
theorem dX8_isClass_6 : decode cX8_isClass 6 = .ok (.ireturn, 1) := by decide +kernel
theorem dX8_isBeast_0 : decode cX8_isBeast 0 = .ok (.iload_n 1, 1) := by decide +kernel
theorem dX8_isBeast_1 : decode cX8_isBeast 1 = .ok (.iconst 0, 1) := by decide +kernel
theorem dX8_isBeast_2 : decode cX8_isBeast 2 = .ok (.aload_n 0, 1) := by decide +kernel
theorem dX8_isBeast_3 : decode cX8_isBeast 3 = .ok (.getfield 91, 3) := by decide +kernel
theorem dX8_isBeast_6 : decode cX8_isBeast 6 = .ok (.iconst 1, 1) := by decide +kernel
theorem dX8_isBeast_7 : decode cX8_isBeast 7 = .ok (.isub, 1) := by decide +kernel
theorem dX8_isBeast_8 : decode cX8_isBeast 8 = .ok (.invokestatic 87, 3) := by decide +kernel
theorem dX8_isBeast_11 : decode cX8_isBeast 11 = .ok (.ireturn, 1) := by decide +kernel
theorem dX8_has_0 : decode cX8_has 0 = .ok (.iload_n 0, 1) := by decide +kernel
theorem dX8_has_1 : decode cX8_has 1 = .ok (.iload_n 1, 1) := by decide +kernel
theorem dX8_has_2 : decode cX8_has 2 = .ok (.ishr, 1) := by decide +kernel
theorem dX8_has_3 : decode cX8_has 3 = .ok (.iconst 1, 1) := by decide +kernel
theorem dX8_has_4 : decode cX8_has 4 = .ok (.iand, 1) := by decide +kernel
theorem dX8_has_5 : decode cX8_has 5 = .ok (.iconst 1, 1) := by decide +kernel
theorem dX8_has_6 : decode cX8_has 6 = .ok (.if_icmp .ne 7, 3) := by decide +kernel
theorem dX8_has_9 : decode cX8_has 9 = .ok (.iconst 1, 1) := by decide +kernel
theorem dX8_has_10 : decode cX8_has 10 = .ok (.goto 4, 3) := by decide +kernel
theorem dX8_has_13 : decode cX8_has 13 = .ok (.iconst 0, 1) := by decide +kernel
theorem dX8_has_14 : decode cX8_has 14 = .ok (.ireturn, 1) := by decide +kernel
theorem dX8_sizeOf_0 : decode cX8_sizeOf 0 = .ok (.iconst 0, 1) := by decide +kernel
theorem dX8_sizeOf_1 : decode cX8_sizeOf 1 = .ok (.istore_n 1, 1) := by decide +kernel
theorem dX8_sizeOf_2 : decode cX8_sizeOf 2 = .ok (.iload_n 0, 1) := by decide +kernel
theorem dX8_sizeOf_3 : decode cX8_sizeOf 3 = .ok (.istore_n 2, 1) := by decide +kernel
theorem dX8_sizeOf_4 : decode cX8_sizeOf 4 = .ok (.iload_n 2, 1) := by decide +kernel
theorem dX8_sizeOf_5 : decode cX8_sizeOf 5 = .ok (.ifCond .eq 15, 3) := by decide +kernel
theorem dX8_sizeOf_8 : decode cX8_sizeOf 8 = .ok (.iinc 1 1, 3) := by decide +kernel
theorem dX8_sizeOf_11 : decode cX8_sizeOf 11 = .ok (.iload_n 2, 1) := by decide +kernel
theorem dX8_sizeOf_12 : decode cX8_sizeOf 12 = .ok (.iload_n 2, 1) := by decide +kernel
theorem dX8_sizeOf_13 : decode cX8_sizeOf 13 = .ok (.iconst 1, 1) := by decide +kernel
theorem dX8_sizeOf_14 : decode cX8_sizeOf 14 = .ok (.isub, 1) := by decide +kernel
theorem dX8_sizeOf_15 : decode cX8_sizeOf 15 = .ok (.iand, 1) := by decide +kernel
theorem dX8_sizeOf_16 : decode cX8_sizeOf 16 = .ok (.istore_n 2, 1) := by decide +kernel
theorem dX8_sizeOf_17 : decode cX8_sizeOf 17 = .ok (.goto (-13), 3) := by decide +kernel
theorem dX8_sizeOf_20 : decode cX8_sizeOf 20 = .ok (.iload_n 1, 1) := by decide +kernel
theorem dX8_sizeOf_21 : decode cX8_sizeOf 21 = .ok (.ireturn, 1) := by decide +kernel
theorem dX8_push_0 : decode cX8_push 0 = .ok (.bipush 24, 2) := by decide +kernel
theorem dX8_push_2 : decode cX8_push 2 = .ok (.istore_n 2, 1) := by decide +kernel
theorem dX8_push_3 : decode cX8_push 3 = .ok (.iload_n 2, 1) := by decide +kernel
theorem dX8_push_4 : decode cX8_push 4 = .ok (.ifCond .lt 32, 3) := by decide +kernel
theorem dX8_push_7 : decode cX8_push 7 = .ok (.aload_n 0, 1) := by decide +kernel
theorem dX8_push_8 : decode cX8_push 8 = .ok (.getfield 7, 3) := by decide +kernel
theorem dX8_push_11 : decode cX8_push 11 = .ok (.aload_n 0, 1) := by decide +kernel
theorem dX8_push_12 : decode cX8_push 12 = .ok (.getfield 94, 3) := by decide +kernel
theorem dX8_push_15 : decode cX8_push 15 = .ok (.iload_n 1, 1) := by decide +kernel
theorem dX8_push_16 : decode cX8_push 16 = .ok (.iload_n 2, 1) := by decide +kernel
theorem dX8_push_17 : decode cX8_push 17 = .ok (.ishr, 1) := by decide +kernel
theorem dX8_push_18 : decode cX8_push 18 = .ok (.i2b, 1) := by decide +kernel
theorem dX8_push_19 : decode cX8_push 19 = .ok (.bastore, 1) := by decide +kernel
theorem dX8_push_20 : decode cX8_push 20 = .ok (.aload_n 0, 1) := by decide +kernel
theorem dX8_push_21 : decode cX8_push 21 = .ok (.dup, 1) := by decide +kernel
theorem dX8_push_22 : decode cX8_push 22 = .ok (.getfield 94, 3) := by decide +kernel
theorem dX8_push_25 : decode cX8_push 25 = .ok (.iconst 1, 1) := by decide +kernel
theorem dX8_push_26 : decode cX8_push 26 = .ok (.iadd, 1) := by decide +kernel
theorem dX8_push_27 : decode cX8_push 27 = .ok (.putfield 94, 3) := by decide +kernel
theorem dX8_push_30 : decode cX8_push 30 = .ok (.iinc 2 (-8), 3) := by decide +kernel
theorem dX8_push_33 : decode cX8_push 33 = .ok (.goto (-30), 3) := by decide +kernel
theorem dX8_push_36 : decode cX8_push 36 = .ok (.return_, 1) := by decide +kernel
theorem dX8_feed_0 : decode cX8_feed 0 = .ok (.aload_n 0, 1) := by decide +kernel
theorem dX8_feed_1 : decode cX8_feed 1 = .ok (.getfield 94, 3) := by decide +kernel
theorem dX8_feed_4 : decode cX8_feed 4 = .ok (.bipush 20, 2) := by decide +kernel
theorem dX8_feed_6 : decode cX8_feed 6 = .ok (.iadd, 1) := by decide +kernel
theorem dX8_feed_7 : decode cX8_feed 7 = .ok (.bipush 80, 2) := by decide +kernel
theorem dX8_feed_9 : decode cX8_feed 9 = .ok (.if_icmp .le 5, 3) := by decide +kernel
theorem dX8_feed_12 : decode cX8_feed 12 = .ok (.iconst (-1), 1) := by decide +kernel
theorem dX8_feed_13 : decode cX8_feed 13 = .ok (.ireturn, 1) := by decide +kernel
theorem dX8_feed_14 : decode cX8_feed 14 = .ok (.aload_n 0, 1) := by decide +kernel
theorem dX8_feed_15 : decode cX8_feed 15 = .ok (.iload_n 1, 1) := by decide +kernel
theorem dX8_feed_16 : decode cX8_feed 16 = .ok (.invokevirtual 97, 3) := by decide +kernel
theorem dX8_feed_19 : decode cX8_feed 19 = .ok (.aload_n 0, 1) := by decide +kernel
theorem dX8_feed_20 : decode cX8_feed 20 = .ok (.iload_n 2, 1) := by decide +kernel
theorem dX8_feed_21 : decode cX8_feed 21 = .ok (.invokevirtual 97, 3) := by decide +kernel
theorem dX8_feed_24 : decode cX8_feed 24 = .ok (.aload_n 0, 1) := by decide +kernel
theorem dX8_feed_25 : decode cX8_feed 25 = .ok (.iload_n 3, 1) := by decide +kernel
theorem dX8_feed_26 : decode cX8_feed 26 = .ok (.invokevirtual 97, 3) := by decide +kernel
theorem dX8_feed_29 : decode cX8_feed 29 = .ok (.aload_n 0, 1) := by decide +kernel
theorem dX8_feed_30 : decode cX8_feed 30 = .ok (.iload 4, 2) := by decide +kernel
theorem dX8_feed_32 : decode cX8_feed 32 = .ok (.invokevirtual 97, 3) := by decide +kernel
theorem dX8_feed_35 : decode cX8_feed 35 = .ok (.aload_n 0, 1) := by decide +kernel
theorem dX8_feed_36 : decode cX8_feed 36 = .ok (.iload 5, 2) := by decide +kernel
theorem dX8_feed_38 : decode cX8_feed 38 = .ok (.invokevirtual 97, 3) := by decide +kernel
theorem dX8_feed_41 : decode cX8_feed 41 = .ok (.aload_n 0, 1) := by decide +kernel
theorem dX8_feed_42 : decode cX8_feed 42 = .ok (.getfield 94, 3) := by decide +kernel
theorem dX8_feed_45 : decode cX8_feed 45 = .ok (.ireturn, 1) := by decide +kernel
theorem dX8_here_0 : decode cX8_here 0 = .ok (.aload_n 0, 1) := by decide +kernel
theorem dX8_here_1 : decode cX8_here 1 = .ok (.getfield 101, 3) := by decide +kernel
theorem dX8_here_4 : decode cX8_here 4 = .ok (.aload_n 0, 1) := by decide +kernel
theorem dX8_here_5 : decode cX8_here 5 = .ok (.getfield 104, 3) := by decide +kernel
theorem dX8_here_8 : decode cX8_here 8 = .ok (.if_icmp .ge 19, 3) := by decide +kernel
theorem dX8_here_11 : decode cX8_here 11 = .ok (.aload_n 0, 1) := by decide +kernel
theorem dX8_here_12 : decode cX8_here 12 = .ok (.getfield 7, 3) := by decide +kernel
theorem dX8_here_15 : decode cX8_here 15 = .ok (.aload_n 0, 1) := by decide +kernel
theorem dX8_here_16 : decode cX8_here 16 = .ok (.getfield 101, 3) := by decide +kernel
theorem dX8_here_19 : decode cX8_here 19 = .ok (.baload, 1) := by decide +kernel
theorem dX8_here_20 : decode cX8_here 20 = .ok (.sipush 255, 3) := by decide +kernel
theorem dX8_here_23 : decode cX8_here 23 = .ok (.iand, 1) := by decide +kernel
theorem dX8_here_24 : decode cX8_here 24 = .ok (.goto 4, 3) := by decide +kernel
theorem dX8_here_27 : decode cX8_here 27 = .ok (.iconst 0, 1) := by decide +kernel
theorem dX8_here_28 : decode cX8_here 28 = .ok (.ireturn, 1) := by decide +kernel
theorem dX8_fails_0 : decode cX8_fails 0 = .ok (.aload_n 0, 1) := by decide +kernel
theorem dX8_fails_1 : decode cX8_fails 1 = .ok (.getfield 107, 3) := by decide +kernel
theorem dX8_fails_4 : decode cX8_fails 4 = .ok (.ifCond .le 4, 3) := by decide +kernel
theorem dX8_fails_7 : decode cX8_fails 7 = .ok (.return_, 1) := by decide +kernel
theorem dX8_fails_8 : decode cX8_fails 8 = .ok (.aload_n 0, 1) := by decide +kernel
theorem dX8_fails_9 : decode cX8_fails 9 = .ok (.iload_n 1, 1) := by decide +kernel
theorem dX8_fails_10 : decode cX8_fails 10 = .ok (.putfield 107, 3) := by decide +kernel
theorem dX8_fails_13 : decode cX8_fails 13 = .ok (.aload_n 0, 1) := by decide +kernel
theorem dX8_fails_14 : decode cX8_fails 14 = .ok (.iload_n 2, 1) := by decide +kernel
theorem dX8_fails_15 : decode cX8_fails 15 = .ok (.putfield 110, 3) := by decide +kernel
theorem dX8_fails_18 : decode cX8_fails 18 = .ok (.return_, 1) := by decide +kernel
theorem dX8_begins_0 : decode cX8_begins 0 = .ok (.aload_n 0, 1) := by decide +kernel
theorem dX8_begins_1 : decode cX8_begins 1 = .ok (.iconst 0, 1) := by decide +kernel
theorem dX8_begins_2 : decode cX8_begins 2 = .ok (.putfield 94, 3) := by decide +kernel
theorem dX8_begins_5 : decode cX8_begins 5 = .ok (.aload_n 0, 1) := by decide +kernel
theorem dX8_begins_6 : decode cX8_begins 6 = .ok (.iload_n 1, 1) := by decide +kernel
theorem dX8_begins_7 : decode cX8_begins 7 = .ok (.putfield 104, 3) := by decide +kernel
theorem dX8_begins_10 : decode cX8_begins 10 = .ok (.aload_n 0, 1) := by decide +kernel
theorem dX8_begins_11 : decode cX8_begins 11 = .ok (.iconst 0, 1) := by decide +kernel
theorem dX8_begins_12 : decode cX8_begins 12 = .ok (.putfield 101, 3) := by decide +kernel
theorem dX8_begins_15 : decode cX8_begins 15 = .ok (.aload_n 0, 1) := by decide +kernel
theorem dX8_begins_16 : decode cX8_begins 16 = .ok (.iconst 0, 1) := by decide +kernel
theorem dX8_begins_17 : decode cX8_begins 17 = .ok (.putfield 107, 3) := by decide +kernel
theorem dX8_begins_20 : decode cX8_begins 20 = .ok (.aload_n 0, 1) := by decide +kernel
theorem dX8_begins_21 : decode cX8_begins 21 = .ok (.iconst (-1), 1) := by decide +kernel
theorem dX8_begins_22 : decode cX8_begins 22 = .ok (.putfield 110, 3) := by decide +kernel
theorem dX8_begins_25 : decode cX8_begins 25 = .ok (.return_, 1) := by decide +kernel
theorem dX8_seesDigit_0 : decode cX8_seesDigit 0 = .ok (.aload_n 0, 1) := by decide +kernel
theorem dX8_seesDigit_1 : decode cX8_seesDigit 1 = .ok (.invokevirtual 113, 3) := by decide +kernel
theorem dX8_seesDigit_4 : decode cX8_seesDigit 4 = .ok (.bipush 48, 2) := by decide +kernel
theorem dX8_seesDigit_6 : decode cX8_seesDigit 6 = .ok (.bipush 57, 2) := by decide +kernel
theorem dX8_seesDigit_8 : decode cX8_seesDigit 8 = .ok (.invokestatic 87, 3) := by decide +kernel
theorem dX8_seesDigit_11 : decode cX8_seesDigit 11 = .ok (.ireturn, 1) := by decide +kernel
theorem dX8_readNumber_0 : decode cX8_readNumber 0 = .ok (.aload_n 0, 1) := by decide +kernel
theorem dX8_readNumber_1 : decode cX8_readNumber 1 = .ok (.getfield 101, 3) := by decide +kernel
theorem dX8_readNumber_4 : decode cX8_readNumber 4 = .ok (.istore_n 1, 1) := by decide +kernel
theorem dX8_readNumber_5 : decode cX8_readNumber 5 = .ok (.iconst 0, 1) := by decide +kernel
theorem dX8_readNumber_6 : decode cX8_readNumber 6 = .ok (.istore_n 2, 1) := by decide +kernel
theorem dX8_readNumber_7 : decode cX8_readNumber 7 = .ok (.aload_n 0, 1) := by decide +kernel
theorem dX8_readNumber_8 : decode cX8_readNumber 8 = .ok (.invokevirtual 117, 3) := by decide +kernel
theorem dX8_readNumber_11 : decode cX8_readNumber 11 = .ok (.ifCond .ne 12, 3) := by decide +kernel
theorem dX8_readNumber_14 : decode cX8_readNumber 14 = .ok (.aload_n 0, 1) := by decide +kernel
theorem dX8_readNumber_15 : decode cX8_readNumber 15 = .ok (.iconst 1, 1) := by decide +kernel
theorem dX8_readNumber_16 : decode cX8_readNumber 16 = .ok (.aload_n 0, 1) := by decide +kernel
theorem dX8_readNumber_17 : decode cX8_readNumber 17 = .ok (.getfield 101, 3) := by decide +kernel
theorem dX8_readNumber_20 : decode cX8_readNumber 20 = .ok (.invokevirtual 121, 3) := by decide +kernel
theorem dX8_readNumber_23 : decode cX8_readNumber 23 = .ok (.aload_n 0, 1) := by decide +kernel
theorem dX8_readNumber_24 : decode cX8_readNumber 24 = .ok (.getfield 107, 3) := by decide +kernel
theorem dX8_readNumber_27 : decode cX8_readNumber 27 = .ok (.ifCond .ne 55, 3) := by decide +kernel
theorem dX8_readNumber_30 : decode cX8_readNumber 30 = .ok (.aload_n 0, 1) := by decide +kernel
theorem dX8_readNumber_31 : decode cX8_readNumber 31 = .ok (.invokevirtual 117, 3) := by decide +kernel
theorem dX8_readNumber_34 : decode cX8_readNumber 34 = .ok (.ifCond .eq 48, 3) := by decide +kernel
theorem dX8_readNumber_37 : decode cX8_readNumber 37 = .ok (.aload_n 0, 1) := by decide +kernel
theorem dX8_readNumber_38 : decode cX8_readNumber 38 = .ok (.getfield 101, 3) := by decide +kernel
theorem dX8_readNumber_41 : decode cX8_readNumber 41 = .ok (.iload_n 1, 1) := by decide +kernel
theorem dX8_readNumber_42 : decode cX8_readNumber 42 = .ok (.iconst 4, 1) := by decide +kernel
theorem dX8_readNumber_43 : decode cX8_readNumber 43 = .ok (.iadd, 1) := by decide +kernel
theorem dX8_readNumber_44 : decode cX8_readNumber 44 = .ok (.if_icmp .ne 12, 3) := by decide +kernel
theorem dX8_readNumber_47 : decode cX8_readNumber 47 = .ok (.aload_n 0, 1) := by decide +kernel
theorem dX8_readNumber_48 : decode cX8_readNumber 48 = .ok (.iconst 1, 1) := by decide +kernel
theorem dX8_readNumber_49 : decode cX8_readNumber 49 = .ok (.aload_n 0, 1) := by decide +kernel
theorem dX8_readNumber_50 : decode cX8_readNumber 50 = .ok (.getfield 101, 3) := by decide +kernel
theorem dX8_readNumber_53 : decode cX8_readNumber 53 = .ok (.invokevirtual 121, 3) := by decide +kernel
theorem dX8_readNumber_56 : decode cX8_readNumber 56 = .ok (.bipush 10, 2) := by decide +kernel
theorem dX8_readNumber_58 : decode cX8_readNumber 58 = .ok (.iload_n 2, 1) := by decide +kernel
theorem dX8_readNumber_59 : decode cX8_readNumber 59 = .ok (.imul, 1) := by decide +kernel
theorem dX8_readNumber_60 : decode cX8_readNumber 60 = .ok (.aload_n 0, 1) := by decide +kernel
theorem dX8_readNumber_61 : decode cX8_readNumber 61 = .ok (.invokevirtual 113, 3) := by decide +kernel
theorem dX8_readNumber_64 : decode cX8_readNumber 64 = .ok (.iadd, 1) := by decide +kernel
theorem dX8_readNumber_65 : decode cX8_readNumber 65 = .ok (.bipush 48, 2) := by decide +kernel
theorem dX8_readNumber_67 : decode cX8_readNumber 67 = .ok (.isub, 1) := by decide +kernel
theorem dX8_readNumber_68 : decode cX8_readNumber 68 = .ok (.istore_n 2, 1) := by decide +kernel
theorem dX8_readNumber_69 : decode cX8_readNumber 69 = .ok (.aload_n 0, 1) := by decide +kernel
theorem dX8_readNumber_70 : decode cX8_readNumber 70 = .ok (.dup, 1) := by decide +kernel
theorem dX8_readNumber_71 : decode cX8_readNumber 71 = .ok (.getfield 101, 3) := by decide +kernel
theorem dX8_readNumber_74 : decode cX8_readNumber 74 = .ok (.iconst 1, 1) := by decide +kernel
theorem dX8_readNumber_75 : decode cX8_readNumber 75 = .ok (.iadd, 1) := by decide +kernel
theorem dX8_readNumber_76 : decode cX8_readNumber 76 = .ok (.putfield 101, 3) := by decide +kernel
theorem dX8_readNumber_79 : decode cX8_readNumber 79 = .ok (.goto (-56), 3) := by decide +kernel
theorem dX8_readNumber_82 : decode cX8_readNumber 82 = .ok (.iload_n 2, 1) := by decide +kernel
theorem dX8_readNumber_83 : decode cX8_readNumber 83 = .ok (.ireturn, 1) := by decide +kernel
theorem dX8_keeps_0 : decode cX8_keeps 0 = .ok (.aload_n 0, 1) := by decide +kernel
theorem dX8_keeps_1 : decode cX8_keeps 1 = .ok (.getfield 107, 3) := by decide +kernel
theorem dX8_keeps_4 : decode cX8_keeps 4 = .ok (.ifCond .le 4, 3) := by decide +kernel
theorem dX8_keeps_7 : decode cX8_keeps 7 = .ok (.return_, 1) := by decide +kernel
theorem dX8_keeps_8 : decode cX8_keeps 8 = .ok (.aload_n 0, 1) := by decide +kernel
theorem dX8_keeps_9 : decode cX8_keeps 9 = .ok (.getfield 42, 3) := by decide +kernel
theorem dX8_keeps_12 : decode cX8_keeps 12 = .ok (.aload_n 0, 1) := by decide +kernel
theorem dX8_keeps_13 : decode cX8_keeps 13 = .ok (.getfield 125, 3) := by decide +kernel
theorem dX8_keeps_16 : decode cX8_keeps 16 = .ok (.iload_n 1, 1) := by decide +kernel
theorem dX8_keeps_17 : decode cX8_keeps 17 = .ok (.iastore, 1) := by decide +kernel
theorem dX8_keeps_18 : decode cX8_keeps 18 = .ok (.aload_n 0, 1) := by decide +kernel
theorem dX8_keeps_19 : decode cX8_keeps 19 = .ok (.getfield 45, 3) := by decide +kernel
theorem dX8_keeps_22 : decode cX8_keeps 22 = .ok (.aload_n 0, 1) := by decide +kernel
theorem dX8_keeps_23 : decode cX8_keeps 23 = .ok (.getfield 125, 3) := by decide +kernel
theorem dX8_keeps_26 : decode cX8_keeps 26 = .ok (.iload_n 2, 1) := by decide +kernel
theorem dX8_keeps_27 : decode cX8_keeps 27 = .ok (.iastore, 1) := by decide +kernel
theorem dX8_keeps_28 : decode cX8_keeps 28 = .ok (.aload_n 0, 1) := by decide +kernel
theorem dX8_keeps_29 : decode cX8_keeps 29 = .ok (.dup, 1) := by decide +kernel
theorem dX8_keeps_30 : decode cX8_keeps 30 = .ok (.getfield 125, 3) := by decide +kernel
theorem dX8_keeps_33 : decode cX8_keeps 33 = .ok (.iconst 1, 1) := by decide +kernel
theorem dX8_keeps_34 : decode cX8_keeps 34 = .ok (.iadd, 1) := by decide +kernel
theorem dX8_keeps_35 : decode cX8_keeps 35 = .ok (.putfield 125, 3) := by decide +kernel
theorem dX8_keeps_38 : decode cX8_keeps 38 = .ok (.return_, 1) := by decide +kernel
theorem dX8_breeds_0 : decode cX8_breeds 0 = .ok (.aload_n 0, 1) := by decide +kernel
theorem dX8_breeds_1 : decode cX8_breeds 1 = .ok (.getfield 101, 3) := by decide +kernel
theorem dX8_breeds_4 : decode cX8_breeds 4 = .ok (.istore_n 1, 1) := by decide +kernel
theorem dX8_breeds_5 : decode cX8_breeds 5 = .ok (.iconst 0, 1) := by decide +kernel
theorem dX8_breeds_6 : decode cX8_breeds 6 = .ok (.istore_n 2, 1) := by decide +kernel
theorem dX8_breeds_7 : decode cX8_breeds 7 = .ok (.aload_n 0, 1) := by decide +kernel
theorem dX8_breeds_8 : decode cX8_breeds 8 = .ok (.invokevirtual 117, 3) := by decide +kernel
theorem dX8_breeds_11 : decode cX8_breeds 11 = .ok (.ifCond .ne 12, 3) := by decide +kernel
theorem dX8_breeds_14 : decode cX8_breeds 14 = .ok (.aload_n 0, 1) := by decide +kernel
theorem dX8_breeds_15 : decode cX8_breeds 15 = .ok (.iconst 1, 1) := by decide +kernel
theorem dX8_breeds_16 : decode cX8_breeds 16 = .ok (.aload_n 0, 1) := by decide +kernel
theorem dX8_breeds_17 : decode cX8_breeds 17 = .ok (.getfield 101, 3) := by decide +kernel
theorem dX8_breeds_20 : decode cX8_breeds 20 = .ok (.invokevirtual 121, 3) := by decide +kernel
theorem dX8_breeds_23 : decode cX8_breeds 23 = .ok (.aload_n 0, 1) := by decide +kernel
theorem dX8_breeds_24 : decode cX8_breeds 24 = .ok (.getfield 107, 3) := by decide +kernel
theorem dX8_breeds_27 : decode cX8_breeds 27 = .ok (.ifCond .ne 70, 3) := by decide +kernel
theorem dX8_breeds_30 : decode cX8_breeds 30 = .ok (.aload_n 0, 1) := by decide +kernel
theorem dX8_breeds_31 : decode cX8_breeds 31 = .ok (.invokevirtual 117, 3) := by decide +kernel
theorem dX8_breeds_34 : decode cX8_breeds 34 = .ok (.ifCond .eq 63, 3) := by decide +kernel
theorem dX8_breeds_37 : decode cX8_breeds 37 = .ok (.aload_n 0, 1) := by decide +kernel
theorem dX8_breeds_38 : decode cX8_breeds 38 = .ok (.invokevirtual 113, 3) := by decide +kernel
theorem dX8_breeds_41 : decode cX8_breeds 41 = .ok (.bipush 48, 2) := by decide +kernel
theorem dX8_breeds_43 : decode cX8_breeds 43 = .ok (.isub, 1) := by decide +kernel
theorem dX8_breeds_44 : decode cX8_breeds 44 = .ok (.istore_n 3, 1) := by decide +kernel
theorem dX8_breeds_45 : decode cX8_breeds 45 = .ok (.aload_n 0, 1) := by decide +kernel
theorem dX8_breeds_46 : decode cX8_breeds 46 = .ok (.getfield 101, 3) := by decide +kernel
theorem dX8_breeds_49 : decode cX8_breeds 49 = .ok (.iload_n 1, 1) := by decide +kernel
theorem dX8_breeds_50 : decode cX8_breeds 50 = .ok (.iconst 4, 1) := by decide +kernel
theorem dX8_breeds_51 : decode cX8_breeds 51 = .ok (.iadd, 1) := by decide +kernel
theorem dX8_breeds_52 : decode cX8_breeds 52 = .ok (.if_icmp .ne 12, 3) := by decide +kernel
theorem dX8_breeds_55 : decode cX8_breeds 55 = .ok (.aload_n 0, 1) := by decide +kernel
theorem dX8_breeds_56 : decode cX8_breeds 56 = .ok (.iconst 1, 1) := by decide +kernel
theorem dX8_breeds_57 : decode cX8_breeds 57 = .ok (.aload_n 0, 1) := by decide +kernel
theorem dX8_breeds_58 : decode cX8_breeds 58 = .ok (.getfield 101, 3) := by decide +kernel
theorem dX8_breeds_61 : decode cX8_breeds 61 = .ok (.invokevirtual 121, 3) := by decide +kernel
theorem dX8_breeds_64 : decode cX8_breeds 64 = .ok (.iload_n 3, 1) := by decide +kernel
theorem dX8_breeds_65 : decode cX8_breeds 65 = .ok (.iconst 3, 1) := by decide +kernel
theorem dX8_breeds_66 : decode cX8_breeds 66 = .ok (.if_icmp .le 12, 3) := by decide +kernel
theorem dX8_breeds_69 : decode cX8_breeds 69 = .ok (.aload_n 0, 1) := by decide +kernel
theorem dX8_breeds_70 : decode cX8_breeds 70 = .ok (.iconst 2, 1) := by decide +kernel
theorem dX8_breeds_71 : decode cX8_breeds 71 = .ok (.aload_n 0, 1) := by decide +kernel
theorem dX8_breeds_72 : decode cX8_breeds 72 = .ok (.getfield 101, 3) := by decide +kernel
theorem dX8_breeds_75 : decode cX8_breeds 75 = .ok (.invokevirtual 121, 3) := by decide +kernel
theorem dX8_breeds_78 : decode cX8_breeds 78 = .ok (.iload_n 2, 1) := by decide +kernel
theorem dX8_breeds_79 : decode cX8_breeds 79 = .ok (.iconst 1, 1) := by decide +kernel
theorem dX8_breeds_80 : decode cX8_breeds 80 = .ok (.iload_n 3, 1) := by decide +kernel
theorem dX8_breeds_81 : decode cX8_breeds 81 = .ok (.ishl, 1) := by decide +kernel
theorem dX8_breeds_82 : decode cX8_breeds 82 = .ok (.ior, 1) := by decide +kernel
theorem dX8_breeds_83 : decode cX8_breeds 83 = .ok (.istore_n 2, 1) := by decide +kernel
theorem dX8_breeds_84 : decode cX8_breeds 84 = .ok (.aload_n 0, 1) := by decide +kernel
theorem dX8_breeds_85 : decode cX8_breeds 85 = .ok (.dup, 1) := by decide +kernel
theorem dX8_breeds_86 : decode cX8_breeds 86 = .ok (.getfield 101, 3) := by decide +kernel
theorem dX8_breeds_89 : decode cX8_breeds 89 = .ok (.iconst 1, 1) := by decide +kernel
theorem dX8_breeds_90 : decode cX8_breeds 90 = .ok (.iadd, 1) := by decide +kernel
theorem dX8_breeds_91 : decode cX8_breeds 91 = .ok (.putfield 101, 3) := by decide +kernel
theorem dX8_breeds_94 : decode cX8_breeds 94 = .ok (.goto (-71), 3) := by decide +kernel
theorem dX8_breeds_97 : decode cX8_breeds 97 = .ok (.aload_n 0, 1) := by decide +kernel
theorem dX8_breeds_98 : decode cX8_breeds 98 = .ok (.iconst 0, 1) := by decide +kernel
theorem dX8_breeds_99 : decode cX8_breeds 99 = .ok (.iload_n 2, 1) := by decide +kernel
theorem dX8_breeds_100 : decode cX8_breeds 100 = .ok (.invokevirtual 128, 3) := by decide +kernel
theorem dX8_breeds_103 : decode cX8_breeds 103 = .ok (.return_, 1) := by decide +kernel
theorem dX8_measures_0 : decode cX8_measures 0 = .ok (.aload_n 0, 1) := by decide +kernel
theorem dX8_measures_1 : decode cX8_measures 1 = .ok (.invokevirtual 113, 3) := by decide +kernel
theorem dX8_measures_4 : decode cX8_measures 4 = .ok (.bipush 48, 2) := by decide +kernel
theorem dX8_measures_6 : decode cX8_measures 6 = .ok (.isub, 1) := by decide +kernel
theorem dX8_measures_7 : decode cX8_measures 7 = .ok (.istore_n 1, 1) := by decide +kernel
theorem dX8_measures_8 : decode cX8_measures 8 = .ok (.aload_n 0, 1) := by decide +kernel
theorem dX8_measures_9 : decode cX8_measures 9 = .ok (.invokevirtual 117, 3) := by decide +kernel
theorem dX8_measures_12 : decode cX8_measures 12 = .ok (.ifCond .ne 15, 3) := by decide +kernel
theorem dX8_measures_15 : decode cX8_measures 15 = .ok (.aload_n 0, 1) := by decide +kernel
theorem dX8_measures_16 : decode cX8_measures 16 = .ok (.iconst 1, 1) := by decide +kernel
theorem dX8_measures_17 : decode cX8_measures 17 = .ok (.aload_n 0, 1) := by decide +kernel
theorem dX8_measures_18 : decode cX8_measures 18 = .ok (.getfield 101, 3) := by decide +kernel
theorem dX8_measures_21 : decode cX8_measures 21 = .ok (.invokevirtual 121, 3) := by decide +kernel
theorem dX8_measures_24 : decode cX8_measures 24 = .ok (.goto 17, 3) := by decide +kernel
theorem dX8_measures_27 : decode cX8_measures 27 = .ok (.iload_n 1, 1) := by decide +kernel
theorem dX8_measures_28 : decode cX8_measures 28 = .ok (.iconst 2, 1) := by decide +kernel
theorem dX8_measures_29 : decode cX8_measures 29 = .ok (.if_icmp .le 12, 3) := by decide +kernel
theorem dX8_measures_32 : decode cX8_measures 32 = .ok (.aload_n 0, 1) := by decide +kernel
theorem dX8_measures_33 : decode cX8_measures 33 = .ok (.iconst 2, 1) := by decide +kernel
theorem dX8_measures_34 : decode cX8_measures 34 = .ok (.aload_n 0, 1) := by decide +kernel
theorem dX8_measures_35 : decode cX8_measures 35 = .ok (.getfield 101, 3) := by decide +kernel
theorem dX8_measures_38 : decode cX8_measures 38 = .ok (.invokevirtual 121, 3) := by decide +kernel
theorem dX8_measures_41 : decode cX8_measures 41 = .ok (.aload_n 0, 1) := by decide +kernel
theorem dX8_measures_42 : decode cX8_measures 42 = .ok (.dup, 1) := by decide +kernel
theorem dX8_measures_43 : decode cX8_measures 43 = .ok (.getfield 101, 3) := by decide +kernel
theorem dX8_measures_46 : decode cX8_measures 46 = .ok (.iconst 1, 1) := by decide +kernel
theorem dX8_measures_47 : decode cX8_measures 47 = .ok (.iadd, 1) := by decide +kernel
theorem dX8_measures_48 : decode cX8_measures 48 = .ok (.putfield 101, 3) := by decide +kernel
theorem dX8_measures_51 : decode cX8_measures 51 = .ok (.aload_n 0, 1) := by decide +kernel
theorem dX8_measures_52 : decode cX8_measures 52 = .ok (.invokevirtual 113, 3) := by decide +kernel
theorem dX8_measures_55 : decode cX8_measures 55 = .ok (.istore_n 2, 1) := by decide +kernel
theorem dX8_measures_56 : decode cX8_measures 56 = .ok (.iload_n 2, 1) := by decide +kernel
theorem dX8_measures_57 : decode cX8_measures 57 = .ok (.bipush 62, 2) := by decide +kernel
theorem dX8_measures_59 : decode cX8_measures 59 = .ok (.if_icmp .eq 18, 3) := by decide +kernel
theorem dX8_measures_62 : decode cX8_measures 62 = .ok (.iload_n 2, 1) := by decide +kernel
theorem dX8_measures_63 : decode cX8_measures 63 = .ok (.bipush 60, 2) := by decide +kernel
theorem dX8_measures_65 : decode cX8_measures 65 = .ok (.if_icmp .eq 12, 3) := by decide +kernel
theorem dX8_measures_68 : decode cX8_measures 68 = .ok (.aload_n 0, 1) := by decide +kernel
theorem dX8_measures_69 : decode cX8_measures 69 = .ok (.iconst 1, 1) := by decide +kernel
theorem dX8_measures_70 : decode cX8_measures 70 = .ok (.aload_n 0, 1) := by decide +kernel
theorem dX8_measures_71 : decode cX8_measures 71 = .ok (.getfield 101, 3) := by decide +kernel
theorem dX8_measures_74 : decode cX8_measures 74 = .ok (.invokevirtual 121, 3) := by decide +kernel
theorem dX8_measures_77 : decode cX8_measures 77 = .ok (.aload_n 0, 1) := by decide +kernel
theorem dX8_measures_78 : decode cX8_measures 78 = .ok (.dup, 1) := by decide +kernel
theorem dX8_measures_79 : decode cX8_measures 79 = .ok (.getfield 101, 3) := by decide +kernel
theorem dX8_measures_82 : decode cX8_measures 82 = .ok (.iconst 1, 1) := by decide +kernel
theorem dX8_measures_83 : decode cX8_measures 83 = .ok (.iadd, 1) := by decide +kernel
theorem dX8_measures_84 : decode cX8_measures 84 = .ok (.putfield 101, 3) := by decide +kernel
theorem dX8_measures_87 : decode cX8_measures 87 = .ok (.aload_n 0, 1) := by decide +kernel
theorem dX8_measures_88 : decode cX8_measures 88 = .ok (.getfield 107, 3) := by decide +kernel
theorem dX8_measures_91 : decode cX8_measures 91 = .ok (.ifCond .ne 10, 3) := by decide +kernel
theorem dX8_measures_94 : decode cX8_measures 94 = .ok (.aload_n 0, 1) := by decide +kernel
theorem dX8_measures_95 : decode cX8_measures 95 = .ok (.invokevirtual 131, 3) := by decide +kernel
theorem dX8_measures_98 : decode cX8_measures 98 = .ok (.goto 4, 3) := by decide +kernel
theorem dX8_measures_101 : decode cX8_measures 101 = .ok (.iconst 0, 1) := by decide +kernel
theorem dX8_measures_102 : decode cX8_measures 102 = .ok (.istore_n 3, 1) := by decide +kernel
theorem dX8_measures_103 : decode cX8_measures 103 = .ok (.aload_n 0, 1) := by decide +kernel
theorem dX8_measures_104 : decode cX8_measures 104 = .ok (.iload_n 2, 1) := by decide +kernel
theorem dX8_measures_105 : decode cX8_measures 105 = .ok (.bipush 62, 2) := by decide +kernel
theorem dX8_measures_107 : decode cX8_measures 107 = .ok (.if_icmp .ne 7, 3) := by decide +kernel
theorem dX8_measures_110 : decode cX8_measures 110 = .ok (.iconst 3, 1) := by decide +kernel
theorem dX8_measures_111 : decode cX8_measures 111 = .ok (.goto 5, 3) := by decide +kernel
theorem dX8_measures_114 : decode cX8_measures 114 = .ok (.bipush 6, 2) := by decide +kernel
theorem dX8_measures_116 : decode cX8_measures 116 = .ok (.iload_n 1, 1) := by decide +kernel
theorem dX8_measures_117 : decode cX8_measures 117 = .ok (.iadd, 1) := by decide +kernel
theorem dX8_measures_118 : decode cX8_measures 118 = .ok (.iload_n 3, 1) := by decide +kernel
theorem dX8_measures_119 : decode cX8_measures 119 = .ok (.invokevirtual 128, 3) := by decide +kernel
theorem dX8_measures_122 : decode cX8_measures 122 = .ok (.return_, 1) := by decide +kernel
theorem dX8_clause_0 : decode cX8_clause 0 = .ok (.aload_n 0, 1) := by decide +kernel
theorem dX8_clause_1 : decode cX8_clause 1 = .ok (.invokevirtual 113, 3) := by decide +kernel
theorem dX8_clause_4 : decode cX8_clause 4 = .ok (.istore_n 1, 1) := by decide +kernel
theorem dX8_clause_5 : decode cX8_clause 5 = .ok (.iload_n 1, 1) := by decide +kernel
theorem dX8_clause_6 : decode cX8_clause 6 = .ok (.bipush 98, 2) := by decide +kernel
theorem dX8_clause_8 : decode cX8_clause 8 = .ok (.if_icmp .eq 33, 3) := by decide +kernel
theorem dX8_clause_11 : decode cX8_clause 11 = .ok (.iload_n 1, 1) := by decide +kernel
theorem dX8_clause_12 : decode cX8_clause 12 = .ok (.bipush 102, 2) := by decide +kernel
theorem dX8_clause_14 : decode cX8_clause 14 = .ok (.if_icmp .eq 27, 3) := by decide +kernel
theorem dX8_clause_17 : decode cX8_clause 17 = .ok (.iload_n 1, 1) := by decide +kernel
theorem dX8_clause_18 : decode cX8_clause 18 = .ok (.bipush 116, 2) := by decide +kernel
theorem dX8_clause_20 : decode cX8_clause 20 = .ok (.if_icmp .eq 21, 3) := by decide +kernel
theorem dX8_clause_23 : decode cX8_clause 23 = .ok (.iload_n 1, 1) := by decide +kernel
theorem dX8_clause_24 : decode cX8_clause 24 = .ok (.bipush 109, 2) := by decide +kernel
theorem dX8_clause_26 : decode cX8_clause 26 = .ok (.if_icmp .eq 15, 3) := by decide +kernel
theorem dX8_clause_29 : decode cX8_clause 29 = .ok (.aload_n 0, 1) := by decide +kernel
theorem dX8_clause_30 : decode cX8_clause 30 = .ok (.iconst 1, 1) := by decide +kernel
