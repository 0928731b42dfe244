theorem dX0_init_0 : decode cX0_init 0 = .ok (.aload_n 0, 1) := by decide +kernel
theorem dX0_init_1 : decode cX0_init 1 = .ok (.invokespecial 3, 3) := by decide +kernel
theorem dX0_init_4 : decode cX0_init 4 = .ok (.aload_n 0, 1) := by decide +kernel
theorem dX0_init_5 : decode cX0_init 5 = .ok (.iconst 3, 1) := by decide +kernel
theorem dX0_init_6 : decode cX0_init 6 = .ok (.newarray .int, 2) := by decide +kernel
theorem dX0_init_8 : decode cX0_init 8 = .ok (.putfield 9, 3) := by decide +kernel
theorem dX0_init_11 : decode cX0_init 11 = .ok (.aload_n 0, 1) := by decide +kernel
theorem dX0_init_12 : decode cX0_init 12 = .ok (.iload_n 1, 1) := by decide +kernel
theorem dX0_init_13 : decode cX0_init 13 = .ok (.putfield 15, 3) := by decide +kernel
theorem dX0_init_16 : decode cX0_init 16 = .ok (.aload_n 0, 1) := by decide +kernel
theorem dX0_init_17 : decode cX0_init 17 = .ok (.iload_n 2, 1) := by decide +kernel
theorem dX0_init_18 : decode cX0_init 18 = .ok (.putfield 19, 3) := by decide +kernel
theorem dX0_init_21 : decode cX0_init 21 = .ok (.aload_n 0, 1) := by decide +kernel
theorem dX0_init_22 : decode cX0_init 22 = .ok (.iload_n 3, 1) := by decide +kernel
theorem dX0_init_23 : decode cX0_init 23 = .ok (.putfield 22, 3) := by decide +kernel
theorem dX0_init_26 : decode cX0_init 26 = .ok (.aload_n 0, 1) := by decide +kernel
theorem dX0_init_27 : decode cX0_init 27 = .ok (.iload 4, 2) := by decide +kernel
theorem dX0_init_29 : decode cX0_init 29 = .ok (.putfield 25, 3) := by decide +kernel
theorem dX0_init_32 : decode cX0_init 32 = .ok (.return_, 1) := by decide +kernel
theorem dX1_init_0 : decode cX1_init 0 = .ok (.aload_n 0, 1) := by decide +kernel
theorem dX1_init_1 : decode cX1_init 1 = .ok (.invokespecial 5, 3) := by decide +kernel
theorem dX1_init_4 : decode cX1_init 4 = .ok (.aload_n 0, 1) := by decide +kernel
theorem dX1_init_5 : decode cX1_init 5 = .ok (.iconst 4, 1) := by decide +kernel
theorem dX1_init_6 : decode cX1_init 6 = .ok (.newarray .int, 2) := by decide +kernel
theorem dX1_init_8 : decode cX1_init 8 = .ok (.putfield 11, 3) := by decide +kernel
theorem dX1_init_11 : decode cX1_init 11 = .ok (.aload_n 0, 1) := by decide +kernel
theorem dX1_init_12 : decode cX1_init 12 = .ok (.iconst 4, 1) := by decide +kernel
theorem dX1_init_13 : decode cX1_init 13 = .ok (.newarray .int, 2) := by decide +kernel
theorem dX1_init_15 : decode cX1_init 15 = .ok (.putfield 15, 3) := by decide +kernel
theorem dX1_init_18 : decode cX1_init 18 = .ok (.aload_n 0, 1) := by decide +kernel
theorem dX1_init_19 : decode cX1_init 19 = .ok (.bipush 15, 2) := by decide +kernel
theorem dX1_init_21 : decode cX1_init 21 = .ok (.putfield 18, 3) := by decide +kernel
theorem dX1_init_24 : decode cX1_init 24 = .ok (.aload_n 0, 1) := by decide +kernel
theorem dX1_init_25 : decode cX1_init 25 = .ok (.invokevirtual 22, 3) := by decide +kernel
theorem dX1_init_28 : decode cX1_init 28 = .ok (.return_, 1) := by decide +kernel
theorem dX1_admits_0 : decode cX1_admits 0 = .ok (.aload_n 0, 1) := by decide +kernel
theorem dX1_admits_1 : decode cX1_admits 1 = .ok (.getfield 18, 3) := by decide +kernel
theorem dX1_admits_4 : decode cX1_admits 4 = .ok (.iconst 1, 1) := by decide +kernel
theorem dX1_admits_5 : decode cX1_admits 5 = .ok (.aload_n 1, 1) := by decide +kernel
theorem dX1_admits_6 : decode cX1_admits 6 = .ok (.getfield 25, 3) := by decide +kernel
theorem dX1_admits_9 : decode cX1_admits 9 = .ok (.ishl, 1) := by decide +kernel
theorem dX1_admits_10 : decode cX1_admits 10 = .ok (.iand, 1) := by decide +kernel
theorem dX1_admits_11 : decode cX1_admits 11 = .ok (.ifCond .eq 15, 3) := by decide +kernel
theorem dX1_admits_14 : decode cX1_admits 14 = .ok (.aload_n 0, 1) := by decide +kernel
theorem dX1_admits_15 : decode cX1_admits 15 = .ok (.iconst 0, 1) := by decide +kernel
theorem dX1_admits_16 : decode cX1_admits 16 = .ok (.aload_n 1, 1) := by decide +kernel
theorem dX1_admits_17 : decode cX1_admits 17 = .ok (.getfield 30, 3) := by decide +kernel
theorem dX1_admits_20 : decode cX1_admits 20 = .ok (.invokevirtual 33, 3) := by decide +kernel
theorem dX1_admits_23 : decode cX1_admits 23 = .ok (.ifCond .ne 5, 3) := by decide +kernel
theorem dX1_admits_26 : decode cX1_admits 26 = .ok (.iconst 0, 1) := by decide +kernel
theorem dX1_admits_27 : decode cX1_admits 27 = .ok (.ireturn, 1) := by decide +kernel
theorem dX1_admits_28 : decode cX1_admits 28 = .ok (.iconst 0, 1) := by decide +kernel
theorem dX1_admits_29 : decode cX1_admits 29 = .ok (.istore_n 2, 1) := by decide +kernel
theorem dX1_admits_30 : decode cX1_admits 30 = .ok (.iload_n 2, 1) := by decide +kernel
theorem dX1_admits_31 : decode cX1_admits 31 = .ok (.iconst 3, 1) := by decide +kernel
theorem dX1_admits_32 : decode cX1_admits 32 = .ok (.if_icmp .ge 27, 3) := by decide +kernel
theorem dX1_admits_35 : decode cX1_admits 35 = .ok (.aload_n 0, 1) := by decide +kernel
theorem dX1_admits_36 : decode cX1_admits 36 = .ok (.iconst 1, 1) := by decide +kernel
theorem dX1_admits_37 : decode cX1_admits 37 = .ok (.iload_n 2, 1) := by decide +kernel
theorem dX1_admits_38 : decode cX1_admits 38 = .ok (.iadd, 1) := by decide +kernel
theorem dX1_admits_39 : decode cX1_admits 39 = .ok (.aload_n 1, 1) := by decide +kernel
theorem dX1_admits_40 : decode cX1_admits 40 = .ok (.getfield 37, 3) := by decide +kernel
theorem dX1_admits_43 : decode cX1_admits 43 = .ok (.iload_n 2, 1) := by decide +kernel
theorem dX1_admits_44 : decode cX1_admits 44 = .ok (.iaload, 1) := by decide +kernel
theorem dX1_admits_45 : decode cX1_admits 45 = .ok (.invokevirtual 33, 3) := by decide +kernel
theorem dX1_admits_48 : decode cX1_admits 48 = .ok (.ifCond .ne 5, 3) := by decide +kernel
theorem dX1_admits_51 : decode cX1_admits 51 = .ok (.iconst 0, 1) := by decide +kernel
theorem dX1_admits_52 : decode cX1_admits 52 = .ok (.ireturn, 1) := by decide +kernel
theorem dX1_admits_53 : decode cX1_admits 53 = .ok (.iinc 2 1, 3) := by decide +kernel
theorem dX1_admits_56 : decode cX1_admits 56 = .ok (.goto (-26), 3) := by decide +kernel
theorem dX1_admits_59 : decode cX1_admits 59 = .ok (.iconst 1, 1) := by decide +kernel
theorem dX1_admits_60 : decode cX1_admits 60 = .ok (.ireturn, 1) := by decide +kernel
theorem dX1_readFrom_0 : decode cX1_readFrom 0 = .ok (.aload_n 0, 1) := by decide +kernel
theorem dX1_readFrom_1 : decode cX1_readFrom 1 = .ok (.invokevirtual 22, 3) := by decide +kernel
theorem dX1_readFrom_4 : decode cX1_readFrom 4 = .ok (.aload_n 1, 1) := by decide +kernel
theorem dX1_readFrom_5 : decode cX1_readFrom 5 = .ok (.invokevirtual 40, 3) := by decide +kernel
theorem dX1_readFrom_8 : decode cX1_readFrom 8 = .ok (.ifCond .eq 5, 3) := by decide +kernel
theorem dX1_readFrom_11 : decode cX1_readFrom 11 = .ok (.iconst 0, 1) := by decide +kernel
theorem dX1_readFrom_12 : decode cX1_readFrom 12 = .ok (.ireturn, 1) := by decide +kernel
theorem dX1_readFrom_13 : decode cX1_readFrom 13 = .ok (.iconst 0, 1) := by decide +kernel
theorem dX1_readFrom_14 : decode cX1_readFrom 14 = .ok (.istore_n 2, 1) := by decide +kernel
theorem dX1_readFrom_15 : decode cX1_readFrom 15 = .ok (.iload_n 2, 1) := by decide +kernel
theorem dX1_readFrom_16 : decode cX1_readFrom 16 = .ok (.bipush 8, 2) := by decide +kernel
theorem dX1_readFrom_18 : decode cX1_readFrom 18 = .ok (.if_icmp .ge 45, 3) := by decide +kernel
theorem dX1_readFrom_21 : decode cX1_readFrom 21 = .ok (.aload_n 0, 1) := by decide +kernel
theorem dX1_readFrom_22 : decode cX1_readFrom 22 = .ok (.aload_n 1, 1) := by decide +kernel
theorem dX1_readFrom_23 : decode cX1_readFrom 23 = .ok (.invokevirtual 46, 3) := by decide +kernel
theorem dX1_readFrom_26 : decode cX1_readFrom 26 = .ok (.istore_n 3, 1) := by decide +kernel
theorem dX1_readFrom_27 : decode cX1_readFrom 27 = .ok (.iload_n 3, 1) := by decide +kernel
theorem dX1_readFrom_28 : decode cX1_readFrom 28 = .ok (.ifCond .eq 5, 3) := by decide +kernel
theorem dX1_readFrom_31 : decode cX1_readFrom 31 = .ok (.iload_n 3, 1) := by decide +kernel
theorem dX1_readFrom_32 : decode cX1_readFrom 32 = .ok (.ireturn, 1) := by decide +kernel
theorem dX1_readFrom_33 : decode cX1_readFrom 33 = .ok (.aload_n 1, 1) := by decide +kernel
theorem dX1_readFrom_34 : decode cX1_readFrom 34 = .ok (.invokevirtual 40, 3) := by decide +kernel
theorem dX1_readFrom_37 : decode cX1_readFrom 37 = .ok (.ifCond .eq 5, 3) := by decide +kernel
theorem dX1_readFrom_40 : decode cX1_readFrom 40 = .ok (.iconst 0, 1) := by decide +kernel
theorem dX1_readFrom_41 : decode cX1_readFrom 41 = .ok (.ireturn, 1) := by decide +kernel
theorem dX1_readFrom_42 : decode cX1_readFrom 42 = .ok (.aload_n 1, 1) := by decide +kernel
theorem dX1_readFrom_43 : decode cX1_readFrom 43 = .ok (.bipush 59, 2) := by decide +kernel
theorem dX1_readFrom_45 : decode cX1_readFrom 45 = .ok (.invokevirtual 50, 3) := by decide +kernel
theorem dX1_readFrom_48 : decode cX1_readFrom 48 = .ok (.ifCond .ne 9, 3) := by decide +kernel
theorem dX1_readFrom_51 : decode cX1_readFrom 51 = .ok (.aload_n 1, 1) := by decide +kernel
theorem dX1_readFrom_52 : decode cX1_readFrom 52 = .ok (.iconst 1, 1) := by decide +kernel
theorem dX1_readFrom_53 : decode cX1_readFrom 53 = .ok (.invokevirtual 54, 3) := by decide +kernel
theorem dX1_readFrom_56 : decode cX1_readFrom 56 = .ok (.ireturn, 1) := by decide +kernel
theorem dX1_readFrom_57 : decode cX1_readFrom 57 = .ok (.iinc 2 1, 3) := by decide +kernel
theorem dX1_readFrom_60 : decode cX1_readFrom 60 = .ok (.goto (-45), 3) := by decide +kernel
theorem dX1_readFrom_63 : decode cX1_readFrom 63 = .ok (.aload_n 1, 1) := by decide +kernel
theorem dX1_readFrom_64 : decode cX1_readFrom 64 = .ok (.aload_n 1, 1) := by decide +kernel
theorem dX1_readFrom_65 : decode cX1_readFrom 65 = .ok (.invokevirtual 58, 3) := by decide +kernel
theorem dX1_readFrom_68 : decode cX1_readFrom 68 = .ok (.invokestatic 62, 3) := by decide +kernel
theorem dX1_readFrom_71 : decode cX1_readFrom 71 = .ok (.ifCond .eq 7, 3) := by decide +kernel
theorem dX1_readFrom_74 : decode cX1_readFrom 74 = .ok (.iconst 3, 1) := by decide +kernel
theorem dX1_readFrom_75 : decode cX1_readFrom 75 = .ok (.goto 4, 3) := by decide +kernel
theorem dX1_readFrom_78 : decode cX1_readFrom 78 = .ok (.iconst 1, 1) := by decide +kernel
theorem dX1_readFrom_79 : decode cX1_readFrom 79 = .ok (.invokevirtual 54, 3) := by decide +kernel
theorem dX1_readFrom_82 : decode cX1_readFrom 82 = .ok (.ireturn, 1) := by decide +kernel
theorem dX1_letAll_0 : decode cX1_letAll 0 = .ok (.aload_n 0, 1) := by decide +kernel
theorem dX1_letAll_1 : decode cX1_letAll 1 = .ok (.bipush 15, 2) := by decide +kernel
theorem dX1_letAll_3 : decode cX1_letAll 3 = .ok (.putfield 18, 3) := by decide +kernel
theorem dX1_letAll_6 : decode cX1_letAll 6 = .ok (.aload_n 0, 1) := by decide +kernel
theorem dX1_letAll_7 : decode cX1_letAll 7 = .ok (.getfield 11, 3) := by decide +kernel
theorem dX1_letAll_10 : decode cX1_letAll 10 = .ok (.iconst 0, 1) := by decide +kernel
theorem dX1_letAll_11 : decode cX1_letAll 11 = .ok (.invokestatic 66, 3) := by decide +kernel
theorem dX1_letAll_14 : decode cX1_letAll 14 = .ok (.aload_n 0, 1) := by decide +kernel
theorem dX1_letAll_15 : decode cX1_letAll 15 = .ok (.getfield 15, 3) := by decide +kernel
theorem dX1_letAll_18 : decode cX1_letAll 18 = .ok (.sipush 9999, 3) := by decide +kernel
theorem dX1_letAll_21 : decode cX1_letAll 21 = .ok (.invokestatic 66, 3) := by decide +kernel
theorem dX1_letAll_24 : decode cX1_letAll 24 = .ok (.return_, 1) := by decide +kernel
theorem dX1_isWithin_0 : decode cX1_isWithin 0 = .ok (.aload_n 0, 1) := by decide +kernel
theorem dX1_isWithin_1 : decode cX1_isWithin 1 = .ok (.getfield 11, 3) := by decide +kernel
theorem dX1_isWithin_4 : decode cX1_isWithin 4 = .ok (.iload_n 1, 1) := by decide +kernel
theorem dX1_isWithin_5 : decode cX1_isWithin 5 = .ok (.iaload, 1) := by decide +kernel
theorem dX1_isWithin_6 : decode cX1_isWithin 6 = .ok (.iload_n 2, 1) := by decide +kernel
theorem dX1_isWithin_7 : decode cX1_isWithin 7 = .ok (.if_icmp .gt 17, 3) := by decide +kernel
theorem dX1_isWithin_10 : decode cX1_isWithin 10 = .ok (.iload_n 2, 1) := by decide +kernel
theorem dX1_isWithin_11 : decode cX1_isWithin 11 = .ok (.aload_n 0, 1) := by decide +kernel
theorem dX1_isWithin_12 : decode cX1_isWithin 12 = .ok (.getfield 15, 3) := by decide +kernel
theorem dX1_isWithin_15 : decode cX1_isWithin 15 = .ok (.iload_n 1, 1) := by decide +kernel
theorem dX1_isWithin_16 : decode cX1_isWithin 16 = .ok (.iaload, 1) := by decide +kernel
theorem dX1_isWithin_17 : decode cX1_isWithin 17 = .ok (.if_icmp .gt 7, 3) := by decide +kernel
theorem dX1_isWithin_20 : decode cX1_isWithin 20 = .ok (.iconst 1, 1) := by decide +kernel
theorem dX1_isWithin_21 : decode cX1_isWithin 21 = .ok (.goto 4, 3) := by decide +kernel
theorem dX1_isWithin_24 : decode cX1_isWithin 24 = .ok (.iconst 0, 1) := by decide +kernel
theorem dX1_isWithin_25 : decode cX1_isWithin 25 = .ok (.ireturn, 1) := by decide +kernel
theorem dX1_isClauseLetter_0 : decode cX1_isClauseLetter 0 = .ok (.iload_n 0, 1) := by decide +kernel
theorem dX1_isClauseLetter_1 : decode cX1_isClauseLetter 1 = .ok (.bipush 98, 2) := by decide +kernel
theorem dX1_isClauseLetter_3 : decode cX1_isClauseLetter 3 = .ok (.if_icmp .eq 21, 3) := by decide +kernel
theorem dX1_isClauseLetter_6 : decode cX1_isClauseLetter 6 = .ok (.iload_n 0, 1) := by decide +kernel
theorem dX1_isClauseLetter_7 : decode cX1_isClauseLetter 7 = .ok (.bipush 102, 2) := by decide +kernel
theorem dX1_isClauseLetter_9 : decode cX1_isClauseLetter 9 = .ok (.if_icmp .eq 15, 3) := by decide +kernel
theorem dX1_isClauseLetter_12 : decode cX1_isClauseLetter 12 = .ok (.iload_n 0, 1) := by decide +kernel
theorem dX1_isClauseLetter_13 : decode cX1_isClauseLetter 13 = .ok (.bipush 116, 2) := by decide +kernel
theorem dX1_isClauseLetter_15 : decode cX1_isClauseLetter 15 = .ok (.if_icmp .eq 9, 3) := by decide +kernel
theorem dX1_isClauseLetter_18 : decode cX1_isClauseLetter 18 = .ok (.iload_n 0, 1) := by decide +kernel
theorem dX1_isClauseLetter_19 : decode cX1_isClauseLetter 19 = .ok (.bipush 109, 2) := by decide +kernel
theorem dX1_isClauseLetter_21 : decode cX1_isClauseLetter 21 = .ok (.if_icmp .ne 7, 3) := by decide +kernel
theorem dX1_isClauseLetter_24 : decode cX1_isClauseLetter 24 = .ok (.iconst 1, 1) := by decide +kernel
theorem dX1_isClauseLetter_25 : decode cX1_isClauseLetter 25 = .ok (.goto 4, 3) := by decide +kernel
theorem dX1_isClauseLetter_28 : decode cX1_isClauseLetter 28 = .ok (.iconst 0, 1) := by decide +kernel
theorem dX1_isClauseLetter_29 : decode cX1_isClauseLetter 29 = .ok (.ireturn, 1) := by decide +kernel
theorem dX1_readClause_0 : decode cX1_readClause 0 = .ok (.aload_n 1, 1) := by decide +kernel
theorem dX1_readClause_1 : decode cX1_readClause 1 = .ok (.bipush 98, 2) := by decide +kernel
theorem dX1_readClause_3 : decode cX1_readClause 3 = .ok (.invokevirtual 50, 3) := by decide +kernel
theorem dX1_readClause_6 : decode cX1_readClause 6 = .ok (.ifCond .eq 9, 3) := by decide +kernel
theorem dX1_readClause_9 : decode cX1_readClause 9 = .ok (.aload_n 0, 1) := by decide +kernel
theorem dX1_readClause_10 : decode cX1_readClause 10 = .ok (.aload_n 1, 1) := by decide +kernel
theorem dX1_readClause_11 : decode cX1_readClause 11 = .ok (.invokevirtual 72, 3) := by decide +kernel
theorem dX1_readClause_14 : decode cX1_readClause 14 = .ok (.ireturn, 1) := by decide +kernel
theorem dX1_readClause_15 : decode cX1_readClause 15 = .ok (.aload_n 1, 1) := by decide +kernel
theorem dX1_readClause_16 : decode cX1_readClause 16 = .ok (.bipush 102, 2) := by decide +kernel
theorem dX1_readClause_18 : decode cX1_readClause 18 = .ok (.invokevirtual 50, 3) := by decide +kernel
theorem dX1_readClause_21 : decode cX1_readClause 21 = .ok (.ifCond .eq 11, 3) := by decide +kernel
theorem dX1_readClause_24 : decode cX1_readClause 24 = .ok (.aload_n 0, 1) := by decide +kernel
theorem dX1_readClause_25 : decode cX1_readClause 25 = .ok (.aload_n 1, 1) := by decide +kernel
theorem dX1_readClause_26 : decode cX1_readClause 26 = .ok (.iconst 0, 1) := by decide +kernel
theorem dX1_readClause_27 : decode cX1_readClause 27 = .ok (.iconst 0, 1) := by decide +kernel
theorem dX1_readClause_28 : decode cX1_readClause 28 = .ok (.invokevirtual 75, 3) := by decide +kernel
theorem dX1_readClause_31 : decode cX1_readClause 31 = .ok (.ireturn, 1) := by decide +kernel
theorem dX1_readClause_32 : decode cX1_readClause 32 = .ok (.aload_n 1, 1) := by decide +kernel
theorem dX1_readClause_33 : decode cX1_readClause 33 = .ok (.bipush 116, 2) := by decide +kernel
theorem dX1_readClause_35 : decode cX1_readClause 35 = .ok (.invokevirtual 50, 3) := by decide +kernel
theorem dX1_readClause_38 : decode cX1_readClause 38 = .ok (.ifCond .eq 11, 3) := by decide +kernel
theorem dX1_readClause_41 : decode cX1_readClause 41 = .ok (.aload_n 0, 1) := by decide +kernel
theorem dX1_readClause_42 : decode cX1_readClause 42 = .ok (.aload_n 1, 1) := by decide +kernel
theorem dX1_readClause_43 : decode cX1_readClause 43 = .ok (.iconst 0, 1) := by decide +kernel
theorem dX1_readClause_44 : decode cX1_readClause 44 = .ok (.iconst 0, 1) := by decide +kernel
theorem dX1_readClause_45 : decode cX1_readClause 45 = .ok (.invokevirtual 79, 3) := by decide +kernel
theorem dX1_readClause_48 : decode cX1_readClause 48 = .ok (.ireturn, 1) := by decide +kernel
theorem dX1_readClause_49 : decode cX1_readClause 49 = .ok (.aload_n 1, 1) := by decide +kernel
theorem dX1_readClause_50 : decode cX1_readClause 50 = .ok (.bipush 109, 2) := by decide +kernel
theorem dX1_readClause_52 : decode cX1_readClause 52 = .ok (.invokevirtual 50, 3) := by decide +kernel
theorem dX1_readClause_55 : decode cX1_readClause 55 = .ok (.ifCond .eq 9, 3) := by decide +kernel
theorem dX1_readClause_58 : decode cX1_readClause 58 = .ok (.aload_n 0, 1) := by decide +kernel
theorem dX1_readClause_59 : decode cX1_readClause 59 = .ok (.aload_n 1, 1) := by decide +kernel
theorem dX1_readClause_60 : decode cX1_readClause 60 = .ok (.invokevirtual 82, 3) := by decide +kernel
theorem dX1_readClause_63 : decode cX1_readClause 63 = .ok (.ireturn, 1) := by decide +kernel
theorem dX1_readClause_64 : decode cX1_readClause 64 = .ok (.aload_n 1, 1) := by decide +kernel
theorem dX1_readClause_65 : decode cX1_readClause 65 = .ok (.iconst 1, 1) := by decide +kernel
theorem dX1_readClause_66 : decode cX1_readClause 66 = .ok (.invokevirtual 54, 3) := by decide +kernel
theorem dX1_readClause_69 : decode cX1_readClause 69 = .ok (.ireturn, 1) := by decide +kernel
theorem dX1_readBreeds_0 : decode cX1_readBreeds 0 = .ok (.aload_n 1, 1) := by decide +kernel
theorem dX1_readBreeds_1 : decode cX1_readBreeds 1 = .ok (.invokevirtual 85, 3) := by decide +kernel
theorem dX1_readBreeds_4 : decode cX1_readBreeds 4 = .ok (.ifCond .ne 9, 3) := by decide +kernel
theorem dX1_readBreeds_7 : decode cX1_readBreeds 7 = .ok (.aload_n 1, 1) := by decide +kernel
theorem dX1_readBreeds_8 : decode cX1_readBreeds 8 = .ok (.iconst 1, 1) := by decide +kernel
theorem dX1_readBreeds_9 : decode cX1_readBreeds 9 = .ok (.invokevirtual 54, 3) := by decide +kernel
theorem dX1_readBreeds_12 : decode cX1_readBreeds 12 = .ok (.ireturn, 1) := by decide +kernel
theorem dX1_readBreeds_13 : decode cX1_readBreeds 13 = .ok (.iconst 0, 1) := by decide +kernel
theorem dX1_readBreeds_14 : decode cX1_readBreeds 14 = .ok (.istore_n 2, 1) := by decide +kernel
theorem dX1_readBreeds_15 : decode cX1_readBreeds 15 = .ok (.iconst 0, 1) := by decide +kernel
theorem dX1_readBreeds_16 : decode cX1_readBreeds 16 = .ok (.istore_n 3, 1) := by decide +kernel
theorem dX1_readBreeds_17 : decode cX1_readBreeds 17 = .ok (.iload_n 3, 1) := by decide +kernel
theorem dX1_readBreeds_18 : decode cX1_readBreeds 18 = .ok (.iconst 4, 1) := by decide +kernel
theorem dX1_readBreeds_19 : decode cX1_readBreeds 19 = .ok (.if_icmp .ge 48, 3) := by decide +kernel
theorem dX1_readBreeds_22 : decode cX1_readBreeds 22 = .ok (.aload_n 1, 1) := by decide +kernel
theorem dX1_readBreeds_23 : decode cX1_readBreeds 23 = .ok (.invokevirtual 85, 3) := by decide +kernel
theorem dX1_readBreeds_26 : decode cX1_readBreeds 26 = .ok (.ifCond .eq 41, 3) := by decide +kernel
theorem dX1_readBreeds_29 : decode cX1_readBreeds 29 = .ok (.aload_n 1, 1) := by decide +kernel
theorem dX1_readBreeds_30 : decode cX1_readBreeds 30 = .ok (.invokevirtual 58, 3) := by decide +kernel
theorem dX1_readBreeds_33 : decode cX1_readBreeds 33 = .ok (.bipush 48, 2) := by decide +kernel
theorem dX1_readBreeds_35 : decode cX1_readBreeds 35 = .ok (.isub, 1) := by decide +kernel
theorem dX1_readBreeds_36 : decode cX1_readBreeds 36 = .ok (.istore 4, 2) := by decide +kernel
theorem dX1_readBreeds_38 : decode cX1_readBreeds 38 = .ok (.iload 4, 2) := by decide +kernel
theorem dX1_readBreeds_40 : decode cX1_readBreeds 40 = .ok (.iconst 4, 1) := by decide +kernel
theorem dX1_readBreeds_41 : decode cX1_readBreeds 41 = .ok (.if_icmp .lt 9, 3) := by decide +kernel
theorem dX1_readBreeds_44 : decode cX1_readBreeds 44 = .ok (.aload_n 1, 1) := by decide +kernel
theorem dX1_readBreeds_45 : decode cX1_readBreeds 45 = .ok (.iconst 2, 1) := by decide +kernel
theorem dX1_readBreeds_46 : decode cX1_readBreeds 46 = .ok (.invokevirtual 54, 3) := by decide +kernel
theorem dX1_readBreeds_49 : decode cX1_readBreeds 49 = .ok (.ireturn, 1) := by decide +kernel
theorem dX1_readBreeds_50 : decode cX1_readBreeds 50 = .ok (.iload_n 2, 1) := by decide +kernel
theorem dX1_readBreeds_51 : decode cX1_readBreeds 51 = .ok (.iconst 1, 1) := by decide +kernel
theorem dX1_readBreeds_52 : decode cX1_readBreeds 52 = .ok (.iload 4, 2) := by decide +kernel
theorem dX1_readBreeds_54 : decode cX1_readBreeds 54 = .ok (.ishl, 1) := by decide +kernel
theorem dX1_readBreeds_55 : decode cX1_readBreeds 55 = .ok (.ior, 1) := by decide +kernel
theorem dX1_readBreeds_56 : decode cX1_readBreeds 56 = .ok (.istore_n 2, 1) := by decide +kernel
theorem dX1_readBreeds_57 : decode cX1_readBreeds 57 = .ok (.aload_n 1, 1) := by decide +kernel
theorem dX1_readBreeds_58 : decode cX1_readBreeds 58 = .ok (.invokevirtual 88, 3) := by decide +kernel
theorem dX1_readBreeds_61 : decode cX1_readBreeds 61 = .ok (.iinc 3 1, 3) := by decide +kernel
theorem dX1_readBreeds_64 : decode cX1_readBreeds 64 = .ok (.goto (-47), 3) := by decide +kernel
theorem dX1_readBreeds_67 : decode cX1_readBreeds 67 = .ok (.aload_n 0, 1) := by decide +kernel
theorem dX1_readBreeds_68 : decode cX1_readBreeds 68 = .ok (.dup, 1) := by decide +kernel
theorem dX1_readBreeds_69 : decode cX1_readBreeds 69 = .ok (.getfield 18, 3) := by decide +kernel
theorem dX1_readBreeds_72 : decode cX1_readBreeds 72 = .ok (.iload_n 2, 1) := by decide +kernel
theorem dX1_readBreeds_73 : decode cX1_readBreeds 73 = .ok (.iand, 1) := by decide +kernel
theorem dX1_readBreeds_74 : decode cX1_readBreeds 74 = .ok (.putfield 18, 3) := by decide +kernel
theorem dX1_readBreeds_77 : decode cX1_readBreeds 77 = .ok (.iconst 0, 1) := by decide +kernel
theorem dX1_readBreeds_78 : decode cX1_readBreeds 78 = .ok (.ireturn, 1) := by decide +kernel
theorem dX1_readMeasure_0 : decode cX1_readMeasure 0 = .ok (.aload_n 1, 1) := by decide +kernel
theorem dX1_readMeasure_1 : decode cX1_readMeasure 1 = .ok (.invokevirtual 85, 3) := by decide +kernel
theorem dX1_readMeasure_4 : decode cX1_readMeasure 4 = .ok (.ifCond .ne 9, 3) := by decide +kernel
theorem dX1_readMeasure_7 : decode cX1_readMeasure 7 = .ok (.aload_n 1, 1) := by decide +kernel
theorem dX1_readMeasure_8 : decode cX1_readMeasure 8 = .ok (.iconst 1, 1) := by decide +kernel
theorem dX1_readMeasure_9 : decode cX1_readMeasure 9 = .ok (.invokevirtual 54, 3) := by decide +kernel
theorem dX1_readMeasure_12 : decode cX1_readMeasure 12 = .ok (.ireturn, 1) := by decide +kernel
theorem dX1_readMeasure_13 : decode cX1_readMeasure 13 = .ok (.aload_n 1, 1) := by decide +kernel
theorem dX1_readMeasure_14 : decode cX1_readMeasure 14 = .ok (.invokevirtual 58, 3) := by decide +kernel
theorem dX1_readMeasure_17 : decode cX1_readMeasure 17 = .ok (.bipush 48, 2) := by decide +kernel
theorem dX1_readMeasure_19 : decode cX1_readMeasure 19 = .ok (.isub, 1) := by decide +kernel
theorem dX1_readMeasure_20 : decode cX1_readMeasure 20 = .ok (.istore_n 2, 1) := by decide +kernel
theorem dX1_readMeasure_21 : decode cX1_readMeasure 21 = .ok (.iload_n 2, 1) := by decide +kernel
theorem dX1_readMeasure_22 : decode cX1_readMeasure 22 = .ok (.iconst 3, 1) := by decide +kernel
theorem dX1_readMeasure_23 : decode cX1_readMeasure 23 = .ok (.if_icmp .lt 9, 3) := by decide +kernel
theorem dX1_readMeasure_26 : decode cX1_readMeasure 26 = .ok (.aload_n 1, 1) := by decide +kernel
theorem dX1_readMeasure_27 : decode cX1_readMeasure 27 = .ok (.iconst 2, 1) := by decide +kernel
theorem dX1_readMeasure_28 : decode cX1_readMeasure 28 = .ok (.invokevirtual 54, 3) := by decide +kernel
theorem dX1_readMeasure_31 : decode cX1_readMeasure 31 = .ok (.ireturn, 1) := by decide +kernel
theorem dX1_readMeasure_32 : decode cX1_readMeasure 32 = .ok (.aload_n 1, 1) := by decide +kernel
theorem dX1_readMeasure_33 : decode cX1_readMeasure 33 = .ok (.invokevirtual 88, 3) := by decide +kernel
theorem dX1_readMeasure_36 : decode cX1_readMeasure 36 = .ok (.aload_n 1, 1) := by decide +kernel
theorem dX1_readMeasure_37 : decode cX1_readMeasure 37 = .ok (.bipush 62, 2) := by decide +kernel
theorem dX1_readMeasure_39 : decode cX1_readMeasure 39 = .ok (.invokevirtual 50, 3) := by decide +kernel
theorem dX1_readMeasure_42 : decode cX1_readMeasure 42 = .ok (.ifCond .eq 13, 3) := by decide +kernel
theorem dX1_readMeasure_45 : decode cX1_readMeasure 45 = .ok (.aload_n 0, 1) := by decide +kernel
theorem dX1_readMeasure_46 : decode cX1_readMeasure 46 = .ok (.aload_n 1, 1) := by decide +kernel
theorem dX1_readMeasure_47 : decode cX1_readMeasure 47 = .ok (.iconst 1, 1) := by decide +kernel
theorem dX1_readMeasure_48 : decode cX1_readMeasure 48 = .ok (.iload_n 2, 1) := by decide +kernel
theorem dX1_readMeasure_49 : decode cX1_readMeasure 49 = .ok (.iadd, 1) := by decide +kernel
theorem dX1_readMeasure_50 : decode cX1_readMeasure 50 = .ok (.iconst 1, 1) := by decide +kernel
theorem dX1_readMeasure_51 : decode cX1_readMeasure 51 = .ok (.invokevirtual 75, 3) := by decide +kernel
theorem dX1_readMeasure_54 : decode cX1_readMeasure 54 = .ok (.ireturn, 1) := by decide +kernel
theorem dX1_readMeasure_55 : decode cX1_readMeasure 55 = .ok (.aload_n 1, 1) := by decide +kernel
theorem dX1_readMeasure_56 : decode cX1_readMeasure 56 = .ok (.bipush 60, 2) := by decide +kernel
theorem dX1_readMeasure_58 : decode cX1_readMeasure 58 = .ok (.invokevirtual 50, 3) := by decide +kernel
theorem dX1_readMeasure_61 : decode cX1_readMeasure 61 = .ok (.ifCond .eq 13, 3) := by decide +kernel
theorem dX1_readMeasure_64 : decode cX1_readMeasure 64 = .ok (.aload_n 0, 1) := by decide +kernel
theorem dX1_readMeasure_65 : decode cX1_readMeasure 65 = .ok (.aload_n 1, 1) := by decide +kernel
theorem dX1_readMeasure_66 : decode cX1_readMeasure 66 = .ok (.iconst 1, 1) := by decide +kernel
theorem dX1_readMeasure_67 : decode cX1_readMeasure 67 = .ok (.iload_n 2, 1) := by decide +kernel
theorem dX1_readMeasure_68 : decode cX1_readMeasure 68 = .ok (.iadd, 1) := by decide +kernel
theorem dX1_readMeasure_69 : decode cX1_readMeasure 69 = .ok (.iconst 1, 1) := by decide +kernel
theorem dX1_readMeasure_70 : decode cX1_readMeasure 70 = .ok (.invokevirtual 79, 3) := by decide +kernel
theorem dX1_readMeasure_73 : decode cX1_readMeasure 73 = .ok (.ireturn, 1) := by decide +kernel
theorem dX1_readMeasure_74 : decode cX1_readMeasure 74 = .ok (.aload_n 1, 1) := by decide +kernel
theorem dX1_readMeasure_75 : decode cX1_readMeasure 75 = .ok (.iconst 1, 1) := by decide +kernel
theorem dX1_readMeasure_76 : decode cX1_readMeasure 76 = .ok (.invokevirtual 54, 3) := by decide +kernel
theorem dX1_readMeasure_79 : decode cX1_readMeasure 79 = .ok (.ireturn, 1) := by decide +kernel
theorem dX1_readLeast_0 : decode cX1_readLeast 0 = .ok (.aload_n 1, 1) := by decide +kernel
theorem dX1_readLeast_1 : decode cX1_readLeast 1 = .ok (.invokevirtual 91, 3) := by decide +kernel
theorem dX1_readLeast_4 : decode cX1_readLeast 4 = .ok (.istore 4, 2) := by decide +kernel
theorem dX1_readLeast_6 : decode cX1_readLeast 6 = .ok (.iload 4, 2) := by decide +kernel
theorem dX1_readLeast_8 : decode cX1_readLeast 8 = .ok (.iconst (-1), 1) := by decide +kernel
theorem dX1_readLeast_9 : decode cX1_readLeast 9 = .ok (.if_icmp .ne 9, 3) := by decide +kernel
theorem dX1_readLeast_12 : decode cX1_readLeast 12 = .ok (.aload_n 1, 1) := by decide +kernel
theorem dX1_readLeast_13 : decode cX1_readLeast 13 = .ok (.iconst 1, 1) := by decide +kernel
theorem dX1_readLeast_14 : decode cX1_readLeast 14 = .ok (.invokevirtual 54, 3) := by decide +kernel
theorem dX1_readLeast_17 : decode cX1_readLeast 17 = .ok (.ireturn, 1) := by decide +kernel
theorem dX1_readLeast_18 : decode cX1_readLeast 18 = .ok (.aload_n 0, 1) := by decide +kernel
theorem dX1_readLeast_19 : decode cX1_readLeast 19 = .ok (.getfield 11, 3) := by decide +kernel
theorem dX1_readLeast_22 : decode cX1_readLeast 22 = .ok (.iload_n 2, 1) := by decide +kernel
theorem dX1_readLeast_23 : decode cX1_readLeast 23 = .ok (.aload_n 0, 1) := by decide +kernel
theorem dX1_readLeast_24 : decode cX1_readLeast 24 = .ok (.getfield 11, 3) := by decide +kernel
theorem dX1_readLeast_27 : decode cX1_readLeast 27 = .ok (.iload_n 2, 1) := by decide +kernel
theorem dX1_readLeast_28 : decode cX1_readLeast 28 = .ok (.iaload, 1) := by decide +kernel
theorem dX1_readLeast_29 : decode cX1_readLeast 29 = .ok (.iload 4, 2) := by decide +kernel
theorem dX1_readLeast_31 : decode cX1_readLeast 31 = .ok (.iload_n 3, 1) := by decide +kernel
theorem dX1_readLeast_32 : decode cX1_readLeast 32 = .ok (.iadd, 1) := by decide +kernel
theorem dX1_readLeast_33 : decode cX1_readLeast 33 = .ok (.invokestatic 94, 3) := by decide +kernel
theorem dX1_readLeast_36 : decode cX1_readLeast 36 = .ok (.iastore, 1) := by decide +kernel
theorem dX1_readLeast_37 : decode cX1_readLeast 37 = .ok (.iconst 0, 1) := by decide +kernel
theorem dX1_readLeast_38 : decode cX1_readLeast 38 = .ok (.ireturn, 1) := by decide +kernel
theorem dX1_readMost_0 : decode cX1_readMost 0 = .ok (.aload_n 1, 1) := by decide +kernel
theorem dX1_readMost_1 : decode cX1_readMost 1 = .ok (.invokevirtual 91, 3) := by decide +kernel
theorem dX1_readMost_4 : decode cX1_readMost 4 = .ok (.istore 4, 2) := by decide +kernel
theorem dX1_readMost_6 : decode cX1_readMost 6 = .ok (.iload 4, 2) := by decide +kernel
theorem dX1_readMost_8 : decode cX1_readMost 8 = .ok (.iconst (-1), 1) := by decide +kernel
theorem dX1_readMost_9 : decode cX1_readMost 9 = .ok (.if_icmp .ne 9, 3) := by decide +kernel
theorem dX1_readMost_12 : decode cX1_readMost 12 = .ok (.aload_n 1, 1) := by decide +kernel
theorem dX1_readMost_13 : decode cX1_readMost 13 = .ok (.iconst 1, 1) := by decide +kernel
theorem dX1_readMost_14 : decode cX1_readMost 14 = .ok (.invokevirtual 54, 3) := by decide +kernel
theorem dX1_readMost_17 : decode cX1_readMost 17 = .ok (.ireturn, 1) := by decide +kernel
theorem dX1_readMost_18 : decode cX1_readMost 18 = .ok (.aload_n 0, 1) := by decide +kernel
theorem dX1_readMost_19 : decode cX1_readMost 19 = .ok (.getfield 15, 3) := by decide +kernel
theorem dX1_readMost_22 : decode cX1_readMost 22 = .ok (.iload_n 2, 1) := by decide +kernel
theorem dX1_readMost_23 : decode cX1_readMost 23 = .ok (.aload_n 0, 1) := by decide +kernel
theorem dX1_readMost_24 : decode cX1_readMost 24 = .ok (.getfield 15, 3) := by decide +kernel
theorem dX1_readMost_27 : decode cX1_readMost 27 = .ok (.iload_n 2, 1) := by decide +kernel
theorem dX1_readMost_28 : decode cX1_readMost 28 = .ok (.iaload, 1) := by decide +kernel
theorem dX1_readMost_29 : decode cX1_readMost 29 = .ok (.iload 4, 2) := by decide +kernel
theorem dX1_readMost_31 : decode cX1_readMost 31 = .ok (.iload_n 3, 1) := by decide +kernel
theorem dX1_readMost_32 : decode cX1_readMost 32 = .ok (.isub, 1) := by decide +kernel
theorem dX1_readMost_33 : decode cX1_readMost 33 = .ok (.invokestatic 100, 3) := by decide +kernel
theorem dX1_readMost_36 : decode cX1_readMost 36 = .ok (.iastore, 1) := by decide +kernel
theorem dX1_readMost_37 : decode cX1_readMost 37 = .ok (.iconst 0, 1) := by decide +kernel
theorem dX1_readMost_38 : decode cX1_readMost 38 = .ok (.ireturn, 1) := by decide +kernel
theorem dX2_init_0 : decode cX2_init 0 = .ok (.aload_n 0, 1) := by decide +kernel
theorem dX2_init_1 : decode cX2_init 1 = .ok (.invokespecial 3, 3) := by decide +kernel
theorem dX2_init_4 : decode cX2_init 4 = .ok (.aload_n 0, 1) := by decide +kernel
theorem dX2_init_5 : decode cX2_init 5 = .ok (.bipush 8, 2) := by decide +kernel
theorem dX2_init_7 : decode cX2_init 7 = .ok (.newarray .int, 2) := by decide +kernel
theorem dX2_init_9 : decode cX2_init 9 = .ok (.putfield 9, 3) := by decide +kernel
theorem dX2_init_12 : decode cX2_init 12 = .ok (.aload_n 0, 1) := by decide +kernel
theorem dX2_init_13 : decode cX2_init 13 = .ok (.bipush 20, 2) := by decide +kernel
theorem dX2_init_15 : decode cX2_init 15 = .ok (.newarray .int, 2) := by decide +kernel
theorem dX2_init_17 : decode cX2_init 17 = .ok (.putfield 15, 3) := by decide +kernel
theorem dX2_init_20 : decode cX2_init 20 = .ok (.aload_n 0, 1) := by decide +kernel
theorem dX2_init_21 : decode cX2_init 21 = .ok (.iconst 0, 1) := by decide +kernel
theorem dX2_init_22 : decode cX2_init 22 = .ok (.putfield 18, 3) := by decide +kernel
theorem dX2_init_25 : decode cX2_init 25 = .ok (.aload_n 0, 1) := by decide +kernel
theorem dX2_init_26 : decode cX2_init 26 = .ok (.bipush 8, 2) := by decide +kernel
theorem dX2_init_28 : decode cX2_init 28 = .ok (.bipush 8, 2) := by decide +kernel
theorem dX2_init_30 : decode cX2_init 30 = .ok (.multianewarray 22 2, 4) := by decide +kernel
theorem dX2_init_34 : decode cX2_init 34 = .ok (.putfield 24, 3) := by decide +kernel
theorem dX2_init_37 : decode cX2_init 37 = .ok (.aload_n 0, 1) := by decide +kernel
theorem dX2_init_38 : decode cX2_init 38 = .ok (.bipush 8, 2) := by decide +kernel
theorem dX2_init_40 : decode cX2_init 40 = .ok (.sipush 256, 3) := by decide +kernel
theorem dX2_init_43 : decode cX2_init 43 = .ok (.multianewarray 22 2, 4) := by decide +kernel
theorem dX2_init_47 : decode cX2_init 47 = .ok (.putfield 27, 3) := by decide +kernel
theorem dX2_init_50 : decode cX2_init 50 = .ok (.aload_n 0, 1) := by decide +kernel
theorem dX2_init_51 : decode cX2_init 51 = .ok (.sipush 256, 3) := by decide +kernel
theorem dX2_init_54 : decode cX2_init 54 = .ok (.newarray .int, 2) := by decide +kernel
theorem dX2_init_56 : decode cX2_init 56 = .ok (.putfield 30, 3) := by decide +kernel
theorem dX2_init_59 : decode cX2_init 59 = .ok (.return_, 1) := by decide +kernel
theorem dX2_join_0 : decode cX2_join 0 = .ok (.aload_n 0, 1) := by decide +kernel
theorem dX2_join_1 : decode cX2_join 1 = .ok (.aload_n 1, 1) := by decide +kernel
theorem dX2_join_2 : decode cX2_join 2 = .ok (.invokevirtual 33, 3) := by decide +kernel
theorem dX2_join_5 : decode cX2_join 5 = .ok (.aload_n 0, 1) := by decide +kernel
theorem dX2_join_6 : decode cX2_join 6 = .ok (.invokevirtual 37, 3) := by decide +kernel
theorem dX2_join_9 : decode cX2_join 9 = .ok (.aload_n 0, 1) := by decide +kernel
theorem dX2_join_10 : decode cX2_join 10 = .ok (.invokevirtual 40, 3) := by decide +kernel
theorem dX2_join_13 : decode cX2_join 13 = .ok (.iconst 1, 1) := by decide +kernel
theorem dX2_join_14 : decode cX2_join 14 = .ok (.aload_n 0, 1) := by decide +kernel
theorem dX2_join_15 : decode cX2_join 15 = .ok (.getfield 18, 3) := by decide +kernel
theorem dX2_join_18 : decode cX2_join 18 = .ok (.ishl, 1) := by decide +kernel
theorem dX2_join_19 : decode cX2_join 19 = .ok (.iconst 1, 1) := by decide +kernel
theorem dX2_join_20 : decode cX2_join 20 = .ok (.isub, 1) := by decide +kernel
theorem dX2_join_21 : decode cX2_join 21 = .ok (.istore_n 2, 1) := by decide +kernel
theorem dX2_join_22 : decode cX2_join 22 = .ok (.aload_n 1, 1) := by decide +kernel
theorem dX2_join_23 : decode cX2_join 23 = .ok (.aload_n 0, 1) := by decide +kernel
theorem dX2_join_24 : decode cX2_join 24 = .ok (.getfield 30, 3) := by decide +kernel
theorem dX2_join_27 : decode cX2_join 27 = .ok (.iload_n 2, 1) := by decide +kernel
theorem dX2_join_28 : decode cX2_join 28 = .ok (.iaload, 1) := by decide +kernel
theorem dX2_join_29 : decode cX2_join 29 = .ok (.putfield 43, 3) := by decide +kernel
theorem dX2_join_32 : decode cX2_join 32 = .ok (.iconst 0, 1) := by decide +kernel
theorem dX2_join_33 : decode cX2_join 33 = .ok (.istore_n 3, 1) := by decide +kernel
theorem dX2_join_34 : decode cX2_join 34 = .ok (.iload_n 3, 1) := by decide +kernel
theorem dX2_join_35 : decode cX2_join 35 = .ok (.aload_n 0, 1) := by decide +kernel
theorem dX2_join_36 : decode cX2_join 36 = .ok (.getfield 18, 3) := by decide +kernel
theorem dX2_join_39 : decode cX2_join 39 = .ok (.if_icmp .ge 38, 3) := by decide +kernel
theorem dX2_join_42 : decode cX2_join 42 = .ok (.aload_n 0, 1) := by decide +kernel
theorem dX2_join_43 : decode cX2_join 43 = .ok (.iload_n 2, 1) := by decide +kernel
theorem dX2_join_44 : decode cX2_join 44 = .ok (.invokevirtual 48, 3) := by decide +kernel
theorem dX2_join_47 : decode cX2_join 47 = .ok (.istore 4, 2) := by decide +kernel
theorem dX2_join_49 : decode cX2_join 49 = .ok (.aload_n 1, 1) := by decide +kernel
theorem dX2_join_50 : decode cX2_join 50 = .ok (.getfield 52, 3) := by decide +kernel
theorem dX2_join_53 : decode cX2_join 53 = .ok (.iload_n 3, 1) := by decide +kernel
theorem dX2_join_54 : decode cX2_join 54 = .ok (.aload_n 0, 1) := by decide +kernel
theorem dX2_join_55 : decode cX2_join 55 = .ok (.getfield 9, 3) := by decide +kernel
theorem dX2_join_58 : decode cX2_join 58 = .ok (.iload 4, 2) := by decide +kernel
theorem dX2_join_60 : decode cX2_join 60 = .ok (.iaload, 1) := by decide +kernel
theorem dX2_join_61 : decode cX2_join 61 = .ok (.iastore, 1) := by decide +kernel
theorem dX2_join_62 : decode cX2_join 62 = .ok (.iload_n 2, 1) := by decide +kernel
theorem dX2_join_63 : decode cX2_join 63 = .ok (.iconst 1, 1) := by decide +kernel
theorem dX2_join_64 : decode cX2_join 64 = .ok (.iload 4, 2) := by decide +kernel
theorem dX2_join_66 : decode cX2_join 66 = .ok (.ishl, 1) := by decide +kernel
theorem dX2_join_67 : decode cX2_join 67 = .ok (.iconst (-1), 1) := by decide +kernel
theorem dX2_join_68 : decode cX2_join 68 = .ok (.ixor, 1) := by decide +kernel
theorem dX2_join_69 : decode cX2_join 69 = .ok (.iand, 1) := by decide +kernel
theorem dX2_join_70 : decode cX2_join 70 = .ok (.istore_n 2, 1) := by decide +kernel
theorem dX2_join_71 : decode cX2_join 71 = .ok (.iinc 3 1, 3) := by decide +kernel
theorem dX2_join_74 : decode cX2_join 74 = .ok (.goto (-40), 3) := by decide +kernel
theorem dX2_join_77 : decode cX2_join 77 = .ok (.return_, 1) := by decide +kernel
theorem dX2_findInRing_0 : decode cX2_findInRing 0 = .ok (.aload_n 0, 1) := by decide +kernel
theorem dX2_findInRing_1 : decode cX2_findInRing 1 = .ok (.aload_n 1, 1) := by decide +kernel
theorem dX2_findInRing_2 : decode cX2_findInRing 2 = .ok (.invokevirtual 33, 3) := by decide +kernel
theorem dX2_findInRing_5 : decode cX2_findInRing 5 = .ok (.iconst 0, 1) := by decide +kernel
theorem dX2_findInRing_6 : decode cX2_findInRing 6 = .ok (.istore_n 3, 1) := by decide +kernel
theorem dX2_findInRing_7 : decode cX2_findInRing 7 = .ok (.iload_n 3, 1) := by decide +kernel
theorem dX2_findInRing_8 : decode cX2_findInRing 8 = .ok (.aload_n 0, 1) := by decide +kernel
theorem dX2_findInRing_9 : decode cX2_findInRing 9 = .ok (.getfield 18, 3) := by decide +kernel
theorem dX2_findInRing_12 : decode cX2_findInRing 12 = .ok (.if_icmp .ge 102, 3) := by decide +kernel
theorem dX2_findInRing_15 : decode cX2_findInRing 15 = .ok (.iconst 0, 1) := by decide +kernel
theorem dX2_findInRing_16 : decode cX2_findInRing 16 = .ok (.istore 4, 2) := by decide +kernel
theorem dX2_findInRing_18 : decode cX2_findInRing 18 = .ok (.iload 4, 2) := by decide +kernel
theorem dX2_findInRing_20 : decode cX2_findInRing 20 = .ok (.aload_n 0, 1) := by decide +kernel
theorem dX2_findInRing_21 : decode cX2_findInRing 21 = .ok (.getfield 18, 3) := by decide +kernel
theorem dX2_findInRing_24 : decode cX2_findInRing 24 = .ok (.if_icmp .ge 84, 3) := by decide +kernel
theorem dX2_findInRing_27 : decode cX2_findInRing 27 = .ok (.iconst 0, 1) := by decide +kernel
theorem dX2_findInRing_28 : decode cX2_findInRing 28 = .ok (.istore 5, 2) := by decide +kernel
theorem dX2_findInRing_30 : decode cX2_findInRing 30 = .ok (.iload 5, 2) := by decide +kernel
theorem dX2_findInRing_32 : decode cX2_findInRing 32 = .ok (.aload_n 0, 1) := by decide +kernel
theorem dX2_findInRing_33 : decode cX2_findInRing 33 = .ok (.getfield 18, 3) := by decide +kernel
theorem dX2_findInRing_36 : decode cX2_findInRing 36 = .ok (.if_icmp .ge 66, 3) := by decide +kernel
theorem dX2_findInRing_39 : decode cX2_findInRing 39 = .ok (.aload_n 0, 1) := by decide +kernel
theorem dX2_findInRing_40 : decode cX2_findInRing 40 = .ok (.iload_n 3, 1) := by decide +kernel
theorem dX2_findInRing_41 : decode cX2_findInRing 41 = .ok (.iload 4, 2) := by decide +kernel
theorem dX2_findInRing_43 : decode cX2_findInRing 43 = .ok (.invokevirtual 55, 3) := by decide +kernel
theorem dX2_findInRing_46 : decode cX2_findInRing 46 = .ok (.ifCond .eq 56, 3) := by decide +kernel
theorem dX2_findInRing_49 : decode cX2_findInRing 49 = .ok (.aload_n 0, 1) := by decide +kernel
theorem dX2_findInRing_50 : decode cX2_findInRing 50 = .ok (.iload 4, 2) := by decide +kernel
theorem dX2_findInRing_52 : decode cX2_findInRing 52 = .ok (.iload 5, 2) := by decide +kernel
theorem dX2_findInRing_54 : decode cX2_findInRing 54 = .ok (.invokevirtual 55, 3) := by decide +kernel
theorem dX2_findInRing_57 : decode cX2_findInRing 57 = .ok (.ifCond .eq 39, 3) := by decide +kernel
theorem dX2_findInRing_60 : decode cX2_findInRing 60 = .ok (.aload_n 0, 1) := by decide +kernel
theorem dX2_findInRing_61 : decode cX2_findInRing 61 = .ok (.iload 5, 2) := by decide +kernel
theorem dX2_findInRing_63 : decode cX2_findInRing 63 = .ok (.iload_n 3, 1) := by decide +kernel
theorem dX2_findInRing_64 : decode cX2_findInRing 64 = .ok (.invokevirtual 55, 3) := by decide +kernel
theorem dX2_findInRing_67 : decode cX2_findInRing 67 = .ok (.ifCond .eq 29, 3) := by decide +kernel
theorem dX2_findInRing_70 : decode cX2_findInRing 70 = .ok (.aload_n 0, 1) := by decide +kernel
theorem dX2_findInRing_71 : decode cX2_findInRing 71 = .ok (.getfield 9, 3) := by decide +kernel
theorem dX2_findInRing_74 : decode cX2_findInRing 74 = .ok (.iload_n 2, 1) := by decide +kernel
theorem dX2_findInRing_75 : decode cX2_findInRing 75 = .ok (.ifCond .ne 7, 3) := by decide +kernel
theorem dX2_findInRing_78 : decode cX2_findInRing 78 = .ok (.iload_n 3, 1) := by decide +kernel
theorem dX2_findInRing_79 : decode cX2_findInRing 79 = .ok (.goto 15, 3) := by decide +kernel
theorem dX2_findInRing_82 : decode cX2_findInRing 82 = .ok (.iload_n 2, 1) := by decide +kernel
theorem dX2_findInRing_83 : decode cX2_findInRing 83 = .ok (.iconst 1, 1) := by decide +kernel
theorem dX2_findInRing_84 : decode cX2_findInRing 84 = .ok (.if_icmp .ne 8, 3) := by decide +kernel
theorem dX2_findInRing_87 : decode cX2_findInRing 87 = .ok (.iload 4, 2) := by decide +kernel
theorem dX2_findInRing_89 : decode cX2_findInRing 89 = .ok (.goto 5, 3) := by decide +kernel
theorem dX2_findInRing_92 : decode cX2_findInRing 92 = .ok (.iload 5, 2) := by decide +kernel
theorem dX2_findInRing_94 : decode cX2_findInRing 94 = .ok (.iaload, 1) := by decide +kernel
theorem dX2_findInRing_95 : decode cX2_findInRing 95 = .ok (.ireturn, 1) := by decide +kernel
theorem dX2_findInRing_96 : decode cX2_findInRing 96 = .ok (.iinc 5 1, 3) := by decide +kernel
theorem dX2_findInRing_99 : decode cX2_findInRing 99 = .ok (.goto (-69), 3) := by decide +kernel
theorem dX2_findInRing_102 : decode cX2_findInRing 102 = .ok (.iinc 4 1, 3) := by decide +kernel
theorem dX2_findInRing_105 : decode cX2_findInRing 105 = .ok (.goto (-87), 3) := by decide +kernel
theorem dX2_findInRing_108 : decode cX2_findInRing 108 = .ok (.iinc 3 1, 3) := by decide +kernel
theorem dX2_findInRing_111 : decode cX2_findInRing 111 = .ok (.goto (-104), 3) := by decide +kernel
theorem dX2_findInRing_114 : decode cX2_findInRing 114 = .ok (.iconst (-1), 1) := by decide +kernel
theorem dX2_findInRing_115 : decode cX2_findInRing 115 = .ok (.ireturn, 1) := by decide +kernel
theorem dX2_beats_0 : decode cX2_beats 0 = .ok (.aload_n 0, 1) := by decide +kernel
theorem dX2_beats_1 : decode cX2_beats 1 = .ok (.getfield 24, 3) := by decide +kernel
theorem dX2_beats_4 : decode cX2_beats 4 = .ok (.iload_n 1, 1) := by decide +kernel
theorem dX2_beats_5 : decode cX2_beats 5 = .ok (.aaload, 1) := by decide +kernel
theorem dX2_beats_6 : decode cX2_beats 6 = .ok (.iload_n 2, 1) := by decide +kernel
theorem dX2_beats_7 : decode cX2_beats 7 = .ok (.iaload, 1) := by decide +kernel
theorem dX2_beats_8 : decode cX2_beats 8 = .ok (.aload_n 0, 1) := by decide +kernel
theorem dX2_beats_9 : decode cX2_beats 9 = .ok (.getfield 24, 3) := by decide +kernel
theorem dX2_beats_12 : decode cX2_beats 12 = .ok (.iload_n 2, 1) := by decide +kernel
theorem dX2_beats_13 : decode cX2_beats 13 = .ok (.aaload, 1) := by decide +kernel
theorem dX2_beats_14 : decode cX2_beats 14 = .ok (.iload_n 1, 1) := by decide +kernel
theorem dX2_beats_15 : decode cX2_beats 15 = .ok (.iaload, 1) := by decide +kernel
theorem dX2_beats_16 : decode cX2_beats 16 = .ok (.if_icmp .le 7, 3) := by decide +kernel
theorem dX2_beats_19 : decode cX2_beats 19 = .ok (.iconst 1, 1) := by decide +kernel
theorem dX2_beats_20 : decode cX2_beats 20 = .ok (.goto 4, 3) := by decide +kernel
theorem dX2_beats_23 : decode cX2_beats 23 = .ok (.iconst 0, 1) := by decide +kernel
theorem dX2_beats_24 : decode cX2_beats 24 = .ok (.ireturn, 1) := by decide +kernel
theorem dX2_tally_0 : decode cX2_tally 0 = .ok (.aload_n 0, 1) := by decide +kernel
theorem dX2_tally_1 : decode cX2_tally 1 = .ok (.iconst 0, 1) := by decide +kernel
theorem dX2_tally_2 : decode cX2_tally 2 = .ok (.putfield 18, 3) := by decide +kernel
theorem dX2_tally_5 : decode cX2_tally 5 = .ok (.iconst 0, 1) := by decide +kernel
theorem dX2_tally_6 : decode cX2_tally 6 = .ok (.istore_n 2, 1) := by decide +kernel
theorem dX2_tally_7 : decode cX2_tally 7 = .ok (.iload_n 2, 1) := by decide +kernel
theorem dX2_tally_8 : decode cX2_tally 8 = .ok (.bipush 20, 2) := by decide +kernel
theorem dX2_tally_10 : decode cX2_tally 10 = .ok (.if_icmp .ge 63, 3) := by decide +kernel
theorem dX2_tally_13 : decode cX2_tally 13 = .ok (.aload_n 0, 1) := by decide +kernel
theorem dX2_tally_14 : decode cX2_tally 14 = .ok (.getfield 15, 3) := by decide +kernel
theorem dX2_tally_17 : decode cX2_tally 17 = .ok (.iload_n 2, 1) := by decide +kernel
theorem dX2_tally_18 : decode cX2_tally 18 = .ok (.iconst (-1), 1) := by decide +kernel
theorem dX2_tally_19 : decode cX2_tally 19 = .ok (.iastore, 1) := by decide +kernel
theorem dX2_tally_20 : decode cX2_tally 20 = .ok (.aload_n 1, 1) := by decide +kernel
theorem dX2_tally_21 : decode cX2_tally 21 = .ok (.iload_n 2, 1) := by decide +kernel
theorem dX2_tally_22 : decode cX2_tally 22 = .ok (.invokevirtual 59, 3) := by decide +kernel
theorem dX2_tally_25 : decode cX2_tally 25 = .ok (.ifCond .eq 42, 3) := by decide +kernel
theorem dX2_tally_28 : decode cX2_tally 28 = .ok (.aload_n 0, 1) := by decide +kernel
theorem dX2_tally_29 : decode cX2_tally 29 = .ok (.getfield 18, 3) := by decide +kernel
theorem dX2_tally_32 : decode cX2_tally 32 = .ok (.bipush 8, 2) := by decide +kernel
theorem dX2_tally_34 : decode cX2_tally 34 = .ok (.if_icmp .ge 33, 3) := by decide +kernel
theorem dX2_tally_37 : decode cX2_tally 37 = .ok (.aload_n 0, 1) := by decide +kernel
theorem dX2_tally_38 : decode cX2_tally 38 = .ok (.getfield 9, 3) := by decide +kernel
theorem dX2_tally_41 : decode cX2_tally 41 = .ok (.aload_n 0, 1) := by decide +kernel
theorem dX2_tally_42 : decode cX2_tally 42 = .ok (.getfield 18, 3) := by decide +kernel
theorem dX2_tally_45 : decode cX2_tally 45 = .ok (.iload_n 2, 1) := by decide +kernel
theorem dX2_tally_46 : decode cX2_tally 46 = .ok (.iastore, 1) := by decide +kernel
theorem dX2_tally_47 : decode cX2_tally 47 = .ok (.aload_n 0, 1) := by decide +kernel
theorem dX2_tally_48 : decode cX2_tally 48 = .ok (.getfield 15, 3) := by decide +kernel
theorem dX2_tally_51 : decode cX2_tally 51 = .ok (.iload_n 2, 1) := by decide +kernel
theorem dX2_tally_52 : decode cX2_tally 52 = .ok (.aload_n 0, 1) := by decide +kernel
theorem dX2_tally_53 : decode cX2_tally 53 = .ok (.getfield 18, 3) := by decide +kernel
theorem dX2_tally_56 : decode cX2_tally 56 = .ok (.iastore, 1) := by decide +kernel
theorem dX2_tally_57 : decode cX2_tally 57 = .ok (.aload_n 0, 1) := by decide +kernel
theorem dX2_tally_58 : decode cX2_tally 58 = .ok (.dup, 1) := by decide +kernel
theorem dX2_tally_59 : decode cX2_tally 59 = .ok (.getfield 18, 3) := by decide +kernel
theorem dX2_tally_62 : decode cX2_tally 62 = .ok (.iconst 1, 1) := by decide +kernel
theorem dX2_tally_63 : decode cX2_tally 63 = .ok (.iadd, 1) := by decide +kernel
theorem dX2_tally_64 : decode cX2_tally 64 = .ok (.putfield 18, 3) := by decide +kernel
theorem dX2_tally_67 : decode cX2_tally 67 = .ok (.iinc 2 1, 3) := by decide +kernel
theorem dX2_tally_70 : decode cX2_tally 70 = .ok (.goto (-63), 3) := by decide +kernel
theorem dX2_tally_73 : decode cX2_tally 73 = .ok (.iconst 0, 1) := by decide +kernel
theorem dX2_tally_74 : decode cX2_tally 74 = .ok (.istore_n 2, 1) := by decide +kernel
theorem dX2_tally_75 : decode cX2_tally 75 = .ok (.iload_n 2, 1) := by decide +kernel
theorem dX2_tally_76 : decode cX2_tally 76 = .ok (.aload_n 0, 1) := by decide +kernel
theorem dX2_tally_77 : decode cX2_tally 77 = .ok (.getfield 18, 3) := by decide +kernel
theorem dX2_tally_80 : decode cX2_tally 80 = .ok (.if_icmp .ge 19, 3) := by decide +kernel
theorem dX2_tally_83 : decode cX2_tally 83 = .ok (.aload_n 0, 1) := by decide +kernel
theorem dX2_tally_84 : decode cX2_tally 84 = .ok (.getfield 24, 3) := by decide +kernel
theorem dX2_tally_87 : decode cX2_tally 87 = .ok (.iload_n 2, 1) := by decide +kernel
theorem dX2_tally_88 : decode cX2_tally 88 = .ok (.aaload, 1) := by decide +kernel
theorem dX2_tally_89 : decode cX2_tally 89 = .ok (.iconst 0, 1) := by decide +kernel
theorem dX2_tally_90 : decode cX2_tally 90 = .ok (.invokestatic 63, 3) := by decide +kernel
theorem dX2_tally_93 : decode cX2_tally 93 = .ok (.iinc 2 1, 3) := by decide +kernel
theorem dX2_tally_96 : decode cX2_tally 96 = .ok (.goto (-21), 3) := by decide +kernel
theorem dX2_tally_99 : decode cX2_tally 99 = .ok (.iconst 0, 1) := by decide +kernel
theorem dX2_tally_100 : decode cX2_tally 100 = .ok (.istore_n 2, 1) := by decide +kernel
theorem dX2_tally_101 : decode cX2_tally 101 = .ok (.iload_n 2, 1) := by decide +kernel
theorem dX2_tally_102 : decode cX2_tally 102 = .ok (.bipush 6, 2) := by decide +kernel
theorem dX2_tally_104 : decode cX2_tally 104 = .ok (.if_icmp .ge 25, 3) := by decide +kernel
theorem dX2_tally_107 : decode cX2_tally 107 = .ok (.aload_n 0, 1) := by decide +kernel
theorem dX2_tally_108 : decode cX2_tally 108 = .ok (.aload_n 1, 1) := by decide +kernel
theorem dX2_tally_109 : decode cX2_tally 109 = .ok (.getfield 69, 3) := by decide +kernel
theorem dX2_tally_112 : decode cX2_tally 112 = .ok (.iload_n 2, 1) := by decide +kernel
theorem dX2_tally_113 : decode cX2_tally 113 = .ok (.aaload, 1) := by decide +kernel
theorem dX2_tally_114 : decode cX2_tally 114 = .ok (.aload_n 1, 1) := by decide +kernel
theorem dX2_tally_115 : decode cX2_tally 115 = .ok (.getfield 72, 3) := by decide +kernel
theorem dX2_tally_118 : decode cX2_tally 118 = .ok (.iload_n 2, 1) := by decide +kernel
theorem dX2_tally_119 : decode cX2_tally 119 = .ok (.iaload, 1) := by decide +kernel
theorem dX2_tally_120 : decode cX2_tally 120 = .ok (.invokevirtual 75, 3) := by decide +kernel
theorem dX2_tally_123 : decode cX2_tally 123 = .ok (.iinc 2 1, 3) := by decide +kernel
theorem dX2_tally_126 : decode cX2_tally 126 = .ok (.goto (-25), 3) := by decide +kernel
theorem dX2_tally_129 : decode cX2_tally 129 = .ok (.return_, 1) := by decide +kernel
theorem dX2_tallyOrder_0 : decode cX2_tallyOrder 0 = .ok (.iconst 0, 1) := by decide +kernel
theorem dX2_tallyOrder_1 : decode cX2_tallyOrder 1 = .ok (.istore_n 3, 1) := by decide +kernel
theorem dX2_tallyOrder_2 : decode cX2_tallyOrder 2 = .ok (.iload_n 3, 1) := by decide +kernel
theorem dX2_tallyOrder_3 : decode cX2_tallyOrder 3 = .ok (.iload_n 2, 1) := by decide +kernel
theorem dX2_tallyOrder_4 : decode cX2_tallyOrder 4 = .ok (.if_icmp .ge 73, 3) := by decide +kernel
theorem dX2_tallyOrder_7 : decode cX2_tallyOrder 7 = .ok (.aload_n 0, 1) := by decide +kernel
theorem dX2_tallyOrder_8 : decode cX2_tallyOrder 8 = .ok (.getfield 15, 3) := by decide +kernel
theorem dX2_tallyOrder_11 : decode cX2_tallyOrder 11 = .ok (.aload_n 1, 1) := by decide +kernel
theorem dX2_tallyOrder_12 : decode cX2_tallyOrder 12 = .ok (.iload_n 3, 1) := by decide +kernel
theorem dX2_tallyOrder_13 : decode cX2_tallyOrder 13 = .ok (.iaload, 1) := by decide +kernel
theorem dX2_tallyOrder_14 : decode cX2_tallyOrder 14 = .ok (.iaload, 1) := by decide +kernel
theorem dX2_tallyOrder_15 : decode cX2_tallyOrder 15 = .ok (.istore 4, 2) := by decide +kernel
theorem dX2_tallyOrder_17 : decode cX2_tallyOrder 17 = .ok (.iload_n 3, 1) := by decide +kernel
theorem dX2_tallyOrder_18 : decode cX2_tallyOrder 18 = .ok (.iconst 1, 1) := by decide +kernel
theorem dX2_tallyOrder_19 : decode cX2_tallyOrder 19 = .ok (.iadd, 1) := by decide +kernel
theorem dX2_tallyOrder_20 : decode cX2_tallyOrder 20 = .ok (.istore 5, 2) := by decide +kernel
theorem dX2_tallyOrder_22 : decode cX2_tallyOrder 22 = .ok (.iload 5, 2) := by decide +kernel
theorem dX2_tallyOrder_24 : decode cX2_tallyOrder 24 = .ok (.iload_n 2, 1) := by decide +kernel
theorem dX2_tallyOrder_25 : decode cX2_tallyOrder 25 = .ok (.if_icmp .ge 46, 3) := by decide +kernel
theorem dX2_tallyOrder_28 : decode cX2_tallyOrder 28 = .ok (.iload 4, 2) := by decide +kernel
theorem dX2_tallyOrder_30 : decode cX2_tallyOrder 30 = .ok (.iconst (-1), 1) := by decide +kernel
theorem dX2_tallyOrder_31 : decode cX2_tallyOrder 31 = .ok (.if_icmp .eq 40, 3) := by decide +kernel
theorem dX2_tallyOrder_34 : decode cX2_tallyOrder 34 = .ok (.aload_n 0, 1) := by decide +kernel
theorem dX2_tallyOrder_35 : decode cX2_tallyOrder 35 = .ok (.getfield 15, 3) := by decide +kernel
theorem dX2_tallyOrder_38 : decode cX2_tallyOrder 38 = .ok (.aload_n 1, 1) := by decide +kernel
theorem dX2_tallyOrder_39 : decode cX2_tallyOrder 39 = .ok (.iload 5, 2) := by decide +kernel
theorem dX2_tallyOrder_41 : decode cX2_tallyOrder 41 = .ok (.iaload, 1) := by decide +kernel
theorem dX2_tallyOrder_42 : decode cX2_tallyOrder 42 = .ok (.iaload, 1) := by decide +kernel
theorem dX2_tallyOrder_43 : decode cX2_tallyOrder 43 = .ok (.istore 6, 2) := by decide +kernel
theorem dX2_tallyOrder_45 : decode cX2_tallyOrder 45 = .ok (.iload 6, 2) := by decide +kernel
theorem dX2_tallyOrder_47 : decode cX2_tallyOrder 47 = .ok (.iconst (-1), 1) := by decide +kernel
theorem dX2_tallyOrder_48 : decode cX2_tallyOrder 48 = .ok (.if_icmp .eq 17, 3) := by decide +kernel
theorem dX2_tallyOrder_51 : decode cX2_tallyOrder 51 = .ok (.aload_n 0, 1) := by decide +kernel
theorem dX2_tallyOrder_52 : decode cX2_tallyOrder 52 = .ok (.getfield 24, 3) := by decide +kernel
theorem dX2_tallyOrder_55 : decode cX2_tallyOrder 55 = .ok (.iload 4, 2) := by decide +kernel
theorem dX2_tallyOrder_57 : decode cX2_tallyOrder 57 = .ok (.aaload, 1) := by decide +kernel
theorem dX2_tallyOrder_58 : decode cX2_tallyOrder 58 = .ok (.iload 6, 2) := by decide +kernel
theorem dX2_tallyOrder_60 : decode cX2_tallyOrder 60 = .ok (.dup2, 1) := by decide +kernel
theorem dX2_tallyOrder_61 : decode cX2_tallyOrder 61 = .ok (.iaload, 1) := by decide +kernel
theorem dX2_tallyOrder_62 : decode cX2_tallyOrder 62 = .ok (.iconst 1, 1) := by decide +kernel
theorem dX2_tallyOrder_63 : decode cX2_tallyOrder 63 = .ok (.iadd, 1) := by decide +kernel
theorem dX2_tallyOrder_64 : decode cX2_tallyOrder 64 = .ok (.iastore, 1) := by decide +kernel
theorem dX2_tallyOrder_65 : decode cX2_tallyOrder 65 = .ok (.iinc 5 1, 3) := by decide +kernel
theorem dX2_tallyOrder_68 : decode cX2_tallyOrder 68 = .ok (.goto (-46), 3) := by decide +kernel
theorem dX2_tallyOrder_71 : decode cX2_tallyOrder 71 = .ok (.iinc 3 1, 3) := by decide +kernel
theorem dX2_tallyOrder_74 : decode cX2_tallyOrder 74 = .ok (.goto (-72), 3) := by decide +kernel
theorem dX2_tallyOrder_77 : decode cX2_tallyOrder 77 = .ok (.return_, 1) := by decide +kernel
theorem dX2_sumLost_0 : decode cX2_sumLost 0 = .ok (.iconst 0, 1) := by decide +kernel
theorem dX2_sumLost_1 : decode cX2_sumLost 1 = .ok (.istore_n 1, 1) := by decide +kernel
theorem dX2_sumLost_2 : decode cX2_sumLost 2 = .ok (.iload_n 1, 1) := by decide +kernel
theorem dX2_sumLost_3 : decode cX2_sumLost 3 = .ok (.aload_n 0, 1) := by decide +kernel
theorem dX2_sumLost_4 : decode cX2_sumLost 4 = .ok (.getfield 18, 3) := by decide +kernel
theorem dX2_sumLost_7 : decode cX2_sumLost 7 = .ok (.if_icmp .ge 69, 3) := by decide +kernel
theorem dX2_sumLost_10 : decode cX2_sumLost 10 = .ok (.iconst 0, 1) := by decide +kernel
theorem dX2_sumLost_11 : decode cX2_sumLost 11 = .ok (.istore_n 2, 1) := by decide +kernel
theorem dX2_sumLost_12 : decode cX2_sumLost 12 = .ok (.iload_n 2, 1) := by decide +kernel
theorem dX2_sumLost_13 : decode cX2_sumLost 13 = .ok (.aload_n 0, 1) := by decide +kernel
theorem dX2_sumLost_14 : decode cX2_sumLost 14 = .ok (.getfield 18, 3) := by decide +kernel
theorem dX2_sumLost_17 : decode cX2_sumLost 17 = .ok (.if_icmp .ge 53, 3) := by decide +kernel
theorem dX2_sumLost_20 : decode cX2_sumLost 20 = .ok (.iconst 0, 1) := by decide +kernel
theorem dX2_sumLost_21 : decode cX2_sumLost 21 = .ok (.istore_n 3, 1) := by decide +kernel
theorem dX2_sumLost_22 : decode cX2_sumLost 22 = .ok (.iload_n 3, 1) := by decide +kernel
theorem dX2_sumLost_23 : decode cX2_sumLost 23 = .ok (.iconst 1, 1) := by decide +kernel
theorem dX2_sumLost_24 : decode cX2_sumLost 24 = .ok (.iload_n 2, 1) := by decide +kernel
theorem dX2_sumLost_25 : decode cX2_sumLost 25 = .ok (.ishl, 1) := by decide +kernel
theorem dX2_sumLost_26 : decode cX2_sumLost 26 = .ok (.if_icmp .ge 38, 3) := by decide +kernel
theorem dX2_sumLost_29 : decode cX2_sumLost 29 = .ok (.aload_n 0, 1) := by decide +kernel
theorem dX2_sumLost_30 : decode cX2_sumLost 30 = .ok (.getfield 27, 3) := by decide +kernel
theorem dX2_sumLost_33 : decode cX2_sumLost 33 = .ok (.iload_n 1, 1) := by decide +kernel
theorem dX2_sumLost_34 : decode cX2_sumLost 34 = .ok (.aaload, 1) := by decide +kernel
theorem dX2_sumLost_35 : decode cX2_sumLost 35 = .ok (.iload_n 3, 1) := by decide +kernel
theorem dX2_sumLost_36 : decode cX2_sumLost 36 = .ok (.iconst 1, 1) := by decide +kernel
theorem dX2_sumLost_37 : decode cX2_sumLost 37 = .ok (.iload_n 2, 1) := by decide +kernel
theorem dX2_sumLost_38 : decode cX2_sumLost 38 = .ok (.ishl, 1) := by decide +kernel
theorem dX2_sumLost_39 : decode cX2_sumLost 39 = .ok (.ior, 1) := by decide +kernel
theorem dX2_sumLost_40 : decode cX2_sumLost 40 = .ok (.aload_n 0, 1) := by decide +kernel
theorem dX2_sumLost_41 : decode cX2_sumLost 41 = .ok (.getfield 27, 3) := by decide +kernel
theorem dX2_sumLost_44 : decode cX2_sumLost 44 = .ok (.iload_n 1, 1) := by decide +kernel
theorem dX2_sumLost_45 : decode cX2_sumLost 45 = .ok (.aaload, 1) := by decide +kernel
theorem dX2_sumLost_46 : decode cX2_sumLost 46 = .ok (.iload_n 3, 1) := by decide +kernel
theorem dX2_sumLost_47 : decode cX2_sumLost 47 = .ok (.iaload, 1) := by decide +kernel
theorem dX2_sumLost_48 : decode cX2_sumLost 48 = .ok (.aload_n 0, 1) := by decide +kernel
theorem dX2_sumLost_49 : decode cX2_sumLost 49 = .ok (.getfield 24, 3) := by decide +kernel
theorem dX2_sumLost_52 : decode cX2_sumLost 52 = .ok (.iload_n 2, 1) := by decide +kernel
theorem dX2_sumLost_53 : decode cX2_sumLost 53 = .ok (.aaload, 1) := by decide +kernel
theorem dX2_sumLost_54 : decode cX2_sumLost 54 = .ok (.iload_n 1, 1) := by decide +kernel
theorem dX2_sumLost_55 : decode cX2_sumLost 55 = .ok (.iaload, 1) := by decide +kernel
theorem dX2_sumLost_56 : decode cX2_sumLost 56 = .ok (.iadd, 1) := by decide +kernel
theorem dX2_sumLost_57 : decode cX2_sumLost 57 = .ok (.iastore, 1) := by decide +kernel
theorem dX2_sumLost_58 : decode cX2_sumLost 58 = .ok (.iinc 3 1, 3) := by decide +kernel
theorem dX2_sumLost_61 : decode cX2_sumLost 61 = .ok (.goto (-39), 3) := by decide +kernel
theorem dX2_sumLost_64 : decode cX2_sumLost 64 = .ok (.iinc 2 1, 3) := by decide +kernel
theorem dX2_sumLost_67 : decode cX2_sumLost 67 = .ok (.goto (-55), 3) := by decide +kernel
theorem dX2_sumLost_70 : decode cX2_sumLost 70 = .ok (.iinc 1 1, 3) := by decide +kernel
theorem dX2_sumLost_73 : decode cX2_sumLost 73 = .ok (.goto (-71), 3) := by decide +kernel
theorem dX2_sumLost_76 : decode cX2_sumLost 76 = .ok (.return_, 1) := by decide +kernel
theorem dX2_findFewest_0 : decode cX2_findFewest 0 = .ok (.iconst 1, 1) := by decide +kernel
theorem dX2_findFewest_1 : decode cX2_findFewest 1 = .ok (.istore_n 1, 1) := by decide +kernel
theorem dX2_findFewest_2 : decode cX2_findFewest 2 = .ok (.iload_n 1, 1) := by decide +kernel
theorem dX2_findFewest_3 : decode cX2_findFewest 3 = .ok (.iconst 1, 1) := by decide +kernel
theorem dX2_findFewest_4 : decode cX2_findFewest 4 = .ok (.aload_n 0, 1) := by decide +kernel
theorem dX2_findFewest_5 : decode cX2_findFewest 5 = .ok (.getfield 18, 3) := by decide +kernel
theorem dX2_findFewest_8 : decode cX2_findFewest 8 = .ok (.ishl, 1) := by decide +kernel
theorem dX2_findFewest_9 : decode cX2_findFewest 9 = .ok (.if_icmp .ge 55, 3) := by decide +kernel
theorem dX2_findFewest_12 : decode cX2_findFewest 12 = .ok (.sipush 384, 3) := by decide +kernel
theorem dX2_findFewest_15 : decode cX2_findFewest 15 = .ok (.istore_n 2, 1) := by decide +kernel
theorem dX2_findFewest_16 : decode cX2_findFewest 16 = .ok (.iconst 0, 1) := by decide +kernel
theorem dX2_findFewest_17 : decode cX2_findFewest 17 = .ok (.istore_n 3, 1) := by decide +kernel
theorem dX2_findFewest_18 : decode cX2_findFewest 18 = .ok (.iload_n 3, 1) := by decide +kernel
theorem dX2_findFewest_19 : decode cX2_findFewest 19 = .ok (.aload_n 0, 1) := by decide +kernel
theorem dX2_findFewest_20 : decode cX2_findFewest 20 = .ok (.getfield 18, 3) := by decide +kernel
theorem dX2_findFewest_23 : decode cX2_findFewest 23 = .ok (.if_icmp .ge 28, 3) := by decide +kernel
theorem dX2_findFewest_26 : decode cX2_findFewest 26 = .ok (.iload_n 1, 1) := by decide +kernel
theorem dX2_findFewest_27 : decode cX2_findFewest 27 = .ok (.iconst 1, 1) := by decide +kernel
theorem dX2_findFewest_28 : decode cX2_findFewest 28 = .ok (.iload_n 3, 1) := by decide +kernel
theorem dX2_findFewest_29 : decode cX2_findFewest 29 = .ok (.ishl, 1) := by decide +kernel
theorem dX2_findFewest_30 : decode cX2_findFewest 30 = .ok (.iand, 1) := by decide +kernel
theorem dX2_findFewest_31 : decode cX2_findFewest 31 = .ok (.ifCond .eq 14, 3) := by decide +kernel
theorem dX2_findFewest_34 : decode cX2_findFewest 34 = .ok (.iload_n 2, 1) := by decide +kernel
theorem dX2_findFewest_35 : decode cX2_findFewest 35 = .ok (.aload_n 0, 1) := by decide +kernel
theorem dX2_findFewest_36 : decode cX2_findFewest 36 = .ok (.iload_n 1, 1) := by decide +kernel
theorem dX2_findFewest_37 : decode cX2_findFewest 37 = .ok (.iload_n 3, 1) := by decide +kernel
theorem dX2_findFewest_38 : decode cX2_findFewest 38 = .ok (.invokevirtual 78, 3) := by decide +kernel
theorem dX2_findFewest_41 : decode cX2_findFewest 41 = .ok (.invokestatic 82, 3) := by decide +kernel
theorem dX2_findFewest_44 : decode cX2_findFewest 44 = .ok (.istore_n 2, 1) := by decide +kernel
theorem dX2_findFewest_45 : decode cX2_findFewest 45 = .ok (.iinc 3 1, 3) := by decide +kernel
theorem dX2_findFewest_48 : decode cX2_findFewest 48 = .ok (.goto (-30), 3) := by decide +kernel
theorem dX2_findFewest_51 : decode cX2_findFewest 51 = .ok (.aload_n 0, 1) := by decide +kernel
theorem dX2_findFewest_52 : decode cX2_findFewest 52 = .ok (.getfield 30, 3) := by decide +kernel
theorem dX2_findFewest_55 : decode cX2_findFewest 55 = .ok (.iload_n 1, 1) := by decide +kernel
theorem dX2_findFewest_56 : decode cX2_findFewest 56 = .ok (.iload_n 2, 1) := by decide +kernel
theorem dX2_findFewest_57 : decode cX2_findFewest 57 = .ok (.iastore, 1) := by decide +kernel
theorem dX2_findFewest_58 : decode cX2_findFewest 58 = .ok (.iinc 1 1, 3) := by decide +kernel
theorem dX2_findFewest_61 : decode cX2_findFewest 61 = .ok (.goto (-59), 3) := by decide +kernel
theorem dX2_findFewest_64 : decode cX2_findFewest 64 = .ok (.return_, 1) := by decide +kernel
theorem dX2_swapsWithFirst_0 : decode cX2_swapsWithFirst 0 = .ok (.aload_n 0, 1) := by decide +kernel
theorem dX2_swapsWithFirst_1 : decode cX2_swapsWithFirst 1 = .ok (.getfield 27, 3) := by decide +kernel
theorem dX2_swapsWithFirst_4 : decode cX2_swapsWithFirst 4 = .ok (.iload_n 2, 1) := by decide +kernel
theorem dX2_swapsWithFirst_5 : decode cX2_swapsWithFirst 5 = .ok (.aaload, 1) := by decide +kernel
theorem dX2_swapsWithFirst_6 : decode cX2_swapsWithFirst 6 = .ok (.iload_n 1, 1) := by decide +kernel
theorem dX2_swapsWithFirst_7 : decode cX2_swapsWithFirst 7 = .ok (.iaload, 1) := by decide +kernel
theorem dX2_swapsWithFirst_8 : decode cX2_swapsWithFirst 8 = .ok (.aload_n 0, 1) := by decide +kernel
theorem dX2_swapsWithFirst_9 : decode cX2_swapsWithFirst 9 = .ok (.getfield 30, 3) := by decide +kernel
theorem dX2_swapsWithFirst_12 : decode cX2_swapsWithFirst 12 = .ok (.iload_n 1, 1) := by decide +kernel
theorem dX2_swapsWithFirst_13 : decode cX2_swapsWithFirst 13 = .ok (.iconst 1, 1) := by decide +kernel
theorem dX2_swapsWithFirst_14 : decode cX2_swapsWithFirst 14 = .ok (.iload_n 2, 1) := by decide +kernel
theorem dX2_swapsWithFirst_15 : decode cX2_swapsWithFirst 15 = .ok (.ishl, 1) := by decide +kernel
theorem dX2_swapsWithFirst_16 : decode cX2_swapsWithFirst 16 = .ok (.iconst (-1), 1) := by decide +kernel
theorem dX2_swapsWithFirst_17 : decode cX2_swapsWithFirst 17 = .ok (.ixor, 1) := by decide +kernel
theorem dX2_swapsWithFirst_18 : decode cX2_swapsWithFirst 18 = .ok (.iand, 1) := by decide +kernel
theorem dX2_swapsWithFirst_19 : decode cX2_swapsWithFirst 19 = .ok (.iaload, 1) := by decide +kernel
theorem dX2_swapsWithFirst_20 : decode cX2_swapsWithFirst 20 = .ok (.iadd, 1) := by decide +kernel
theorem dX2_swapsWithFirst_21 : decode cX2_swapsWithFirst 21 = .ok (.ireturn, 1) := by decide +kernel
theorem dX2_leastFirst_0 : decode cX2_leastFirst 0 = .ok (.iconst 0, 1) := by decide +kernel
theorem dX2_leastFirst_1 : decode cX2_leastFirst 1 = .ok (.istore_n 2, 1) := by decide +kernel
theorem dX2_leastFirst_2 : decode cX2_leastFirst 2 = .ok (.iload_n 2, 1) := by decide +kernel
theorem dX2_leastFirst_3 : decode cX2_leastFirst 3 = .ok (.aload_n 0, 1) := by decide +kernel
theorem dX2_leastFirst_4 : decode cX2_leastFirst 4 = .ok (.getfield 18, 3) := by decide +kernel
theorem dX2_leastFirst_7 : decode cX2_leastFirst 7 = .ok (.if_icmp .ge 34, 3) := by decide +kernel
theorem dX2_leastFirst_10 : decode cX2_leastFirst 10 = .ok (.iload_n 1, 1) := by decide +kernel
theorem dX2_leastFirst_11 : decode cX2_leastFirst 11 = .ok (.iconst 1, 1) := by decide +kernel
theorem dX2_leastFirst_12 : decode cX2_leastFirst 12 = .ok (.iload_n 2, 1) := by decide +kernel
theorem dX2_leastFirst_13 : decode cX2_leastFirst 13 = .ok (.ishl, 1) := by decide +kernel
theorem dX2_leastFirst_14 : decode cX2_leastFirst 14 = .ok (.iand, 1) := by decide +kernel
theorem dX2_leastFirst_15 : decode cX2_leastFirst 15 = .ok (.ifCond .eq 20, 3) := by decide +kernel
theorem dX2_leastFirst_18 : decode cX2_leastFirst 18 = .ok (.aload_n 0, 1) := by decide +kernel
theorem dX2_leastFirst_19 : decode cX2_leastFirst 19 = .ok (.iload_n 1, 1) := by decide +kernel
theorem dX2_leastFirst_20 : decode cX2_leastFirst 20 = .ok (.iload_n 2, 1) := by decide +kernel
theorem dX2_leastFirst_21 : decode cX2_leastFirst 21 = .ok (.invokevirtual 78, 3) := by decide +kernel
theorem dX2_leastFirst_24 : decode cX2_leastFirst 24 = .ok (.aload_n 0, 1) := by decide +kernel
theorem dX2_leastFirst_25 : decode cX2_leastFirst 25 = .ok (.getfield 30, 3) := by decide +kernel
theorem dX2_leastFirst_28 : decode cX2_leastFirst 28 = .ok (.iload_n 1, 1) := by decide +kernel
theorem dX2_leastFirst_29 : decode cX2_leastFirst 29 = .ok (.iaload, 1) := by decide +kernel
theorem dX2_leastFirst_30 : decode cX2_leastFirst 30 = .ok (.if_icmp .ne 5, 3) := by decide +kernel
theorem dX2_leastFirst_33 : decode cX2_leastFirst 33 = .ok (.iload_n 2, 1) := by decide +kernel
theorem dX2_leastFirst_34 : decode cX2_leastFirst 34 = .ok (.ireturn, 1) := by decide +kernel
theorem dX2_leastFirst_35 : decode cX2_leastFirst 35 = .ok (.iinc 2 1, 3) := by decide +kernel
theorem dX2_leastFirst_38 : decode cX2_leastFirst 38 = .ok (.goto (-36), 3) := by decide +kernel
theorem dX2_leastFirst_41 : decode cX2_leastFirst 41 = .ok (.iconst 0, 1) := by decide +kernel
theorem dX2_leastFirst_42 : decode cX2_leastFirst 42 = .ok (.ireturn, 1) := by decide +kernel
theorem dX3_init_0 : decode cX3_init 0 = .ok (.aload_n 0, 1) := by decide +kernel
theorem dX3_init_1 : decode cX3_init 1 = .ok (.invokespecial 3, 3) := by decide +kernel
theorem dX3_init_4 : decode cX3_init 4 = .ok (.aload_n 0, 1) := by decide +kernel
theorem dX3_init_5 : decode cX3_init 5 = .ok (.iconst 0, 1) := by decide +kernel
theorem dX3_init_6 : decode cX3_init 6 = .ok (.putfield 9, 3) := by decide +kernel
theorem dX3_init_9 : decode cX3_init 9 = .ok (.return_, 1) := by decide +kernel
theorem dX3_score_0 : decode cX3_score 0 = .ok (.aload_n 0, 1) := by decide +kernel
theorem dX3_score_1 : decode cX3_score 1 = .ok (.iconst 0, 1) := by decide +kernel
theorem dX3_score_2 : decode cX3_score 2 = .ok (.putfield 9, 3) := by decide +kernel
theorem dX3_score_5 : decode cX3_score 5 = .ok (.aload_n 0, 1) := by decide +kernel
theorem dX3_score_6 : decode cX3_score 6 = .ok (.aload_n 1, 1) := by decide +kernel
theorem dX3_score_7 : decode cX3_score 7 = .ok (.aload_n 2, 1) := by decide +kernel
theorem dX3_score_8 : decode cX3_score 8 = .ok (.aload_n 3, 1) := by decide +kernel
theorem dX3_score_9 : decode cX3_score 9 = .ok (.invokevirtual 15, 3) := by decide +kernel
theorem dX3_score_12 : decode cX3_score 12 = .ok (.istore 4, 2) := by decide +kernel
theorem dX3_score_14 : decode cX3_score 14 = .ok (.iload 4, 2) := by decide +kernel
theorem dX3_score_16 : decode cX3_score 16 = .ok (.ifCond .eq 9, 3) := by decide +kernel
theorem dX3_score_19 : decode cX3_score 19 = .ok (.iload 4, 2) := by decide +kernel
theorem dX3_score_21 : decode cX3_score 21 = .ok (.ineg, 1) := by decide +kernel
theorem dX3_score_22 : decode cX3_score 22 = .ok (.goto 11, 3) := by decide +kernel
theorem dX3_score_25 : decode cX3_score 25 = .ok (.aload_n 0, 1) := by decide +kernel
theorem dX3_score_26 : decode cX3_score 26 = .ok (.getfield 9, 3) := by decide +kernel
theorem dX3_score_29 : decode cX3_score 29 = .ok (.iconst 0, 1) := by decide +kernel
theorem dX3_score_30 : decode cX3_score 30 = .ok (.invokestatic 19, 3) := by decide +kernel
theorem dX3_score_33 : decode cX3_score 33 = .ok (.ireturn, 1) := by decide +kernel
theorem dX3_readPairs_0 : decode cX3_readPairs 0 = .ok (.iconst 0, 1) := by decide +kernel
theorem dX3_readPairs_1 : decode cX3_readPairs 1 = .ok (.istore 4, 2) := by decide +kernel
theorem dX3_readPairs_3 : decode cX3_readPairs 3 = .ok (.iload 4, 2) := by decide +kernel
theorem dX3_readPairs_5 : decode cX3_readPairs 5 = .ok (.bipush 80, 2) := by decide +kernel
theorem dX3_readPairs_7 : decode cX3_readPairs 7 = .ok (.if_icmp .ge 50, 3) := by decide +kernel
theorem dX3_readPairs_10 : decode cX3_readPairs 10 = .ok (.aload_n 0, 1) := by decide +kernel
theorem dX3_readPairs_11 : decode cX3_readPairs 11 = .ok (.aload_n 1, 1) := by decide +kernel
theorem dX3_readPairs_12 : decode cX3_readPairs 12 = .ok (.aload_n 2, 1) := by decide +kernel
theorem dX3_readPairs_13 : decode cX3_readPairs 13 = .ok (.aload_n 3, 1) := by decide +kernel
theorem dX3_readPairs_14 : decode cX3_readPairs 14 = .ok (.invokevirtual 25, 3) := by decide +kernel
theorem dX3_readPairs_17 : decode cX3_readPairs 17 = .ok (.istore 5, 2) := by decide +kernel
theorem dX3_readPairs_19 : decode cX3_readPairs 19 = .ok (.iload 5, 2) := by decide +kernel
theorem dX3_readPairs_21 : decode cX3_readPairs 21 = .ok (.ifCond .eq 6, 3) := by decide +kernel
theorem dX3_readPairs_24 : decode cX3_readPairs 24 = .ok (.iload 5, 2) := by decide +kernel
theorem dX3_readPairs_26 : decode cX3_readPairs 26 = .ok (.ireturn, 1) := by decide +kernel
theorem dX3_readPairs_27 : decode cX3_readPairs 27 = .ok (.aload_n 1, 1) := by decide +kernel
theorem dX3_readPairs_28 : decode cX3_readPairs 28 = .ok (.invokevirtual 28, 3) := by decide +kernel
theorem dX3_readPairs_31 : decode cX3_readPairs 31 = .ok (.ifCond .eq 5, 3) := by decide +kernel
theorem dX3_readPairs_34 : decode cX3_readPairs 34 = .ok (.iconst 0, 1) := by decide +kernel
theorem dX3_readPairs_35 : decode cX3_readPairs 35 = .ok (.ireturn, 1) := by decide +kernel
theorem dX3_readPairs_36 : decode cX3_readPairs 36 = .ok (.aload_n 1, 1) := by decide +kernel
theorem dX3_readPairs_37 : decode cX3_readPairs 37 = .ok (.bipush 59, 2) := by decide +kernel
theorem dX3_readPairs_39 : decode cX3_readPairs 39 = .ok (.invokevirtual 34, 3) := by decide +kernel
theorem dX3_readPairs_42 : decode cX3_readPairs 42 = .ok (.ifCond .ne 9, 3) := by decide +kernel
theorem dX3_readPairs_45 : decode cX3_readPairs 45 = .ok (.aload_n 1, 1) := by decide +kernel
theorem dX3_readPairs_46 : decode cX3_readPairs 46 = .ok (.iconst 1, 1) := by decide +kernel
theorem dX3_readPairs_47 : decode cX3_readPairs 47 = .ok (.invokevirtual 38, 3) := by decide +kernel
theorem dX3_readPairs_50 : decode cX3_readPairs 50 = .ok (.ireturn, 1) := by decide +kernel
theorem dX3_readPairs_51 : decode cX3_readPairs 51 = .ok (.iinc 4 1, 3) := by decide +kernel
theorem dX3_readPairs_54 : decode cX3_readPairs 54 = .ok (.goto (-51), 3) := by decide +kernel
theorem dX3_readPairs_57 : decode cX3_readPairs 57 = .ok (.aload_n 1, 1) := by decide +kernel
theorem dX3_readPairs_58 : decode cX3_readPairs 58 = .ok (.iconst 1, 1) := by decide +kernel
theorem dX3_readPairs_59 : decode cX3_readPairs 59 = .ok (.invokevirtual 38, 3) := by decide +kernel
theorem dX3_readPairs_62 : decode cX3_readPairs 62 = .ok (.ireturn, 1) := by decide +kernel
theorem dX3_readPair_0 : decode cX3_readPair 0 = .ok (.aload_n 1, 1) := by decide +kernel
theorem dX3_readPair_1 : decode cX3_readPair 1 = .ok (.invokevirtual 42, 3) := by decide +kernel
theorem dX3_readPair_4 : decode cX3_readPair 4 = .ok (.istore 4, 2) := by decide +kernel
theorem dX3_readPair_6 : decode cX3_readPair 6 = .ok (.aload_n 1, 1) := by decide +kernel
theorem dX3_readPair_7 : decode cX3_readPair 7 = .ok (.invokestatic 46, 3) := by decide +kernel
theorem dX3_readPair_10 : decode cX3_readPair 10 = .ok (.istore 5, 2) := by decide +kernel
theorem dX3_readPair_12 : decode cX3_readPair 12 = .ok (.aload_n 1, 1) := by decide +kernel
theorem dX3_readPair_13 : decode cX3_readPair 13 = .ok (.iload 5, 2) := by decide +kernel
theorem dX3_readPair_15 : decode cX3_readPair 15 = .ok (.aload_n 2, 1) := by decide +kernel
theorem dX3_readPair_16 : decode cX3_readPair 16 = .ok (.getfield 50, 3) := by decide +kernel
theorem dX3_readPair_19 : decode cX3_readPair 19 = .ok (.invokestatic 55, 3) := by decide +kernel
theorem dX3_readPair_22 : decode cX3_readPair 22 = .ok (.istore 6, 2) := by decide +kernel
theorem dX3_readPair_24 : decode cX3_readPair 24 = .ok (.iload 6, 2) := by decide +kernel
theorem dX3_readPair_26 : decode cX3_readPair 26 = .ok (.ifCond .eq 6, 3) := by decide +kernel
theorem dX3_readPair_29 : decode cX3_readPair 29 = .ok (.iload 6, 2) := by decide +kernel
theorem dX3_readPair_31 : decode cX3_readPair 31 = .ok (.ireturn, 1) := by decide +kernel
theorem dX3_readPair_32 : decode cX3_readPair 32 = .ok (.aload_n 1, 1) := by decide +kernel
theorem dX3_readPair_33 : decode cX3_readPair 33 = .ok (.invokevirtual 59, 3) := by decide +kernel
theorem dX3_readPair_36 : decode cX3_readPair 36 = .ok (.aload_n 1, 1) := by decide +kernel
theorem dX3_readPair_37 : decode cX3_readPair 37 = .ok (.bipush 62, 2) := by decide +kernel
theorem dX3_readPair_39 : decode cX3_readPair 39 = .ok (.invokevirtual 34, 3) := by decide +kernel
theorem dX3_readPair_42 : decode cX3_readPair 42 = .ok (.ifCond .ne 9, 3) := by decide +kernel
theorem dX3_readPair_45 : decode cX3_readPair 45 = .ok (.aload_n 1, 1) := by decide +kernel
theorem dX3_readPair_46 : decode cX3_readPair 46 = .ok (.iconst 1, 1) := by decide +kernel
theorem dX3_readPair_47 : decode cX3_readPair 47 = .ok (.invokevirtual 38, 3) := by decide +kernel
theorem dX3_readPair_50 : decode cX3_readPair 50 = .ok (.ireturn, 1) := by decide +kernel
theorem dX3_readPair_51 : decode cX3_readPair 51 = .ok (.aload_n 1, 1) := by decide +kernel
theorem dX3_readPair_52 : decode cX3_readPair 52 = .ok (.invokestatic 46, 3) := by decide +kernel
theorem dX3_readPair_55 : decode cX3_readPair 55 = .ok (.istore 7, 2) := by decide +kernel
theorem dX3_readPair_57 : decode cX3_readPair 57 = .ok (.aload_n 1, 1) := by decide +kernel
theorem dX3_readPair_58 : decode cX3_readPair 58 = .ok (.iload 7, 2) := by decide +kernel
theorem dX3_readPair_60 : decode cX3_readPair 60 = .ok (.aload_n 2, 1) := by decide +kernel
theorem dX3_readPair_61 : decode cX3_readPair 61 = .ok (.getfield 50, 3) := by decide +kernel
theorem dX3_readPair_64 : decode cX3_readPair 64 = .ok (.invokestatic 55, 3) := by decide +kernel
theorem dX3_readPair_67 : decode cX3_readPair 67 = .ok (.istore 6, 2) := by decide +kernel
theorem dX3_readPair_69 : decode cX3_readPair 69 = .ok (.iload 6, 2) := by decide +kernel
theorem dX3_readPair_71 : decode cX3_readPair 71 = .ok (.ifCond .eq 6, 3) := by decide +kernel
theorem dX3_readPair_74 : decode cX3_readPair 74 = .ok (.iload 6, 2) := by decide +kernel
theorem dX3_readPair_76 : decode cX3_readPair 76 = .ok (.ireturn, 1) := by decide +kernel
theorem dX3_readPair_77 : decode cX3_readPair 77 = .ok (.iload 7, 2) := by decide +kernel
theorem dX3_readPair_79 : decode cX3_readPair 79 = .ok (.iload 5, 2) := by decide +kernel
theorem dX3_readPair_81 : decode cX3_readPair 81 = .ok (.if_icmp .ne 9, 3) := by decide +kernel
theorem dX3_readPair_84 : decode cX3_readPair 84 = .ok (.aload_n 1, 1) := by decide +kernel
theorem dX3_readPair_85 : decode cX3_readPair 85 = .ok (.iconst 2, 1) := by decide +kernel
theorem dX3_readPair_86 : decode cX3_readPair 86 = .ok (.invokevirtual 38, 3) := by decide +kernel
theorem dX3_readPair_89 : decode cX3_readPair 89 = .ok (.ireturn, 1) := by decide +kernel
theorem dX3_readPair_90 : decode cX3_readPair 90 = .ok (.aload_n 1, 1) := by decide +kernel
theorem dX3_readPair_91 : decode cX3_readPair 91 = .ok (.invokevirtual 59, 3) := by decide +kernel
theorem dX3_readPair_94 : decode cX3_readPair 94 = .ok (.iload 5, 2) := by decide +kernel
theorem dX3_readPair_96 : decode cX3_readPair 96 = .ok (.iload 7, 2) := by decide +kernel
theorem dX3_readPair_98 : decode cX3_readPair 98 = .ok (.if_icmp .le 11, 3) := by decide +kernel
theorem dX3_readPair_101 : decode cX3_readPair 101 = .ok (.aload_n 1, 1) := by decide +kernel
theorem dX3_readPair_102 : decode cX3_readPair 102 = .ok (.iconst 3, 1) := by decide +kernel
theorem dX3_readPair_103 : decode cX3_readPair 103 = .ok (.iload 4, 2) := by decide +kernel
theorem dX3_readPair_105 : decode cX3_readPair 105 = .ok (.invokevirtual 62, 3) := by decide +kernel
theorem dX3_readPair_108 : decode cX3_readPair 108 = .ok (.ireturn, 1) := by decide +kernel
theorem dX3_readPair_109 : decode cX3_readPair 109 = .ok (.aload_n 1, 1) := by decide +kernel
theorem dX3_readPair_110 : decode cX3_readPair 110 = .ok (.bipush 58, 2) := by decide +kernel
theorem dX3_readPair_112 : decode cX3_readPair 112 = .ok (.invokevirtual 34, 3) := by decide +kernel
theorem dX3_readPair_115 : decode cX3_readPair 115 = .ok (.ifCond .ne 9, 3) := by decide +kernel
theorem dX3_readPair_118 : decode cX3_readPair 118 = .ok (.aload_n 1, 1) := by decide +kernel
theorem dX3_readPair_119 : decode cX3_readPair 119 = .ok (.iconst 1, 1) := by decide +kernel
theorem dX3_readPair_120 : decode cX3_readPair 120 = .ok (.invokevirtual 38, 3) := by decide +kernel
theorem dX3_readPair_123 : decode cX3_readPair 123 = .ok (.ireturn, 1) := by decide +kernel
theorem dX3_readPair_124 : decode cX3_readPair 124 = .ok (.aload_n 0, 1) := by decide +kernel
theorem dX3_readPair_125 : decode cX3_readPair 125 = .ok (.aload_n 1, 1) := by decide +kernel
theorem dX3_readPair_126 : decode cX3_readPair 126 = .ok (.aload_n 3, 1) := by decide +kernel
theorem dX3_readPair_127 : decode cX3_readPair 127 = .ok (.aload_n 2, 1) := by decide +kernel
theorem dX3_readPair_128 : decode cX3_readPair 128 = .ok (.getfield 65, 3) := by decide +kernel
theorem dX3_readPair_131 : decode cX3_readPair 131 = .ok (.iload 5, 2) := by decide +kernel
theorem dX3_readPair_133 : decode cX3_readPair 133 = .ok (.iconst 1, 1) := by decide +kernel
theorem dX3_readPair_134 : decode cX3_readPair 134 = .ok (.isub, 1) := by decide +kernel
theorem dX3_readPair_135 : decode cX3_readPair 135 = .ok (.iaload, 1) := by decide +kernel
theorem dX3_readPair_136 : decode cX3_readPair 136 = .ok (.aaload, 1) := by decide +kernel
theorem dX3_readPair_137 : decode cX3_readPair 137 = .ok (.aload_n 3, 1) := by decide +kernel
theorem dX3_readPair_138 : decode cX3_readPair 138 = .ok (.aload_n 2, 1) := by decide +kernel
theorem dX3_readPair_139 : decode cX3_readPair 139 = .ok (.getfield 65, 3) := by decide +kernel
theorem dX3_readPair_142 : decode cX3_readPair 142 = .ok (.iload 7, 2) := by decide +kernel
theorem dX3_readPair_144 : decode cX3_readPair 144 = .ok (.iconst 1, 1) := by decide +kernel
theorem dX3_readPair_145 : decode cX3_readPair 145 = .ok (.isub, 1) := by decide +kernel
theorem dX3_readPair_146 : decode cX3_readPair 146 = .ok (.iaload, 1) := by decide +kernel
theorem dX3_readPair_147 : decode cX3_readPair 147 = .ok (.aaload, 1) := by decide +kernel
theorem dX3_readPair_148 : decode cX3_readPair 148 = .ok (.invokevirtual 69, 3) := by decide +kernel
theorem dX3_readPair_151 : decode cX3_readPair 151 = .ok (.ireturn, 1) := by decide +kernel
theorem dX3_placeNamed_0 : decode cX3_placeNamed 0 = .ok (.aload_n 0, 1) := by decide +kernel
theorem dX3_placeNamed_1 : decode cX3_placeNamed 1 = .ok (.invokevirtual 73, 3) := by decide +kernel
theorem dX3_placeNamed_4 : decode cX3_placeNamed 4 = .ok (.bipush 97, 2) := by decide +kernel
theorem dX3_placeNamed_6 : decode cX3_placeNamed 6 = .ok (.isub, 1) := by decide +kernel
theorem dX3_placeNamed_7 : decode cX3_placeNamed 7 = .ok (.iconst 1, 1) := by decide +kernel
theorem dX3_placeNamed_8 : decode cX3_placeNamed 8 = .ok (.iadd, 1) := by decide +kernel
theorem dX3_placeNamed_9 : decode cX3_placeNamed 9 = .ok (.ireturn, 1) := by decide +kernel
theorem dX3_faultOfPlace_0 : decode cX3_faultOfPlace 0 = .ok (.iload_n 1, 1) := by decide +kernel
theorem dX3_faultOfPlace_1 : decode cX3_faultOfPlace 1 = .ok (.iconst 1, 1) := by decide +kernel
theorem dX3_faultOfPlace_2 : decode cX3_faultOfPlace 2 = .ok (.if_icmp .lt 9, 3) := by decide +kernel
theorem dX3_faultOfPlace_5 : decode cX3_faultOfPlace 5 = .ok (.iload_n 1, 1) := by decide +kernel
theorem dX3_faultOfPlace_6 : decode cX3_faultOfPlace 6 = .ok (.bipush 8, 2) := by decide +kernel
theorem dX3_faultOfPlace_8 : decode cX3_faultOfPlace 8 = .ok (.if_icmp .le 9, 3) := by decide +kernel
theorem dX3_faultOfPlace_11 : decode cX3_faultOfPlace 11 = .ok (.aload_n 0, 1) := by decide +kernel
theorem dX3_faultOfPlace_12 : decode cX3_faultOfPlace 12 = .ok (.iconst 1, 1) := by decide +kernel
theorem dX3_faultOfPlace_13 : decode cX3_faultOfPlace 13 = .ok (.invokevirtual 38, 3) := by decide +kernel
theorem dX3_faultOfPlace_16 : decode cX3_faultOfPlace 16 = .ok (.ireturn, 1) := by decide +kernel
theorem dX3_faultOfPlace_17 : decode cX3_faultOfPlace 17 = .ok (.iload_n 1, 1) := by decide +kernel
theorem dX3_faultOfPlace_18 : decode cX3_faultOfPlace 18 = .ok (.iload_n 2, 1) := by decide +kernel
theorem dX3_faultOfPlace_19 : decode cX3_faultOfPlace 19 = .ok (.if_icmp .le 11, 3) := by decide +kernel
theorem dX3_faultOfPlace_22 : decode cX3_faultOfPlace 22 = .ok (.aload_n 0, 1) := by decide +kernel
theorem dX3_faultOfPlace_23 : decode cX3_faultOfPlace 23 = .ok (.iconst 2, 1) := by decide +kernel
theorem dX3_faultOfPlace_24 : decode cX3_faultOfPlace 24 = .ok (.invokevirtual 38, 3) := by decide +kernel
theorem dX3_faultOfPlace_27 : decode cX3_faultOfPlace 27 = .ok (.goto 4, 3) := by decide +kernel
theorem dX3_faultOfPlace_30 : decode cX3_faultOfPlace 30 = .ok (.iconst 0, 1) := by decide +kernel
theorem dX3_faultOfPlace_31 : decode cX3_faultOfPlace 31 = .ok (.ireturn, 1) := by decide +kernel
theorem dX3_readTerms_0 : decode cX3_readTerms 0 = .ok (.iconst 0, 1) := by decide +kernel
theorem dX3_readTerms_1 : decode cX3_readTerms 1 = .ok (.istore 4, 2) := by decide +kernel
theorem dX3_readTerms_3 : decode cX3_readTerms 3 = .ok (.iload 4, 2) := by decide +kernel
theorem dX3_readTerms_5 : decode cX3_readTerms 5 = .ok (.iconst 4, 1) := by decide +kernel
theorem dX3_readTerms_6 : decode cX3_readTerms 6 = .ok (.if_icmp .ge 104, 3) := by decide +kernel
theorem dX3_readTerms_9 : decode cX3_readTerms 9 = .ok (.iload 4, 2) := by decide +kernel
theorem dX3_readTerms_11 : decode cX3_readTerms 11 = .ok (.ifCond .eq 10, 3) := by decide +kernel
theorem dX3_readTerms_14 : decode cX3_readTerms 14 = .ok (.aload_n 1, 1) := by decide +kernel
theorem dX3_readTerms_15 : decode cX3_readTerms 15 = .ok (.invokestatic 76, 3) := by decide +kernel
theorem dX3_readTerms_18 : decode cX3_readTerms 18 = .ok (.ifCond .eq 92, 3) := by decide +kernel
theorem dX3_readTerms_21 : decode cX3_readTerms 21 = .ok (.aload_n 1, 1) := by decide +kernel
theorem dX3_readTerms_22 : decode cX3_readTerms 22 = .ok (.bipush 45, 2) := by decide +kernel
theorem dX3_readTerms_24 : decode cX3_readTerms 24 = .ok (.invokevirtual 34, 3) := by decide +kernel
theorem dX3_readTerms_27 : decode cX3_readTerms 27 = .ok (.istore 5, 2) := by decide +kernel
theorem dX3_readTerms_29 : decode cX3_readTerms 29 = .ok (.aload_n 1, 1) := by decide +kernel
theorem dX3_readTerms_30 : decode cX3_readTerms 30 = .ok (.invokestatic 80, 3) := by decide +kernel
theorem dX3_readTerms_33 : decode cX3_readTerms 33 = .ok (.ifCond .ne 9, 3) := by decide +kernel
theorem dX3_readTerms_36 : decode cX3_readTerms 36 = .ok (.aload_n 1, 1) := by decide +kernel
theorem dX3_readTerms_37 : decode cX3_readTerms 37 = .ok (.iconst 1, 1) := by decide +kernel
theorem dX3_readTerms_38 : decode cX3_readTerms 38 = .ok (.invokevirtual 38, 3) := by decide +kernel
theorem dX3_readTerms_41 : decode cX3_readTerms 41 = .ok (.ireturn, 1) := by decide +kernel
theorem dX3_readTerms_42 : decode cX3_readTerms 42 = .ok (.aload_n 1, 1) := by decide +kernel
theorem dX3_readTerms_43 : decode cX3_readTerms 43 = .ok (.invokevirtual 73, 3) := by decide +kernel
theorem dX3_readTerms_46 : decode cX3_readTerms 46 = .ok (.bipush 48, 2) := by decide +kernel
theorem dX3_readTerms_48 : decode cX3_readTerms 48 = .ok (.isub, 1) := by decide +kernel
theorem dX3_readTerms_49 : decode cX3_readTerms 49 = .ok (.istore 6, 2) := by decide +kernel
theorem dX3_readTerms_51 : decode cX3_readTerms 51 = .ok (.aload_n 1, 1) := by decide +kernel
theorem dX3_readTerms_52 : decode cX3_readTerms 52 = .ok (.invokevirtual 59, 3) := by decide +kernel
theorem dX3_readTerms_55 : decode cX3_readTerms 55 = .ok (.aload_n 2, 1) := by decide +kernel
theorem dX3_readTerms_56 : decode cX3_readTerms 56 = .ok (.getfield 83, 3) := by decide +kernel
theorem dX3_readTerms_59 : decode cX3_readTerms 59 = .ok (.iload 6, 2) := by decide +kernel
theorem dX3_readTerms_61 : decode cX3_readTerms 61 = .ok (.iaload, 1) := by decide +kernel
theorem dX3_readTerms_62 : decode cX3_readTerms 62 = .ok (.aload_n 3, 1) := by decide +kernel
theorem dX3_readTerms_63 : decode cX3_readTerms 63 = .ok (.getfield 83, 3) := by decide +kernel
theorem dX3_readTerms_66 : decode cX3_readTerms 66 = .ok (.iload 6, 2) := by decide +kernel
theorem dX3_readTerms_68 : decode cX3_readTerms 68 = .ok (.iaload, 1) := by decide +kernel
theorem dX3_readTerms_69 : decode cX3_readTerms 69 = .ok (.isub, 1) := by decide +kernel
theorem dX3_readTerms_70 : decode cX3_readTerms 70 = .ok (.istore 7, 2) := by decide +kernel
theorem dX3_readTerms_72 : decode cX3_readTerms 72 = .ok (.aload_n 0, 1) := by decide +kernel
theorem dX3_readTerms_73 : decode cX3_readTerms 73 = .ok (.dup, 1) := by decide +kernel
theorem dX3_readTerms_74 : decode cX3_readTerms 74 = .ok (.getfield 9, 3) := by decide +kernel
theorem dX3_readTerms_77 : decode cX3_readTerms 77 = .ok (.iload 5, 2) := by decide +kernel
theorem dX3_readTerms_79 : decode cX3_readTerms 79 = .ok (.ifCond .eq 11, 3) := by decide +kernel
theorem dX3_readTerms_82 : decode cX3_readTerms 82 = .ok (.iload 7, 2) := by decide +kernel
theorem dX3_readTerms_84 : decode cX3_readTerms 84 = .ok (.ifCond .ge 15, 3) := by decide +kernel
theorem dX3_readTerms_87 : decode cX3_readTerms 87 = .ok (.goto 8, 3) := by decide +kernel
theorem dX3_readTerms_90 : decode cX3_readTerms 90 = .ok (.iload 7, 2) := by decide +kernel
theorem dX3_readTerms_92 : decode cX3_readTerms 92 = .ok (.ifCond .le 7, 3) := by decide +kernel
theorem dX3_readTerms_95 : decode cX3_readTerms 95 = .ok (.iconst 2, 1) := by decide +kernel
theorem dX3_readTerms_96 : decode cX3_readTerms 96 = .ok (.goto 4, 3) := by decide +kernel
theorem dX3_readTerms_99 : decode cX3_readTerms 99 = .ok (.iconst (-1), 1) := by decide +kernel
theorem dX3_readTerms_100 : decode cX3_readTerms 100 = .ok (.iadd, 1) := by decide +kernel
theorem dX3_readTerms_101 : decode cX3_readTerms 101 = .ok (.putfield 9, 3) := by decide +kernel
theorem dX3_readTerms_104 : decode cX3_readTerms 104 = .ok (.iinc 4 1, 3) := by decide +kernel
theorem dX3_readTerms_107 : decode cX3_readTerms 107 = .ok (.goto (-104), 3) := by decide +kernel
theorem dX3_readTerms_110 : decode cX3_readTerms 110 = .ok (.iconst 0, 1) := by decide +kernel
theorem dX3_readTerms_111 : decode cX3_readTerms 111 = .ok (.ireturn, 1) := by decide +kernel
theorem dX3_isAtTerm_0 : decode cX3_isAtTerm 0 = .ok (.aload_n 0, 1) := by decide +kernel
theorem dX3_isAtTerm_1 : decode cX3_isAtTerm 1 = .ok (.invokevirtual 73, 3) := by decide +kernel
theorem dX3_isAtTerm_4 : decode cX3_isAtTerm 4 = .ok (.bipush 45, 2) := by decide +kernel
theorem dX3_isAtTerm_6 : decode cX3_isAtTerm 6 = .ok (.if_icmp .eq 10, 3) := by decide +kernel
theorem dX3_isAtTerm_9 : decode cX3_isAtTerm 9 = .ok (.aload_n 0, 1) := by decide +kernel
theorem dX3_isAtTerm_10 : decode cX3_isAtTerm 10 = .ok (.invokestatic 80, 3) := by decide +kernel
theorem dX3_isAtTerm_13 : decode cX3_isAtTerm 13 = .ok (.ifCond .eq 7, 3) := by decide +kernel
theorem dX3_isAtTerm_16 : decode cX3_isAtTerm 16 = .ok (.iconst 1, 1) := by decide +kernel
theorem dX3_isAtTerm_17 : decode cX3_isAtTerm 17 = .ok (.goto 4, 3) := by decide +kernel
theorem dX3_isAtTerm_20 : decode cX3_isAtTerm 20 = .ok (.iconst 0, 1) := by decide +kernel
theorem dX3_isAtTerm_21 : decode cX3_isAtTerm 21 = .ok (.ireturn, 1) := by decide +kernel
theorem dX3_isAtMeasure_0 : decode cX3_isAtMeasure 0 = .ok (.aload_n 0, 1) := by decide +kernel
theorem dX3_isAtMeasure_1 : decode cX3_isAtMeasure 1 = .ok (.invokevirtual 73, 3) := by decide +kernel
theorem dX3_isAtMeasure_4 : decode cX3_isAtMeasure 4 = .ok (.bipush 48, 2) := by decide +kernel
theorem dX3_isAtMeasure_6 : decode cX3_isAtMeasure 6 = .ok (.isub, 1) := by decide +kernel
theorem dX3_isAtMeasure_7 : decode cX3_isAtMeasure 7 = .ok (.iconst 3, 1) := by decide +kernel
theorem dX3_isAtMeasure_8 : decode cX3_isAtMeasure 8 = .ok (.invokestatic 88, 3) := by decide +kernel
theorem dX3_isAtMeasure_11 : decode cX3_isAtMeasure 11 = .ok (.ireturn, 1) := by decide +kernel
theorem dX4_init_0 : decode cX4_init 0 = .ok (.aload_n 0, 1) := by decide +kernel
theorem dX4_init_1 : decode cX4_init 1 = .ok (.invokespecial 3, 3) := by decide +kernel
theorem dX4_init_4 : decode cX4_init 4 = .ok (.aload_n 0, 1) := by decide +kernel
theorem dX4_init_5 : decode cX4_init 5 = .ok (.iconst 0, 1) := by decide +kernel
theorem dX4_init_6 : decode cX4_init 6 = .ok (.putfield 9, 3) := by decide +kernel
theorem dX4_init_9 : decode cX4_init 9 = .ok (.aload_n 0, 1) := by decide +kernel
theorem dX4_init_10 : decode cX4_init 10 = .ok (.iconst 0, 1) := by decide +kernel
theorem dX4_init_11 : decode cX4_init 11 = .ok (.putfield 15, 3) := by decide +kernel
theorem dX4_init_14 : decode cX4_init 14 = .ok (.aload_n 0, 1) := by decide +kernel
theorem dX4_init_15 : decode cX4_init 15 = .ok (.iconst 0, 1) := by decide +kernel
theorem dX4_init_16 : decode cX4_init 16 = .ok (.putfield 18, 3) := by decide +kernel
theorem dX4_init_19 : decode cX4_init 19 = .ok (.aload_n 0, 1) := by decide +kernel
theorem dX4_init_20 : decode cX4_init 20 = .ok (.new 21, 3) := by decide +kernel
theorem dX4_init_23 : decode cX4_init 23 = .ok (.dup, 1) := by decide +kernel
theorem dX4_init_24 : decode cX4_init 24 = .ok (.invokespecial 23, 3) := by decide +kernel
theorem dX4_init_27 : decode cX4_init 27 = .ok (.putfield 24, 3) := by decide +kernel
theorem dX4_init_30 : decode cX4_init 30 = .ok (.aload_n 0, 1) := by decide +kernel
theorem dX4_init_31 : decode cX4_init 31 = .ok (.bipush 6, 2) := by decide +kernel
theorem dX4_init_33 : decode cX4_init 33 = .ok (.bipush 8, 2) := by decide +kernel
theorem dX4_init_35 : decode cX4_init 35 = .ok (.multianewarray 28 2, 4) := by decide +kernel
theorem dX4_init_39 : decode cX4_init 39 = .ok (.putfield 30, 3) := by decide +kernel
theorem dX4_init_42 : decode cX4_init 42 = .ok (.aload_n 0, 1) := by decide +kernel
theorem dX4_init_43 : decode cX4_init 43 = .ok (.bipush 6, 2) := by decide +kernel
theorem dX4_init_45 : decode cX4_init 45 = .ok (.newarray .int, 2) := by decide +kernel
theorem dX4_init_47 : decode cX4_init 47 = .ok (.putfield 33, 3) := by decide +kernel
theorem dX4_init_50 : decode cX4_init 50 = .ok (.aload_n 0, 1) := by decide +kernel
theorem dX4_init_51 : decode cX4_init 51 = .ok (.bipush 8, 2) := by decide +kernel
theorem dX4_init_53 : decode cX4_init 53 = .ok (.newarray .int, 2) := by decide +kernel
theorem dX4_init_55 : decode cX4_init 55 = .ok (.putfield 37, 3) := by decide +kernel
theorem dX4_init_58 : decode cX4_init 58 = .ok (.aload_n 0, 1) := by decide +kernel
theorem dX4_init_59 : decode cX4_init 59 = .ok (.iconst 0, 1) := by decide +kernel
theorem dX4_init_60 : decode cX4_init 60 = .ok (.putfield 40, 3) := by decide +kernel
theorem dX4_init_63 : decode cX4_init 63 = .ok (.aload_n 0, 1) := by decide +kernel
theorem dX4_init_64 : decode cX4_init 64 = .ok (.iconst 3, 1) := by decide +kernel
theorem dX4_init_65 : decode cX4_init 65 = .ok (.newarray .int, 2) := by decide +kernel
theorem dX4_init_67 : decode cX4_init 67 = .ok (.putfield 43, 3) := by decide +kernel
theorem dX4_init_70 : decode cX4_init 70 = .ok (.aload_n 0, 1) := by decide +kernel
theorem dX4_init_71 : decode cX4_init 71 = .ok (.getfield 43, 3) := by decide +kernel
theorem dX4_init_74 : decode cX4_init 74 = .ok (.iconst 3, 1) := by decide +kernel
theorem dX4_init_75 : decode cX4_init 75 = .ok (.invokestatic 46, 3) := by decide +kernel
theorem dX4_init_78 : decode cX4_init 78 = .ok (.return_, 1) := by decide +kernel
theorem dX4_swapText_0 : decode cX4_swapText 0 = .ok (.aload_n 0, 1) := by decide +kernel
theorem dX4_swapText_1 : decode cX4_swapText 1 = .ok (.getfield 24, 3) := by decide +kernel
theorem dX4_swapText_4 : decode cX4_swapText 4 = .ok (.astore_n 2, 1) := by decide +kernel
theorem dX4_swapText_5 : decode cX4_swapText 5 = .ok (.aload_n 0, 1) := by decide +kernel
theorem dX4_swapText_6 : decode cX4_swapText 6 = .ok (.aload_n 1, 1) := by decide +kernel
theorem dX4_swapText_7 : decode cX4_swapText 7 = .ok (.putfield 24, 3) := by decide +kernel
theorem dX4_swapText_10 : decode cX4_swapText 10 = .ok (.aload_n 2, 1) := by decide +kernel
theorem dX4_swapText_11 : decode cX4_swapText 11 = .ok (.areturn, 1) := by decide +kernel
theorem dX4_admits_0 : decode cX4_admits 0 = .ok (.aload_n 0, 1) := by decide +kernel
theorem dX4_admits_1 : decode cX4_admits 1 = .ok (.getfield 24, 3) := by decide +kernel
theorem dX4_admits_4 : decode cX4_admits 4 = .ok (.aload_n 1, 1) := by decide +kernel
theorem dX4_admits_5 : decode cX4_admits 5 = .ok (.invokevirtual 52, 3) := by decide +kernel
theorem dX4_admits_8 : decode cX4_admits 8 = .ok (.ireturn, 1) := by decide +kernel
theorem dX4_holds_0 : decode cX4_holds 0 = .ok (.aload_n 0, 1) := by decide +kernel
theorem dX4_holds_1 : decode cX4_holds 1 = .ok (.getfield 9, 3) := by decide +kernel
theorem dX4_holds_4 : decode cX4_holds 4 = .ok (.iconst 1, 1) := by decide +kernel
theorem dX4_holds_5 : decode cX4_holds 5 = .ok (.iload_n 1, 1) := by decide +kernel
theorem dX4_holds_6 : decode cX4_holds 6 = .ok (.ishl, 1) := by decide +kernel
theorem dX4_holds_7 : decode cX4_holds 7 = .ok (.iand, 1) := by decide +kernel
theorem dX4_holds_8 : decode cX4_holds 8 = .ok (.ifCond .eq 7, 3) := by decide +kernel
theorem dX4_holds_11 : decode cX4_holds 11 = .ok (.iconst 1, 1) := by decide +kernel
theorem dX4_holds_12 : decode cX4_holds 12 = .ok (.goto 4, 3) := by decide +kernel
theorem dX4_holds_15 : decode cX4_holds 15 = .ok (.iconst 0, 1) := by decide +kernel
theorem dX4_holds_16 : decode cX4_holds 16 = .ok (.ireturn, 1) := by decide +kernel
theorem dX4_canTake_0 : decode cX4_canTake 0 = .ok (.aload_n 0, 1) := by decide +kernel
theorem dX4_canTake_1 : decode cX4_canTake 1 = .ok (.getfield 15, 3) := by decide +kernel
theorem dX4_canTake_4 : decode cX4_canTake 4 = .ok (.bipush 8, 2) := by decide +kernel
theorem dX4_canTake_6 : decode cX4_canTake 6 = .ok (.if_icmp .ge 23, 3) := by decide +kernel
theorem dX4_canTake_9 : decode cX4_canTake 9 = .ok (.aload_n 0, 1) := by decide +kernel
theorem dX4_canTake_10 : decode cX4_canTake 10 = .ok (.getfield 9, 3) := by decide +kernel
theorem dX4_canTake_13 : decode cX4_canTake 13 = .ok (.aload_n 0, 1) := by decide +kernel
theorem dX4_canTake_14 : decode cX4_canTake 14 = .ok (.getfield 18, 3) := by decide +kernel
theorem dX4_canTake_17 : decode cX4_canTake 17 = .ok (.ior, 1) := by decide +kernel
theorem dX4_canTake_18 : decode cX4_canTake 18 = .ok (.iconst 1, 1) := by decide +kernel
theorem dX4_canTake_19 : decode cX4_canTake 19 = .ok (.iload_n 1, 1) := by decide +kernel
theorem dX4_canTake_20 : decode cX4_canTake 20 = .ok (.ishl, 1) := by decide +kernel
theorem dX4_canTake_21 : decode cX4_canTake 21 = .ok (.iand, 1) := by decide +kernel
theorem dX4_canTake_22 : decode cX4_canTake 22 = .ok (.ifCond .ne 7, 3) := by decide +kernel
theorem dX4_canTake_25 : decode cX4_canTake 25 = .ok (.iconst 1, 1) := by decide +kernel
theorem dX4_canTake_26 : decode cX4_canTake 26 = .ok (.goto 4, 3) := by decide +kernel
theorem dX4_canTake_29 : decode cX4_canTake 29 = .ok (.iconst 0, 1) := by decide +kernel
theorem dX4_canTake_30 : decode cX4_canTake 30 = .ok (.ireturn, 1) := by decide +kernel
theorem dX4_take_0 : decode cX4_take 0 = .ok (.aload_n 0, 1) := by decide +kernel
theorem dX4_take_1 : decode cX4_take 1 = .ok (.dup, 1) := by decide +kernel
theorem dX4_take_2 : decode cX4_take 2 = .ok (.getfield 9, 3) := by decide +kernel
theorem dX4_take_5 : decode cX4_take 5 = .ok (.iconst 1, 1) := by decide +kernel
theorem dX4_take_6 : decode cX4_take 6 = .ok (.iload_n 1, 1) := by decide +kernel
theorem dX4_take_7 : decode cX4_take 7 = .ok (.ishl, 1) := by decide +kernel
theorem dX4_take_8 : decode cX4_take 8 = .ok (.ior, 1) := by decide +kernel
theorem dX4_take_9 : decode cX4_take 9 = .ok (.putfield 9, 3) := by decide +kernel
theorem dX4_take_12 : decode cX4_take 12 = .ok (.aload_n 0, 1) := by decide +kernel
theorem dX4_take_13 : decode cX4_take 13 = .ok (.dup, 1) := by decide +kernel
theorem dX4_take_14 : decode cX4_take 14 = .ok (.getfield 15, 3) := by decide +kernel
theorem dX4_take_17 : decode cX4_take 17 = .ok (.iconst 1, 1) := by decide +kernel
theorem dX4_take_18 : decode cX4_take 18 = .ok (.iadd, 1) := by decide +kernel
theorem dX4_take_19 : decode cX4_take 19 = .ok (.putfield 15, 3) := by decide +kernel
theorem dX4_take_22 : decode cX4_take 22 = .ok (.aload_n 0, 1) := by decide +kernel
theorem dX4_take_23 : decode cX4_take 23 = .ok (.getfield 33, 3) := by decide +kernel
theorem dX4_take_26 : decode cX4_take 26 = .ok (.iconst 0, 1) := by decide +kernel
theorem dX4_take_27 : decode cX4_take 27 = .ok (.invokestatic 46, 3) := by decide +kernel
theorem dX4_take_30 : decode cX4_take 30 = .ok (.return_, 1) := by decide +kernel
theorem dX4_putOut_0 : decode cX4_putOut 0 = .ok (.aload_n 0, 1) := by decide +kernel
theorem dX4_putOut_1 : decode cX4_putOut 1 = .ok (.dup, 1) := by decide +kernel
theorem dX4_putOut_2 : decode cX4_putOut 2 = .ok (.getfield 9, 3) := by decide +kernel
theorem dX4_putOut_5 : decode cX4_putOut 5 = .ok (.iconst 1, 1) := by decide +kernel
theorem dX4_putOut_6 : decode cX4_putOut 6 = .ok (.iload_n 1, 1) := by decide +kernel
theorem dX4_putOut_7 : decode cX4_putOut 7 = .ok (.ishl, 1) := by decide +kernel
theorem dX4_putOut_8 : decode cX4_putOut 8 = .ok (.iconst (-1), 1) := by decide +kernel
theorem dX4_putOut_9 : decode cX4_putOut 9 = .ok (.ixor, 1) := by decide +kernel
theorem dX4_putOut_10 : decode cX4_putOut 10 = .ok (.iand, 1) := by decide +kernel
theorem dX4_putOut_11 : decode cX4_putOut 11 = .ok (.putfield 9, 3) := by decide +kernel
theorem dX4_putOut_14 : decode cX4_putOut 14 = .ok (.aload_n 0, 1) := by decide +kernel
theorem dX4_putOut_15 : decode cX4_putOut 15 = .ok (.dup, 1) := by decide +kernel
theorem dX4_putOut_16 : decode cX4_putOut 16 = .ok (.getfield 18, 3) := by decide +kernel
theorem dX4_putOut_19 : decode cX4_putOut 19 = .ok (.iconst 1, 1) := by decide +kernel
theorem dX4_putOut_20 : decode cX4_putOut 20 = .ok (.iload_n 1, 1) := by decide +kernel
theorem dX4_putOut_21 : decode cX4_putOut 21 = .ok (.ishl, 1) := by decide +kernel
theorem dX4_putOut_22 : decode cX4_putOut 22 = .ok (.ior, 1) := by decide +kernel
theorem dX4_putOut_23 : decode cX4_putOut 23 = .ok (.putfield 18, 3) := by decide +kernel
theorem dX4_putOut_26 : decode cX4_putOut 26 = .ok (.aload_n 0, 1) := by decide +kernel
theorem dX4_putOut_27 : decode cX4_putOut 27 = .ok (.dup, 1) := by decide +kernel
theorem dX4_putOut_28 : decode cX4_putOut 28 = .ok (.getfield 15, 3) := by decide +kernel
theorem dX4_putOut_31 : decode cX4_putOut 31 = .ok (.iconst 1, 1) := by decide +kernel
theorem dX4_putOut_32 : decode cX4_putOut 32 = .ok (.isub, 1) := by decide +kernel
theorem dX4_putOut_33 : decode cX4_putOut 33 = .ok (.putfield 15, 3) := by decide +kernel
theorem dX4_putOut_36 : decode cX4_putOut 36 = .ok (.return_, 1) := by decide +kernel
theorem dX4_keepOrder_0 : decode cX4_keepOrder 0 = .ok (.iconst 0, 1) := by decide +kernel
theorem dX4_keepOrder_1 : decode cX4_keepOrder 1 = .ok (.istore_n 3, 1) := by decide +kernel
theorem dX4_keepOrder_2 : decode cX4_keepOrder 2 = .ok (.iload_n 3, 1) := by decide +kernel
theorem dX4_keepOrder_3 : decode cX4_keepOrder 3 = .ok (.aload_n 0, 1) := by decide +kernel
theorem dX4_keepOrder_4 : decode cX4_keepOrder 4 = .ok (.getfield 15, 3) := by decide +kernel
theorem dX4_keepOrder_7 : decode cX4_keepOrder 7 = .ok (.if_icmp .ge 22, 3) := by decide +kernel
theorem dX4_keepOrder_10 : decode cX4_keepOrder 10 = .ok (.aload_n 0, 1) := by decide +kernel
theorem dX4_keepOrder_11 : decode cX4_keepOrder 11 = .ok (.getfield 30, 3) := by decide +kernel
theorem dX4_keepOrder_14 : decode cX4_keepOrder 14 = .ok (.iload_n 1, 1) := by decide +kernel
theorem dX4_keepOrder_15 : decode cX4_keepOrder 15 = .ok (.aaload, 1) := by decide +kernel
theorem dX4_keepOrder_16 : decode cX4_keepOrder 16 = .ok (.iload_n 3, 1) := by decide +kernel
theorem dX4_keepOrder_17 : decode cX4_keepOrder 17 = .ok (.aload_n 2, 1) := by decide +kernel
theorem dX4_keepOrder_18 : decode cX4_keepOrder 18 = .ok (.iload_n 3, 1) := by decide +kernel
theorem dX4_keepOrder_19 : decode cX4_keepOrder 19 = .ok (.invokevirtual 56, 3) := by decide +kernel
theorem dX4_keepOrder_22 : decode cX4_keepOrder 22 = .ok (.iastore, 1) := by decide +kernel
theorem dX4_keepOrder_23 : decode cX4_keepOrder 23 = .ok (.iinc 3 1, 3) := by decide +kernel
theorem dX4_keepOrder_26 : decode cX4_keepOrder 26 = .ok (.goto (-24), 3) := by decide +kernel
theorem dX4_keepOrder_29 : decode cX4_keepOrder 29 = .ok (.aload_n 0, 1) := by decide +kernel
theorem dX4_keepOrder_30 : decode cX4_keepOrder 30 = .ok (.getfield 33, 3) := by decide +kernel
theorem dX4_keepOrder_33 : decode cX4_keepOrder 33 = .ok (.iload_n 1, 1) := by decide +kernel
theorem dX4_keepOrder_34 : decode cX4_keepOrder 34 = .ok (.aload_n 0, 1) := by decide +kernel
theorem dX4_keepOrder_35 : decode cX4_keepOrder 35 = .ok (.getfield 15, 3) := by decide +kernel
theorem dX4_keepOrder_38 : decode cX4_keepOrder 38 = .ok (.iastore, 1) := by decide +kernel
theorem dX4_keepOrder_39 : decode cX4_keepOrder 39 = .ok (.return_, 1) := by decide +kernel
theorem dX4_countOrders_0 : decode cX4_countOrders 0 = .ok (.iconst 0, 1) := by decide +kernel
theorem dX4_countOrders_1 : decode cX4_countOrders 1 = .ok (.istore_n 1, 1) := by decide +kernel
theorem dX4_countOrders_2 : decode cX4_countOrders 2 = .ok (.iconst 0, 1) := by decide +kernel
theorem dX4_countOrders_3 : decode cX4_countOrders 3 = .ok (.istore_n 2, 1) := by decide +kernel
theorem dX4_countOrders_4 : decode cX4_countOrders 4 = .ok (.iload_n 2, 1) := by decide +kernel
theorem dX4_countOrders_5 : decode cX4_countOrders 5 = .ok (.bipush 6, 2) := by decide +kernel
theorem dX4_countOrders_7 : decode cX4_countOrders 7 = .ok (.if_icmp .ge 21, 3) := by decide +kernel
theorem dX4_countOrders_10 : decode cX4_countOrders 10 = .ok (.aload_n 0, 1) := by decide +kernel
theorem dX4_countOrders_11 : decode cX4_countOrders 11 = .ok (.getfield 33, 3) := by decide +kernel
theorem dX4_countOrders_14 : decode cX4_countOrders 14 = .ok (.iload_n 2, 1) := by decide +kernel
theorem dX4_countOrders_15 : decode cX4_countOrders 15 = .ok (.iaload, 1) := by decide +kernel
theorem dX4_countOrders_16 : decode cX4_countOrders 16 = .ok (.ifCond .le 6, 3) := by decide +kernel
theorem dX4_countOrders_19 : decode cX4_countOrders 19 = .ok (.iinc 1 1, 3) := by decide +kernel
theorem dX4_countOrders_22 : decode cX4_countOrders 22 = .ok (.iinc 2 1, 3) := by decide +kernel
theorem dX4_countOrders_25 : decode cX4_countOrders 25 = .ok (.goto (-21), 3) := by decide +kernel
theorem dX4_countOrders_28 : decode cX4_countOrders 28 = .ok (.iload_n 1, 1) := by decide +kernel
theorem dX4_countOrders_29 : decode cX4_countOrders 29 = .ok (.ireturn, 1) := by decide +kernel
theorem dX4_placeOf_0 : decode cX4_placeOf 0 = .ok (.iconst 0, 1) := by decide +kernel
theorem dX4_placeOf_1 : decode cX4_placeOf 1 = .ok (.istore_n 2, 1) := by decide +kernel
theorem dX4_placeOf_2 : decode cX4_placeOf 2 = .ok (.iload_n 2, 1) := by decide +kernel
theorem dX4_placeOf_3 : decode cX4_placeOf 3 = .ok (.aload_n 0, 1) := by decide +kernel
theorem dX4_placeOf_4 : decode cX4_placeOf 4 = .ok (.getfield 15, 3) := by decide +kernel
theorem dX4_placeOf_7 : decode cX4_placeOf 7 = .ok (.if_icmp .ge 23, 3) := by decide +kernel
theorem dX4_placeOf_10 : decode cX4_placeOf 10 = .ok (.aload_n 0, 1) := by decide +kernel
theorem dX4_placeOf_11 : decode cX4_placeOf 11 = .ok (.getfield 37, 3) := by decide +kernel
theorem dX4_placeOf_14 : decode cX4_placeOf 14 = .ok (.iload_n 2, 1) := by decide +kernel
theorem dX4_placeOf_15 : decode cX4_placeOf 15 = .ok (.iaload, 1) := by decide +kernel
theorem dX4_placeOf_16 : decode cX4_placeOf 16 = .ok (.iload_n 1, 1) := by decide +kernel
theorem dX4_placeOf_17 : decode cX4_placeOf 17 = .ok (.if_icmp .ne 7, 3) := by decide +kernel
theorem dX4_placeOf_20 : decode cX4_placeOf 20 = .ok (.iload_n 2, 1) := by decide +kernel
theorem dX4_placeOf_21 : decode cX4_placeOf 21 = .ok (.iconst 1, 1) := by decide +kernel
theorem dX4_placeOf_22 : decode cX4_placeOf 22 = .ok (.iadd, 1) := by decide +kernel
theorem dX4_placeOf_23 : decode cX4_placeOf 23 = .ok (.ireturn, 1) := by decide +kernel
theorem dX4_placeOf_24 : decode cX4_placeOf 24 = .ok (.iinc 2 1, 3) := by decide +kernel
theorem dX4_placeOf_27 : decode cX4_placeOf 27 = .ok (.goto (-25), 3) := by decide +kernel
theorem dX4_placeOf_30 : decode cX4_placeOf 30 = .ok (.iconst (-1), 1) := by decide +kernel
theorem dX4_placeOf_31 : decode cX4_placeOf 31 = .ok (.ireturn, 1) := by decide +kernel
theorem dX4_cardLength_0 : decode cX4_cardLength 0 = .ok (.aload_n 0, 1) := by decide +kernel
theorem dX4_cardLength_1 : decode cX4_cardLength 1 = .ok (.getfield 15, 3) := by decide +kernel
theorem dX4_cardLength_4 : decode cX4_cardLength 4 = .ok (.iconst 4, 1) := by decide +kernel
theorem dX4_cardLength_5 : decode cX4_cardLength 5 = .ok (.invokestatic 62, 3) := by decide +kernel
theorem dX4_cardLength_8 : decode cX4_cardLength 8 = .ok (.ireturn, 1) := by decide +kernel
theorem dX4_cardBeasts_0 : decode cX4_cardBeasts 0 = .ok (.iconst 0, 1) := by decide +kernel
theorem dX4_cardBeasts_1 : decode cX4_cardBeasts 1 = .ok (.istore_n 1, 1) := by decide +kernel
theorem dX4_cardBeasts_2 : decode cX4_cardBeasts 2 = .ok (.iconst 0, 1) := by decide +kernel
theorem dX4_cardBeasts_3 : decode cX4_cardBeasts 3 = .ok (.istore_n 2, 1) := by decide +kernel
theorem dX4_cardBeasts_4 : decode cX4_cardBeasts 4 = .ok (.iload_n 2, 1) := by decide +kernel
theorem dX4_cardBeasts_5 : decode cX4_cardBeasts 5 = .ok (.aload_n 0, 1) := by decide +kernel
theorem dX4_cardBeasts_6 : decode cX4_cardBeasts 6 = .ok (.invokevirtual 68, 3) := by decide +kernel
theorem dX4_cardBeasts_9 : decode cX4_cardBeasts 9 = .ok (.if_icmp .ge 20, 3) := by decide +kernel
theorem dX4_cardBeasts_12 : decode cX4_cardBeasts 12 = .ok (.iload_n 1, 1) := by decide +kernel
theorem dX4_cardBeasts_13 : decode cX4_cardBeasts 13 = .ok (.iconst 1, 1) := by decide +kernel
theorem dX4_cardBeasts_14 : decode cX4_cardBeasts 14 = .ok (.aload_n 0, 1) := by decide +kernel
theorem dX4_cardBeasts_15 : decode cX4_cardBeasts 15 = .ok (.getfield 37, 3) := by decide +kernel
theorem dX4_cardBeasts_18 : decode cX4_cardBeasts 18 = .ok (.iload_n 2, 1) := by decide +kernel
theorem dX4_cardBeasts_19 : decode cX4_cardBeasts 19 = .ok (.iaload, 1) := by decide +kernel
theorem dX4_cardBeasts_20 : decode cX4_cardBeasts 20 = .ok (.ishl, 1) := by decide +kernel
theorem dX4_cardBeasts_21 : decode cX4_cardBeasts 21 = .ok (.ior, 1) := by decide +kernel
theorem dX4_cardBeasts_22 : decode cX4_cardBeasts 22 = .ok (.istore_n 1, 1) := by decide +kernel
theorem dX4_cardBeasts_23 : decode cX4_cardBeasts 23 = .ok (.iinc 2 1, 3) := by decide +kernel
theorem dX4_cardBeasts_26 : decode cX4_cardBeasts 26 = .ok (.goto (-22), 3) := by decide +kernel
theorem dX4_cardBeasts_29 : decode cX4_cardBeasts 29 = .ok (.iload_n 1, 1) := by decide +kernel
theorem dX4_cardBeasts_30 : decode cX4_cardBeasts 30 = .ok (.ireturn, 1) := by decide +kernel
theorem dX4_scoreCard_0 : decode cX4_scoreCard 0 = .ok (.bipush 50, 2) := by decide +kernel
theorem dX4_scoreCard_2 : decode cX4_scoreCard 2 = .ok (.istore_n 2, 1) := by decide +kernel
theorem dX4_scoreCard_3 : decode cX4_scoreCard 3 = .ok (.iconst 0, 1) := by decide +kernel
theorem dX4_scoreCard_4 : decode cX4_scoreCard 4 = .ok (.istore_n 3, 1) := by decide +kernel
theorem dX4_scoreCard_5 : decode cX4_scoreCard 5 = .ok (.iload_n 3, 1) := by decide +kernel
theorem dX4_scoreCard_6 : decode cX4_scoreCard 6 = .ok (.aload_n 0, 1) := by decide +kernel
theorem dX4_scoreCard_7 : decode cX4_scoreCard 7 = .ok (.invokevirtual 68, 3) := by decide +kernel
theorem dX4_scoreCard_10 : decode cX4_scoreCard 10 = .ok (.if_icmp .ge 55, 3) := by decide +kernel
theorem dX4_scoreCard_13 : decode cX4_scoreCard 13 = .ok (.iload_n 3, 1) := by decide +kernel
theorem dX4_scoreCard_14 : decode cX4_scoreCard 14 = .ok (.iconst 1, 1) := by decide +kernel
theorem dX4_scoreCard_15 : decode cX4_scoreCard 15 = .ok (.iadd, 1) := by decide +kernel
theorem dX4_scoreCard_16 : decode cX4_scoreCard 16 = .ok (.istore 4, 2) := by decide +kernel
theorem dX4_scoreCard_18 : decode cX4_scoreCard 18 = .ok (.iload 4, 2) := by decide +kernel
theorem dX4_scoreCard_20 : decode cX4_scoreCard 20 = .ok (.aload_n 0, 1) := by decide +kernel
theorem dX4_scoreCard_21 : decode cX4_scoreCard 21 = .ok (.invokevirtual 68, 3) := by decide +kernel
theorem dX4_scoreCard_24 : decode cX4_scoreCard 24 = .ok (.if_icmp .ge 35, 3) := by decide +kernel
theorem dX4_scoreCard_27 : decode cX4_scoreCard 27 = .ok (.iload_n 2, 1) := by decide +kernel
theorem dX4_scoreCard_28 : decode cX4_scoreCard 28 = .ok (.aload_n 0, 1) := by decide +kernel
theorem dX4_scoreCard_29 : decode cX4_scoreCard 29 = .ok (.aload_n 0, 1) := by decide +kernel
theorem dX4_scoreCard_30 : decode cX4_scoreCard 30 = .ok (.aload_n 1, 1) := by decide +kernel
theorem dX4_scoreCard_31 : decode cX4_scoreCard 31 = .ok (.iload 4, 2) := by decide +kernel
theorem dX4_scoreCard_33 : decode cX4_scoreCard 33 = .ok (.invokevirtual 56, 3) := by decide +kernel
theorem dX4_scoreCard_36 : decode cX4_scoreCard 36 = .ok (.invokevirtual 72, 3) := by decide +kernel
theorem dX4_scoreCard_39 : decode cX4_scoreCard 39 = .ok (.aload_n 0, 1) := by decide +kernel
theorem dX4_scoreCard_40 : decode cX4_scoreCard 40 = .ok (.aload_n 1, 1) := by decide +kernel
theorem dX4_scoreCard_41 : decode cX4_scoreCard 41 = .ok (.iload_n 3, 1) := by decide +kernel
theorem dX4_scoreCard_42 : decode cX4_scoreCard 42 = .ok (.invokevirtual 56, 3) := by decide +kernel
theorem dX4_scoreCard_45 : decode cX4_scoreCard 45 = .ok (.invokevirtual 72, 3) := by decide +kernel
theorem dX4_scoreCard_48 : decode cX4_scoreCard 48 = .ok (.invokevirtual 75, 3) := by decide +kernel
theorem dX4_scoreCard_51 : decode cX4_scoreCard 51 = .ok (.isub, 1) := by decide +kernel
theorem dX4_scoreCard_52 : decode cX4_scoreCard 52 = .ok (.istore_n 2, 1) := by decide +kernel
theorem dX4_scoreCard_53 : decode cX4_scoreCard 53 = .ok (.iinc 4 1, 3) := by decide +kernel
theorem dX4_scoreCard_56 : decode cX4_scoreCard 56 = .ok (.goto (-38), 3) := by decide +kernel
theorem dX4_scoreCard_59 : decode cX4_scoreCard 59 = .ok (.iinc 3 1, 3) := by decide +kernel
theorem dX4_scoreCard_62 : decode cX4_scoreCard 62 = .ok (.goto (-57), 3) := by decide +kernel
theorem dX4_scoreCard_65 : decode cX4_scoreCard 65 = .ok (.iload_n 2, 1) := by decide +kernel
theorem dX4_scoreCard_66 : decode cX4_scoreCard 66 = .ok (.iconst 0, 1) := by decide +kernel
theorem dX4_scoreCard_67 : decode cX4_scoreCard 67 = .ok (.invokestatic 78, 3) := by decide +kernel
theorem dX4_scoreCard_70 : decode cX4_scoreCard 70 = .ok (.ireturn, 1) := by decide +kernel
theorem dX4_cutsBetween_0 : decode cX4_cutsBetween 0 = .ok (.iconst 0, 1) := by decide +kernel
theorem dX4_cutsBetween_1 : decode cX4_cutsBetween 1 = .ok (.istore_n 3, 1) := by decide +kernel
theorem dX4_cutsBetween_2 : decode cX4_cutsBetween 2 = .ok (.iload_n 1, 1) := by decide +kernel
theorem dX4_cutsBetween_3 : decode cX4_cutsBetween 3 = .ok (.iconst 1, 1) := by decide +kernel
theorem dX4_cutsBetween_4 : decode cX4_cutsBetween 4 = .ok (.invokestatic 78, 3) := by decide +kernel
theorem dX4_cutsBetween_7 : decode cX4_cutsBetween 7 = .ok (.istore 4, 2) := by decide +kernel
theorem dX4_cutsBetween_9 : decode cX4_cutsBetween 9 = .ok (.iload 4, 2) := by decide +kernel
theorem dX4_cutsBetween_11 : decode cX4_cutsBetween 11 = .ok (.iload_n 2, 1) := by decide +kernel
theorem dX4_cutsBetween_12 : decode cX4_cutsBetween 12 = .ok (.if_icmp .ge 27, 3) := by decide +kernel
theorem dX4_cutsBetween_15 : decode cX4_cutsBetween 15 = .ok (.iload 4, 2) := by decide +kernel
theorem dX4_cutsBetween_17 : decode cX4_cutsBetween 17 = .ok (.iconst 3, 1) := by decide +kernel
theorem dX4_cutsBetween_18 : decode cX4_cutsBetween 18 = .ok (.if_icmp .gt 21, 3) := by decide +kernel
theorem dX4_cutsBetween_21 : decode cX4_cutsBetween 21 = .ok (.iload_n 3, 1) := by decide +kernel
theorem dX4_cutsBetween_22 : decode cX4_cutsBetween 22 = .ok (.aload_n 0, 1) := by decide +kernel
theorem dX4_cutsBetween_23 : decode cX4_cutsBetween 23 = .ok (.getfield 43, 3) := by decide +kernel
theorem dX4_cutsBetween_26 : decode cX4_cutsBetween 26 = .ok (.iload 4, 2) := by decide +kernel
theorem dX4_cutsBetween_28 : decode cX4_cutsBetween 28 = .ok (.iconst 1, 1) := by decide +kernel
theorem dX4_cutsBetween_29 : decode cX4_cutsBetween 29 = .ok (.isub, 1) := by decide +kernel
theorem dX4_cutsBetween_30 : decode cX4_cutsBetween 30 = .ok (.iaload, 1) := by decide +kernel
theorem dX4_cutsBetween_31 : decode cX4_cutsBetween 31 = .ok (.iadd, 1) := by decide +kernel
theorem dX4_cutsBetween_32 : decode cX4_cutsBetween 32 = .ok (.istore_n 3, 1) := by decide +kernel
theorem dX4_cutsBetween_33 : decode cX4_cutsBetween 33 = .ok (.iinc 4 1, 3) := by decide +kernel
theorem dX4_cutsBetween_36 : decode cX4_cutsBetween 36 = .ok (.goto (-27), 3) := by decide +kernel
theorem dX4_cutsBetween_39 : decode cX4_cutsBetween 39 = .ok (.iload_n 3, 1) := by decide +kernel
theorem dX4_cutsBetween_40 : decode cX4_cutsBetween 40 = .ok (.ireturn, 1) := by decide +kernel
theorem dX5_init_0 : decode cX5_init 0 = .ok (.aload_n 0, 1) := by decide +kernel
theorem dX5_init_1 : decode cX5_init 1 = .ok (.invokespecial 3, 3) := by decide +kernel
theorem dX5_init_4 : decode cX5_init 4 = .ok (.aload_n 0, 1) := by decide +kernel
theorem dX5_init_5 : decode cX5_init 5 = .ok (.bipush 80, 2) := by decide +kernel
theorem dX5_init_7 : decode cX5_init 7 = .ok (.newarray .int, 2) := by decide +kernel
theorem dX5_init_9 : decode cX5_init 9 = .ok (.putfield 9, 3) := by decide +kernel
theorem dX5_init_12 : decode cX5_init 12 = .ok (.aload_n 0, 1) := by decide +kernel
theorem dX5_init_13 : decode cX5_init 13 = .ok (.iconst 0, 1) := by decide +kernel
theorem dX5_init_14 : decode cX5_init 14 = .ok (.putfield 15, 3) := by decide +kernel
theorem dX5_init_17 : decode cX5_init 17 = .ok (.aload_n 0, 1) := by decide +kernel
theorem dX5_init_18 : decode cX5_init 18 = .ok (.iconst 0, 1) := by decide +kernel
theorem dX5_init_19 : decode cX5_init 19 = .ok (.putfield 19, 3) := by decide +kernel
theorem dX5_init_22 : decode cX5_init 22 = .ok (.aload_n 0, 1) := by decide +kernel
theorem dX5_init_23 : decode cX5_init 23 = .ok (.iconst 0, 1) := by decide +kernel
theorem dX5_init_24 : decode cX5_init 24 = .ok (.putfield 22, 3) := by decide +kernel
theorem dX5_init_27 : decode cX5_init 27 = .ok (.return_, 1) := by decide +kernel
theorem dX5_length_0 : decode cX5_length 0 = .ok (.aload_n 0, 1) := by decide +kernel
theorem dX5_length_1 : decode cX5_length 1 = .ok (.getfield 15, 3) := by decide +kernel
theorem dX5_length_4 : decode cX5_length 4 = .ok (.ireturn, 1) := by decide +kernel
theorem dX5_hasRoom_0 : decode cX5_hasRoom 0 = .ok (.aload_n 0, 1) := by decide +kernel
theorem dX5_hasRoom_1 : decode cX5_hasRoom 1 = .ok (.getfield 15, 3) := by decide +kernel
theorem dX5_hasRoom_4 : decode cX5_hasRoom 4 = .ok (.bipush 20, 2) := by decide +kernel
theorem dX5_hasRoom_6 : decode cX5_hasRoom 6 = .ok (.iadd, 1) := by decide +kernel
theorem dX5_hasRoom_7 : decode cX5_hasRoom 7 = .ok (.bipush 80, 2) := by decide +kernel
theorem dX5_hasRoom_9 : decode cX5_hasRoom 9 = .ok (.if_icmp .gt 7, 3) := by decide +kernel
theorem dX5_hasRoom_12 : decode cX5_hasRoom 12 = .ok (.iconst 1, 1) := by decide +kernel
theorem dX5_hasRoom_13 : decode cX5_hasRoom 13 = .ok (.goto 4, 3) := by decide +kernel
theorem dX5_hasRoom_16 : decode cX5_hasRoom 16 = .ok (.iconst 0, 1) := by decide +kernel
theorem dX5_hasRoom_17 : decode cX5_hasRoom 17 = .ok (.ireturn, 1) := by decide +kernel
theorem dX5_has_0 : decode cX5_has 0 = .ok (.iload_n 1, 1) := by decide +kernel
theorem dX5_has_1 : decode cX5_has 1 = .ok (.ifCond .lt 15, 3) := by decide +kernel
theorem dX5_has_4 : decode cX5_has 4 = .ok (.iload_n 1, 1) := by decide +kernel
theorem dX5_has_5 : decode cX5_has 5 = .ok (.aload_n 0, 1) := by decide +kernel
theorem dX5_has_6 : decode cX5_has 6 = .ok (.getfield 15, 3) := by decide +kernel
theorem dX5_has_9 : decode cX5_has 9 = .ok (.if_icmp .gt 7, 3) := by decide +kernel
theorem dX5_has_12 : decode cX5_has 12 = .ok (.iconst 1, 1) := by decide +kernel
theorem dX5_has_13 : decode cX5_has 13 = .ok (.goto 4, 3) := by decide +kernel
theorem dX5_has_16 : decode cX5_has 16 = .ok (.iconst 0, 1) := by decide +kernel
theorem dX5_has_17 : decode cX5_has 17 = .ok (.ireturn, 1) := by decide +kernel
theorem dX5_append_0 : decode cX5_append 0 = .ok (.bipush 24, 2) := by decide +kernel
theorem dX5_append_2 : decode cX5_append 2 = .ok (.istore_n 2, 1) := by decide +kernel
theorem dX5_append_3 : decode cX5_append 3 = .ok (.iload_n 2, 1) := by decide +kernel
theorem dX5_append_4 : decode cX5_append 4 = .ok (.ifCond .lt 44, 3) := by decide +kernel
theorem dX5_append_7 : decode cX5_append 7 = .ok (.aload_n 0, 1) := by decide +kernel
theorem dX5_append_8 : decode cX5_append 8 = .ok (.getfield 15, 3) := by decide +kernel
theorem dX5_append_11 : decode cX5_append 11 = .ok (.bipush 80, 2) := by decide +kernel
theorem dX5_append_13 : decode cX5_append 13 = .ok (.if_icmp .ge 35, 3) := by decide +kernel
theorem dX5_append_16 : decode cX5_append 16 = .ok (.aload_n 0, 1) := by decide +kernel
theorem dX5_append_17 : decode cX5_append 17 = .ok (.getfield 9, 3) := by decide +kernel
theorem dX5_append_20 : decode cX5_append 20 = .ok (.aload_n 0, 1) := by decide +kernel
theorem dX5_append_21 : decode cX5_append 21 = .ok (.getfield 15, 3) := by decide +kernel
theorem dX5_append_24 : decode cX5_append 24 = .ok (.iload_n 1, 1) := by decide +kernel
theorem dX5_append_25 : decode cX5_append 25 = .ok (.iload_n 2, 1) := by decide +kernel
theorem dX5_append_26 : decode cX5_append 26 = .ok (.iushr, 1) := by decide +kernel
theorem dX5_append_27 : decode cX5_append 27 = .ok (.sipush 255, 3) := by decide +kernel
theorem dX5_append_30 : decode cX5_append 30 = .ok (.iand, 1) := by decide +kernel
theorem dX5_append_31 : decode cX5_append 31 = .ok (.iastore, 1) := by decide +kernel
theorem dX5_append_32 : decode cX5_append 32 = .ok (.aload_n 0, 1) := by decide +kernel
theorem dX5_append_33 : decode cX5_append 33 = .ok (.dup, 1) := by decide +kernel
theorem dX5_append_34 : decode cX5_append 34 = .ok (.getfield 15, 3) := by decide +kernel
theorem dX5_append_37 : decode cX5_append 37 = .ok (.iconst 1, 1) := by decide +kernel
theorem dX5_append_38 : decode cX5_append 38 = .ok (.iadd, 1) := by decide +kernel
theorem dX5_append_39 : decode cX5_append 39 = .ok (.putfield 15, 3) := by decide +kernel
theorem dX5_append_42 : decode cX5_append 42 = .ok (.iinc 2 (-8), 3) := by decide +kernel
theorem dX5_append_45 : decode cX5_append 45 = .ok (.goto (-42), 3) := by decide +kernel
theorem dX5_append_48 : decode cX5_append 48 = .ok (.return_, 1) := by decide +kernel
theorem dX5_clear_0 : decode cX5_clear 0 = .ok (.aload_n 0, 1) := by decide +kernel
theorem dX5_clear_1 : decode cX5_clear 1 = .ok (.iconst 0, 1) := by decide +kernel
theorem dX5_clear_2 : decode cX5_clear 2 = .ok (.putfield 15, 3) := by decide +kernel
theorem dX5_clear_5 : decode cX5_clear 5 = .ok (.aload_n 0, 1) := by decide +kernel
theorem dX5_clear_6 : decode cX5_clear 6 = .ok (.iconst 0, 1) := by decide +kernel
theorem dX5_clear_7 : decode cX5_clear 7 = .ok (.invokevirtual 25, 3) := by decide +kernel
theorem dX5_clear_10 : decode cX5_clear 10 = .ok (.return_, 1) := by decide +kernel
theorem dX5_byteAt_0 : decode cX5_byteAt 0 = .ok (.iload_n 1, 1) := by decide +kernel
theorem dX5_byteAt_1 : decode cX5_byteAt 1 = .ok (.aload_n 0, 1) := by decide +kernel
theorem dX5_byteAt_2 : decode cX5_byteAt 2 = .ok (.getfield 15, 3) := by decide +kernel
theorem dX5_byteAt_5 : decode cX5_byteAt 5 = .ok (.invokestatic 29, 3) := by decide +kernel
theorem dX5_byteAt_8 : decode cX5_byteAt 8 = .ok (.ifCond .eq 12, 3) := by decide +kernel
theorem dX5_byteAt_11 : decode cX5_byteAt 11 = .ok (.aload_n 0, 1) := by decide +kernel
theorem dX5_byteAt_12 : decode cX5_byteAt 12 = .ok (.getfield 9, 3) := by decide +kernel
theorem dX5_byteAt_15 : decode cX5_byteAt 15 = .ok (.iload_n 1, 1) := by decide +kernel
theorem dX5_byteAt_16 : decode cX5_byteAt 16 = .ok (.iaload, 1) := by decide +kernel
theorem dX5_byteAt_17 : decode cX5_byteAt 17 = .ok (.goto 4, 3) := by decide +kernel
theorem dX5_byteAt_20 : decode cX5_byteAt 20 = .ok (.iconst (-1), 1) := by decide +kernel
theorem dX5_byteAt_21 : decode cX5_byteAt 21 = .ok (.ireturn, 1) := by decide +kernel
theorem dX5_namesEachOf_0 : decode cX5_namesEachOf 0 = .ok (.iload_n 1, 1) := by decide +kernel
theorem dX5_namesEachOf_1 : decode cX5_namesEachOf 1 = .ok (.istore_n 2, 1) := by decide +kernel
theorem dX5_namesEachOf_2 : decode cX5_namesEachOf 2 = .ok (.iload_n 1, 1) := by decide +kernel
theorem dX5_namesEachOf_3 : decode cX5_namesEachOf 3 = .ok (.invokestatic 33, 3) := by decide +kernel
theorem dX5_namesEachOf_6 : decode cX5_namesEachOf 6 = .ok (.istore_n 3, 1) := by decide +kernel
theorem dX5_namesEachOf_7 : decode cX5_namesEachOf 7 = .ok (.iconst 0, 1) := by decide +kernel
theorem dX5_namesEachOf_8 : decode cX5_namesEachOf 8 = .ok (.istore 4, 2) := by decide +kernel
theorem dX5_namesEachOf_10 : decode cX5_namesEachOf 10 = .ok (.iload 4, 2) := by decide +kernel
theorem dX5_namesEachOf_12 : decode cX5_namesEachOf 12 = .ok (.iload_n 3, 1) := by decide +kernel
theorem dX5_namesEachOf_13 : decode cX5_namesEachOf 13 = .ok (.if_icmp .ge 47, 3) := by decide +kernel
theorem dX5_namesEachOf_16 : decode cX5_namesEachOf 16 = .ok (.aload_n 0, 1) := by decide +kernel
theorem dX5_namesEachOf_17 : decode cX5_namesEachOf 17 = .ok (.iload 4, 2) := by decide +kernel
theorem dX5_namesEachOf_19 : decode cX5_namesEachOf 19 = .ok (.invokevirtual 39, 3) := by decide +kernel
theorem dX5_namesEachOf_22 : decode cX5_namesEachOf 22 = .ok (.istore 5, 2) := by decide +kernel
theorem dX5_namesEachOf_24 : decode cX5_namesEachOf 24 = .ok (.iload 5, 2) := by decide +kernel
theorem dX5_namesEachOf_26 : decode cX5_namesEachOf 26 = .ok (.bipush 20, 2) := by decide +kernel
theorem dX5_namesEachOf_28 : decode cX5_namesEachOf 28 = .ok (.invokestatic 29, 3) := by decide +kernel
theorem dX5_namesEachOf_31 : decode cX5_namesEachOf 31 = .ok (.ifCond .eq 12, 3) := by decide +kernel
theorem dX5_namesEachOf_34 : decode cX5_namesEachOf 34 = .ok (.iload_n 2, 1) := by decide +kernel
theorem dX5_namesEachOf_35 : decode cX5_namesEachOf 35 = .ok (.iconst 1, 1) := by decide +kernel
theorem dX5_namesEachOf_36 : decode cX5_namesEachOf 36 = .ok (.iload 5, 2) := by decide +kernel
theorem dX5_namesEachOf_38 : decode cX5_namesEachOf 38 = .ok (.ishl, 1) := by decide +kernel
theorem dX5_namesEachOf_39 : decode cX5_namesEachOf 39 = .ok (.iand, 1) := by decide +kernel
theorem dX5_namesEachOf_40 : decode cX5_namesEachOf 40 = .ok (.ifCond .ne 5, 3) := by decide +kernel
theorem dX5_namesEachOf_43 : decode cX5_namesEachOf 43 = .ok (.iconst 0, 1) := by decide +kernel
theorem dX5_namesEachOf_44 : decode cX5_namesEachOf 44 = .ok (.ireturn, 1) := by decide +kernel
theorem dX5_namesEachOf_45 : decode cX5_namesEachOf 45 = .ok (.iload_n 2, 1) := by decide +kernel
theorem dX5_namesEachOf_46 : decode cX5_namesEachOf 46 = .ok (.iconst 1, 1) := by decide +kernel
theorem dX5_namesEachOf_47 : decode cX5_namesEachOf 47 = .ok (.iload 5, 2) := by decide +kernel
theorem dX5_namesEachOf_49 : decode cX5_namesEachOf 49 = .ok (.ishl, 1) := by decide +kernel
theorem dX5_namesEachOf_50 : decode cX5_namesEachOf 50 = .ok (.iconst (-1), 1) := by decide +kernel
theorem dX5_namesEachOf_51 : decode cX5_namesEachOf 51 = .ok (.ixor, 1) := by decide +kernel
theorem dX5_namesEachOf_52 : decode cX5_namesEachOf 52 = .ok (.iand, 1) := by decide +kernel
theorem dX5_namesEachOf_53 : decode cX5_namesEachOf 53 = .ok (.istore_n 2, 1) := by decide +kernel
theorem dX5_namesEachOf_54 : decode cX5_namesEachOf 54 = .ok (.iinc 4 1, 3) := by decide +kernel
theorem dX5_namesEachOf_57 : decode cX5_namesEachOf 57 = .ok (.goto (-47), 3) := by decide +kernel
theorem dX5_namesEachOf_60 : decode cX5_namesEachOf 60 = .ok (.iconst 1, 1) := by decide +kernel
theorem dX5_namesEachOf_61 : decode cX5_namesEachOf 61 = .ok (.ireturn, 1) := by decide +kernel
theorem dX5_startReading_0 : decode cX5_startReading 0 = .ok (.aload_n 0, 1) := by decide +kernel
theorem dX5_startReading_1 : decode cX5_startReading 1 = .ok (.iconst 0, 1) := by decide +kernel
theorem dX5_startReading_2 : decode cX5_startReading 2 = .ok (.putfield 22, 3) := by decide +kernel
theorem dX5_startReading_5 : decode cX5_startReading 5 = .ok (.aload_n 0, 1) := by decide +kernel
theorem dX5_startReading_6 : decode cX5_startReading 6 = .ok (.aload_n 0, 1) := by decide +kernel
theorem dX5_startReading_7 : decode cX5_startReading 7 = .ok (.iload_n 1, 1) := by decide +kernel
theorem dX5_startReading_8 : decode cX5_startReading 8 = .ok (.invokevirtual 42, 3) := by decide +kernel
theorem dX5_startReading_11 : decode cX5_startReading 11 = .ok (.ifCond .eq 7, 3) := by decide +kernel
theorem dX5_startReading_14 : decode cX5_startReading 14 = .ok (.iload_n 1, 1) := by decide +kernel
theorem dX5_startReading_15 : decode cX5_startReading 15 = .ok (.goto 4, 3) := by decide +kernel
theorem dX5_startReading_18 : decode cX5_startReading 18 = .ok (.iconst 0, 1) := by decide +kernel
theorem dX5_startReading_19 : decode cX5_startReading 19 = .ok (.putfield 19, 3) := by decide +kernel
theorem dX5_startReading_22 : decode cX5_startReading 22 = .ok (.return_, 1) := by decide +kernel
theorem dX5_place_0 : decode cX5_place 0 = .ok (.aload_n 0, 1) := by decide +kernel
theorem dX5_place_1 : decode cX5_place 1 = .ok (.getfield 22, 3) := by decide +kernel
theorem dX5_place_4 : decode cX5_place 4 = .ok (.ireturn, 1) := by decide +kernel
theorem dX5_isAtEnd_0 : decode cX5_isAtEnd 0 = .ok (.aload_n 0, 1) := by decide +kernel
theorem dX5_isAtEnd_1 : decode cX5_isAtEnd 1 = .ok (.getfield 22, 3) := by decide +kernel
theorem dX5_isAtEnd_4 : decode cX5_isAtEnd 4 = .ok (.aload_n 0, 1) := by decide +kernel
theorem dX5_isAtEnd_5 : decode cX5_isAtEnd 5 = .ok (.getfield 19, 3) := by decide +kernel
theorem dX5_isAtEnd_8 : decode cX5_isAtEnd 8 = .ok (.if_icmp .lt 7, 3) := by decide +kernel
theorem dX5_isAtEnd_11 : decode cX5_isAtEnd 11 = .ok (.iconst 1, 1) := by decide +kernel
theorem dX5_isAtEnd_12 : decode cX5_isAtEnd 12 = .ok (.goto 4, 3) := by decide +kernel
theorem dX5_isAtEnd_15 : decode cX5_isAtEnd 15 = .ok (.iconst 0, 1) := by decide +kernel
theorem dX5_isAtEnd_16 : decode cX5_isAtEnd 16 = .ok (.ireturn, 1) := by decide +kernel
theorem dX5_peek_0 : decode cX5_peek 0 = .ok (.aload_n 0, 1) := by decide +kernel
theorem dX5_peek_1 : decode cX5_peek 1 = .ok (.getfield 22, 3) := by decide +kernel
theorem dX5_peek_4 : decode cX5_peek 4 = .ok (.aload_n 0, 1) := by decide +kernel
theorem dX5_peek_5 : decode cX5_peek 5 = .ok (.getfield 19, 3) := by decide +kernel
theorem dX5_peek_8 : decode cX5_peek 8 = .ok (.if_icmp .ge 15, 3) := by decide +kernel
theorem dX5_peek_11 : decode cX5_peek 11 = .ok (.aload_n 0, 1) := by decide +kernel
theorem dX5_peek_12 : decode cX5_peek 12 = .ok (.getfield 9, 3) := by decide +kernel
theorem dX5_peek_15 : decode cX5_peek 15 = .ok (.aload_n 0, 1) := by decide +kernel
theorem dX5_peek_16 : decode cX5_peek 16 = .ok (.getfield 22, 3) := by decide +kernel
theorem dX5_peek_19 : decode cX5_peek 19 = .ok (.iaload, 1) := by decide +kernel
theorem dX5_peek_20 : decode cX5_peek 20 = .ok (.goto 4, 3) := by decide +kernel
theorem dX5_peek_23 : decode cX5_peek 23 = .ok (.iconst (-1), 1) := by decide +kernel
theorem dX5_peek_24 : decode cX5_peek 24 = .ok (.ireturn, 1) := by decide +kernel
theorem dX5_skip_0 : decode cX5_skip 0 = .ok (.aload_n 0, 1) := by decide +kernel
theorem dX5_skip_1 : decode cX5_skip 1 = .ok (.getfield 22, 3) := by decide +kernel
theorem dX5_skip_4 : decode cX5_skip 4 = .ok (.aload_n 0, 1) := by decide +kernel
theorem dX5_skip_5 : decode cX5_skip 5 = .ok (.getfield 19, 3) := by decide +kernel
theorem dX5_skip_8 : decode cX5_skip 8 = .ok (.if_icmp .ge 13, 3) := by decide +kernel
theorem dX5_skip_11 : decode cX5_skip 11 = .ok (.aload_n 0, 1) := by decide +kernel
theorem dX5_skip_12 : decode cX5_skip 12 = .ok (.dup, 1) := by decide +kernel
theorem dX5_skip_13 : decode cX5_skip 13 = .ok (.getfield 22, 3) := by decide +kernel
theorem dX5_skip_16 : decode cX5_skip 16 = .ok (.iconst 1, 1) := by decide +kernel
theorem dX5_skip_17 : decode cX5_skip 17 = .ok (.iadd, 1) := by decide +kernel
theorem dX5_skip_18 : decode cX5_skip 18 = .ok (.putfield 22, 3) := by decide +kernel
theorem dX5_skip_21 : decode cX5_skip 21 = .ok (.return_, 1) := by decide +kernel
theorem dX5_skipIf_0 : decode cX5_skipIf 0 = .ok (.aload_n 0, 1) := by decide +kernel
theorem dX5_skipIf_1 : decode cX5_skipIf 1 = .ok (.invokevirtual 46, 3) := by decide +kernel
theorem dX5_skipIf_4 : decode cX5_skipIf 4 = .ok (.iload_n 1, 1) := by decide +kernel
theorem dX5_skipIf_5 : decode cX5_skipIf 5 = .ok (.if_icmp .ne 7, 3) := by decide +kernel
theorem dX5_skipIf_8 : decode cX5_skipIf 8 = .ok (.iconst 1, 1) := by decide +kernel
theorem dX5_skipIf_9 : decode cX5_skipIf 9 = .ok (.goto 4, 3) := by decide +kernel
theorem dX5_skipIf_12 : decode cX5_skipIf 12 = .ok (.iconst 0, 1) := by decide +kernel
theorem dX5_skipIf_13 : decode cX5_skipIf 13 = .ok (.istore_n 2, 1) := by decide +kernel
theorem dX5_skipIf_14 : decode cX5_skipIf 14 = .ok (.iload_n 2, 1) := by decide +kernel
theorem dX5_skipIf_15 : decode cX5_skipIf 15 = .ok (.ifCond .eq 7, 3) := by decide +kernel
theorem dX5_skipIf_18 : decode cX5_skipIf 18 = .ok (.aload_n 0, 1) := by decide +kernel
theorem dX5_skipIf_19 : decode cX5_skipIf 19 = .ok (.invokevirtual 50, 3) := by decide +kernel
theorem dX5_skipIf_22 : decode cX5_skipIf 22 = .ok (.iload_n 2, 1) := by decide +kernel
theorem dX5_skipIf_23 : decode cX5_skipIf 23 = .ok (.ireturn, 1) := by decide +kernel
theorem dX5_isAtDigit_0 : decode cX5_isAtDigit 0 = .ok (.aload_n 0, 1) := by decide +kernel
theorem dX5_isAtDigit_1 : decode cX5_isAtDigit 1 = .ok (.invokevirtual 46, 3) := by decide +kernel
theorem dX5_isAtDigit_4 : decode cX5_isAtDigit 4 = .ok (.bipush 48, 2) := by decide +kernel
theorem dX5_isAtDigit_6 : decode cX5_isAtDigit 6 = .ok (.if_icmp .lt 16, 3) := by decide +kernel
theorem dX5_isAtDigit_9 : decode cX5_isAtDigit 9 = .ok (.aload_n 0, 1) := by decide +kernel
theorem dX5_isAtDigit_10 : decode cX5_isAtDigit 10 = .ok (.invokevirtual 46, 3) := by decide +kernel
theorem dX5_isAtDigit_13 : decode cX5_isAtDigit 13 = .ok (.bipush 57, 2) := by decide +kernel
theorem dX5_isAtDigit_15 : decode cX5_isAtDigit 15 = .ok (.if_icmp .gt 7, 3) := by decide +kernel
theorem dX5_isAtDigit_18 : decode cX5_isAtDigit 18 = .ok (.iconst 1, 1) := by decide +kernel
theorem dX5_isAtDigit_19 : decode cX5_isAtDigit 19 = .ok (.goto 4, 3) := by decide +kernel
theorem dX5_isAtDigit_22 : decode cX5_isAtDigit 22 = .ok (.iconst 0, 1) := by decide +kernel
theorem dX5_isAtDigit_23 : decode cX5_isAtDigit 23 = .ok (.ireturn, 1) := by decide +kernel
theorem dX5_readNumber_0 : decode cX5_readNumber 0 = .ok (.aload_n 0, 1) := by decide +kernel
theorem dX5_readNumber_1 : decode cX5_readNumber 1 = .ok (.invokevirtual 53, 3) := by decide +kernel
theorem dX5_readNumber_4 : decode cX5_readNumber 4 = .ok (.ifCond .ne 5, 3) := by decide +kernel
theorem dX5_readNumber_7 : decode cX5_readNumber 7 = .ok (.iconst (-1), 1) := by decide +kernel
theorem dX5_readNumber_8 : decode cX5_readNumber 8 = .ok (.ireturn, 1) := by decide +kernel
theorem dX5_readNumber_9 : decode cX5_readNumber 9 = .ok (.iconst 0, 1) := by decide +kernel
theorem dX5_readNumber_10 : decode cX5_readNumber 10 = .ok (.istore_n 1, 1) := by decide +kernel
theorem dX5_readNumber_11 : decode cX5_readNumber 11 = .ok (.iconst 0, 1) := by decide +kernel
theorem dX5_readNumber_12 : decode cX5_readNumber 12 = .ok (.istore_n 2, 1) := by decide +kernel
theorem dX5_readNumber_13 : decode cX5_readNumber 13 = .ok (.iload_n 2, 1) := by decide +kernel
theorem dX5_readNumber_14 : decode cX5_readNumber 14 = .ok (.iconst 4, 1) := by decide +kernel
theorem dX5_readNumber_15 : decode cX5_readNumber 15 = .ok (.if_icmp .ge 33, 3) := by decide +kernel
theorem dX5_readNumber_18 : decode cX5_readNumber 18 = .ok (.aload_n 0, 1) := by decide +kernel
theorem dX5_readNumber_19 : decode cX5_readNumber 19 = .ok (.invokevirtual 53, 3) := by decide +kernel
theorem dX5_readNumber_22 : decode cX5_readNumber 22 = .ok (.ifCond .eq 26, 3) := by decide +kernel
theorem dX5_readNumber_25 : decode cX5_readNumber 25 = .ok (.iload_n 1, 1) := by decide +kernel
theorem dX5_readNumber_26 : decode cX5_readNumber 26 = .ok (.bipush 10, 2) := by decide +kernel
theorem dX5_readNumber_28 : decode cX5_readNumber 28 = .ok (.imul, 1) := by decide +kernel
theorem dX5_readNumber_29 : decode cX5_readNumber 29 = .ok (.aload_n 0, 1) := by decide +kernel
theorem dX5_readNumber_30 : decode cX5_readNumber 30 = .ok (.invokevirtual 46, 3) := by decide +kernel
theorem dX5_readNumber_33 : decode cX5_readNumber 33 = .ok (.iadd, 1) := by decide +kernel
theorem dX5_readNumber_34 : decode cX5_readNumber 34 = .ok (.bipush 48, 2) := by decide +kernel
theorem dX5_readNumber_36 : decode cX5_readNumber 36 = .ok (.isub, 1) := by decide +kernel
theorem dX5_readNumber_37 : decode cX5_readNumber 37 = .ok (.istore_n 1, 1) := by decide +kernel
theorem dX5_readNumber_38 : decode cX5_readNumber 38 = .ok (.aload_n 0, 1) := by decide +kernel
theorem dX5_readNumber_39 : decode cX5_readNumber 39 = .ok (.invokevirtual 50, 3) := by decide +kernel
theorem dX5_readNumber_42 : decode cX5_readNumber 42 = .ok (.iinc 2 1, 3) := by decide +kernel
theorem dX5_readNumber_45 : decode cX5_readNumber 45 = .ok (.goto (-32), 3) := by decide +kernel
theorem dX5_readNumber_48 : decode cX5_readNumber 48 = .ok (.iload_n 1, 1) := by decide +kernel
