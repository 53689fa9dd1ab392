theorem dX0_init_0 : decode cX0_init 0 = .ok (.aload_n 0, 1) := by decide +kernel
theorem dX0_init_1 : decode cX0_init 1 = .ok (.invokespecial 3, 3) := by decide +kernel
theorem dX0_init_4 : decode cX0_init 4 = .ok (.aload_n 0, 1) := by decide +kernel
theorem dX0_init_5 : decode cX0_init 5 = .ok (.bipush 6, 2) := by decide +kernel
theorem dX0_init_7 : decode cX0_init 7 = .ok (.newarray .int, 2) := by decide +kernel
theorem dX0_init_9 : decode cX0_init 9 = .ok (.putfield 9, 3) := by decide +kernel
theorem dX0_init_12 : decode cX0_init 12 = .ok (.aload_n 0, 1) := by decide +kernel
theorem dX0_init_13 : decode cX0_init 13 = .ok (.aload_n 1, 1) := by decide +kernel
theorem dX0_init_14 : decode cX0_init 14 = .ok (.putfield 15, 3) := by decide +kernel
theorem dX0_init_17 : decode cX0_init 17 = .ok (.return_, 1) := by decide +kernel
theorem dX0_ask_0 : decode cX0_ask 0 = .ok (.aload_n 0, 1) := by decide +kernel
theorem dX0_ask_1 : decode cX0_ask 1 = .ok (.aload_n 1, 1) := by decide +kernel
theorem dX0_ask_2 : decode cX0_ask 2 = .ok (.putfield 15, 3) := by decide +kernel
theorem dX0_ask_5 : decode cX0_ask 5 = .ok (.aload_n 0, 1) := by decide +kernel
theorem dX0_ask_6 : decode cX0_ask 6 = .ok (.aload_n 2, 1) := by decide +kernel
theorem dX0_ask_7 : decode cX0_ask 7 = .ok (.getfield 19, 3) := by decide +kernel
theorem dX0_ask_10 : decode cX0_ask 10 = .ok (.putfield 25, 3) := by decide +kernel
theorem dX0_ask_13 : decode cX0_ask 13 = .ok (.aload_n 0, 1) := by decide +kernel
theorem dX0_ask_14 : decode cX0_ask 14 = .ok (.iload_n 3, 1) := by decide +kernel
theorem dX0_ask_15 : decode cX0_ask 15 = .ok (.putfield 26, 3) := by decide +kernel
theorem dX0_ask_18 : decode cX0_ask 18 = .ok (.aload_n 0, 1) := by decide +kernel
theorem dX0_ask_19 : decode cX0_ask 19 = .ok (.iconst 0, 1) := by decide +kernel
theorem dX0_ask_20 : decode cX0_ask 20 = .ok (.putfield 29, 3) := by decide +kernel
theorem dX0_ask_23 : decode cX0_ask 23 = .ok (.aload_n 0, 1) := by decide +kernel
theorem dX0_ask_24 : decode cX0_ask 24 = .ok (.getfield 9, 3) := by decide +kernel
theorem dX0_ask_27 : decode cX0_ask 27 = .ok (.iconst 0, 1) := by decide +kernel
theorem dX0_ask_28 : decode cX0_ask 28 = .ok (.invokestatic 32, 3) := by decide +kernel
theorem dX0_ask_31 : decode cX0_ask 31 = .ok (.aload_n 0, 1) := by decide +kernel
theorem dX0_ask_32 : decode cX0_ask 32 = .ok (.aload_n 2, 1) := by decide +kernel
theorem dX0_ask_33 : decode cX0_ask 33 = .ok (.getfield 38, 3) := by decide +kernel
theorem dX0_ask_36 : decode cX0_ask 36 = .ok (.iload 4, 2) := by decide +kernel
theorem dX0_ask_38 : decode cX0_ask 38 = .ok (.invokevirtual 41, 3) := by decide +kernel
theorem dX0_ask_41 : decode cX0_ask 41 = .ok (.return_, 1) := by decide +kernel
theorem dX0_hitsOf_0 : decode cX0_hitsOf 0 = .ok (.iload_n 1, 1) := by decide +kernel
theorem dX0_hitsOf_1 : decode cX0_hitsOf 1 = .ok (.ifCond .lt 21, 3) := by decide +kernel
theorem dX0_hitsOf_4 : decode cX0_hitsOf 4 = .ok (.iload_n 1, 1) := by decide +kernel
theorem dX0_hitsOf_5 : decode cX0_hitsOf 5 = .ok (.aload_n 0, 1) := by decide +kernel
theorem dX0_hitsOf_6 : decode cX0_hitsOf 6 = .ok (.getfield 9, 3) := by decide +kernel
theorem dX0_hitsOf_9 : decode cX0_hitsOf 9 = .ok (.arraylength, 1) := by decide +kernel
theorem dX0_hitsOf_10 : decode cX0_hitsOf 10 = .ok (.if_icmp .ge 12, 3) := by decide +kernel
theorem dX0_hitsOf_13 : decode cX0_hitsOf 13 = .ok (.aload_n 0, 1) := by decide +kernel
theorem dX0_hitsOf_14 : decode cX0_hitsOf 14 = .ok (.getfield 9, 3) := by decide +kernel
theorem dX0_hitsOf_17 : decode cX0_hitsOf 17 = .ok (.iload_n 1, 1) := by decide +kernel
theorem dX0_hitsOf_18 : decode cX0_hitsOf 18 = .ok (.iaload, 1) := by decide +kernel
theorem dX0_hitsOf_19 : decode cX0_hitsOf 19 = .ok (.goto 4, 3) := by decide +kernel
theorem dX0_hitsOf_22 : decode cX0_hitsOf 22 = .ok (.iconst 0, 1) := by decide +kernel
theorem dX0_hitsOf_23 : decode cX0_hitsOf 23 = .ok (.ireturn, 1) := by decide +kernel
theorem dX0_go_0 : decode cX0_go 0 = .ok (.iload_n 2, 1) := by decide +kernel
theorem dX0_go_1 : decode cX0_go 1 = .ok (.ifCond .le 13, 3) := by decide +kernel
theorem dX0_go_4 : decode cX0_go 4 = .ok (.aload_n 0, 1) := by decide +kernel
theorem dX0_go_5 : decode cX0_go 5 = .ok (.getfield 15, 3) := by decide +kernel
theorem dX0_go_8 : decode cX0_go 8 = .ok (.getfield 45, 3) := by decide +kernel
theorem dX0_go_11 : decode cX0_go 11 = .ok (.ifCond .ne 20, 3) := by decide +kernel
theorem dX0_go_14 : decode cX0_go 14 = .ok (.aload_n 0, 1) := by decide +kernel
theorem dX0_go_15 : decode cX0_go 15 = .ok (.aload_n 0, 1) := by decide +kernel
theorem dX0_go_16 : decode cX0_go 16 = .ok (.getfield 15, 3) := by decide +kernel
theorem dX0_go_19 : decode cX0_go 19 = .ok (.iload_n 1, 1) := by decide +kernel
theorem dX0_go_20 : decode cX0_go 20 = .ok (.aload_n 0, 1) := by decide +kernel
theorem dX0_go_21 : decode cX0_go 21 = .ok (.getfield 26, 3) := by decide +kernel
theorem dX0_go_24 : decode cX0_go 24 = .ok (.invokevirtual 50, 3) := by decide +kernel
theorem dX0_go_27 : decode cX0_go 27 = .ok (.invokevirtual 54, 3) := by decide +kernel
theorem dX0_go_30 : decode cX0_go 30 = .ok (.return_, 1) := by decide +kernel
theorem dX0_go_31 : decode cX0_go 31 = .ok (.iconst 0, 1) := by decide +kernel
theorem dX0_go_32 : decode cX0_go 32 = .ok (.istore_n 3, 1) := by decide +kernel
theorem dX0_go_33 : decode cX0_go 33 = .ok (.iload_n 3, 1) := by decide +kernel
theorem dX0_go_34 : decode cX0_go 34 = .ok (.iconst 2, 1) := by decide +kernel
theorem dX0_go_35 : decode cX0_go 35 = .ok (.if_icmp .ge 68, 3) := by decide +kernel
theorem dX0_go_38 : decode cX0_go 38 = .ok (.iconst 0, 1) := by decide +kernel
theorem dX0_go_39 : decode cX0_go 39 = .ok (.istore 4, 2) := by decide +kernel
theorem dX0_go_41 : decode cX0_go 41 = .ok (.iload 4, 2) := by decide +kernel
theorem dX0_go_43 : decode cX0_go 43 = .ok (.aload_n 0, 1) := by decide +kernel
theorem dX0_go_44 : decode cX0_go 44 = .ok (.getfield 15, 3) := by decide +kernel
theorem dX0_go_47 : decode cX0_go 47 = .ok (.getfield 45, 3) := by decide +kernel
theorem dX0_go_50 : decode cX0_go 50 = .ok (.if_icmp .ge 47, 3) := by decide +kernel
theorem dX0_go_53 : decode cX0_go 53 = .ok (.aload_n 0, 1) := by decide +kernel
theorem dX0_go_54 : decode cX0_go 54 = .ok (.getfield 15, 3) := by decide +kernel
theorem dX0_go_57 : decode cX0_go 57 = .ok (.iload_n 1, 1) := by decide +kernel
theorem dX0_go_58 : decode cX0_go 58 = .ok (.aload_n 0, 1) := by decide +kernel
theorem dX0_go_59 : decode cX0_go 59 = .ok (.getfield 25, 3) := by decide +kernel
theorem dX0_go_62 : decode cX0_go 62 = .ok (.iload_n 3, 1) := by decide +kernel
theorem dX0_go_63 : decode cX0_go 63 = .ok (.iload 4, 2) := by decide +kernel
theorem dX0_go_65 : decode cX0_go 65 = .ok (.invokevirtual 58, 3) := by decide +kernel
theorem dX0_go_68 : decode cX0_go 68 = .ok (.istore 5, 2) := by decide +kernel
theorem dX0_go_70 : decode cX0_go 70 = .ok (.aload_n 0, 1) := by decide +kernel
theorem dX0_go_71 : decode cX0_go 71 = .ok (.iload 5, 2) := by decide +kernel
theorem dX0_go_73 : decode cX0_go 73 = .ok (.ifCond .ge 7, 3) := by decide +kernel
theorem dX0_go_76 : decode cX0_go 76 = .ok (.iload_n 1, 1) := by decide +kernel
theorem dX0_go_77 : decode cX0_go 77 = .ok (.goto 5, 3) := by decide +kernel
theorem dX0_go_80 : decode cX0_go 80 = .ok (.iload 5, 2) := by decide +kernel
theorem dX0_go_82 : decode cX0_go 82 = .ok (.invokestatic 62, 3) := by decide +kernel
theorem dX0_go_85 : decode cX0_go 85 = .ok (.iload_n 2, 1) := by decide +kernel
theorem dX0_go_86 : decode cX0_go 86 = .ok (.iconst 1, 1) := by decide +kernel
theorem dX0_go_87 : decode cX0_go 87 = .ok (.isub, 1) := by decide +kernel
theorem dX0_go_88 : decode cX0_go 88 = .ok (.invokevirtual 41, 3) := by decide +kernel
theorem dX0_go_91 : decode cX0_go 91 = .ok (.iinc 4 1, 3) := by decide +kernel
theorem dX0_go_94 : decode cX0_go 94 = .ok (.goto (-53), 3) := by decide +kernel
theorem dX0_go_97 : decode cX0_go 97 = .ok (.iinc 3 1, 3) := by decide +kernel
theorem dX0_go_100 : decode cX0_go 100 = .ok (.goto (-67), 3) := by decide +kernel
theorem dX0_go_103 : decode cX0_go 103 = .ok (.return_, 1) := by decide +kernel
theorem dX0_tally_0 : decode cX0_tally 0 = .ok (.aload_n 0, 1) := by decide +kernel
theorem dX0_tally_1 : decode cX0_tally 1 = .ok (.dup, 1) := by decide +kernel
theorem dX0_tally_2 : decode cX0_tally 2 = .ok (.getfield 29, 3) := by decide +kernel
theorem dX0_tally_5 : decode cX0_tally 5 = .ok (.iconst 1, 1) := by decide +kernel
theorem dX0_tally_6 : decode cX0_tally 6 = .ok (.iadd, 1) := by decide +kernel
theorem dX0_tally_7 : decode cX0_tally 7 = .ok (.putfield 29, 3) := by decide +kernel
theorem dX0_tally_10 : decode cX0_tally 10 = .ok (.iconst 0, 1) := by decide +kernel
theorem dX0_tally_11 : decode cX0_tally 11 = .ok (.istore_n 2, 1) := by decide +kernel
theorem dX0_tally_12 : decode cX0_tally 12 = .ok (.iload_n 2, 1) := by decide +kernel
theorem dX0_tally_13 : decode cX0_tally 13 = .ok (.aload_n 0, 1) := by decide +kernel
theorem dX0_tally_14 : decode cX0_tally 14 = .ok (.getfield 9, 3) := by decide +kernel
theorem dX0_tally_17 : decode cX0_tally 17 = .ok (.arraylength, 1) := by decide +kernel
theorem dX0_tally_18 : decode cX0_tally 18 = .ok (.if_icmp .ge 23, 3) := by decide +kernel
theorem dX0_tally_21 : decode cX0_tally 21 = .ok (.aload_n 0, 1) := by decide +kernel
theorem dX0_tally_22 : decode cX0_tally 22 = .ok (.getfield 9, 3) := by decide +kernel
theorem dX0_tally_25 : decode cX0_tally 25 = .ok (.iload_n 2, 1) := by decide +kernel
theorem dX0_tally_26 : decode cX0_tally 26 = .ok (.dup2, 1) := by decide +kernel
theorem dX0_tally_27 : decode cX0_tally 27 = .ok (.iaload, 1) := by decide +kernel
theorem dX0_tally_28 : decode cX0_tally 28 = .ok (.iload_n 1, 1) := by decide +kernel
theorem dX0_tally_29 : decode cX0_tally 29 = .ok (.iload_n 2, 1) := by decide +kernel
theorem dX0_tally_30 : decode cX0_tally 30 = .ok (.ishr, 1) := by decide +kernel
theorem dX0_tally_31 : decode cX0_tally 31 = .ok (.iconst 1, 1) := by decide +kernel
theorem dX0_tally_32 : decode cX0_tally 32 = .ok (.iand, 1) := by decide +kernel
theorem dX0_tally_33 : decode cX0_tally 33 = .ok (.iadd, 1) := by decide +kernel
theorem dX0_tally_34 : decode cX0_tally 34 = .ok (.iastore, 1) := by decide +kernel
theorem dX0_tally_35 : decode cX0_tally 35 = .ok (.iinc 2 1, 3) := by decide +kernel
theorem dX0_tally_38 : decode cX0_tally 38 = .ok (.goto (-26), 3) := by decide +kernel
theorem dX0_tally_41 : decode cX0_tally 41 = .ok (.return_, 1) := by decide +kernel
theorem dX1_init_0 : decode cX1_init 0 = .ok (.aload_n 0, 1) := by decide +kernel
theorem dX1_init_1 : decode cX1_init 1 = .ok (.invokespecial 3, 3) := by decide +kernel
theorem dX1_init_4 : decode cX1_init 4 = .ok (.aload_n 0, 1) := by decide +kernel
theorem dX1_init_5 : decode cX1_init 5 = .ok (.iconst 1, 1) := by decide +kernel
theorem dX1_init_6 : decode cX1_init 6 = .ok (.newarray .int, 2) := by decide +kernel
theorem dX1_init_8 : decode cX1_init 8 = .ok (.putfield 9, 3) := by decide +kernel
theorem dX1_init_11 : decode cX1_init 11 = .ok (.aload_n 0, 1) := by decide +kernel
theorem dX1_init_12 : decode cX1_init 12 = .ok (.aload_n 1, 1) := by decide +kernel
theorem dX1_init_13 : decode cX1_init 13 = .ok (.putfield 15, 3) := by decide +kernel
theorem dX1_init_16 : decode cX1_init 16 = .ok (.return_, 1) := by decide +kernel
theorem dX1_begin_0 : decode cX1_begin 0 = .ok (.aload_n 0, 1) := by decide +kernel
theorem dX1_begin_1 : decode cX1_begin 1 = .ok (.aload_n 1, 1) := by decide +kernel
theorem dX1_begin_2 : decode cX1_begin 2 = .ok (.putfield 15, 3) := by decide +kernel
theorem dX1_begin_5 : decode cX1_begin 5 = .ok (.aload_n 0, 1) := by decide +kernel
theorem dX1_begin_6 : decode cX1_begin 6 = .ok (.iload_n 2, 1) := by decide +kernel
theorem dX1_begin_7 : decode cX1_begin 7 = .ok (.putfield 19, 3) := by decide +kernel
theorem dX1_begin_10 : decode cX1_begin 10 = .ok (.aload_n 0, 1) := by decide +kernel
theorem dX1_begin_11 : decode cX1_begin 11 = .ok (.iload_n 3, 1) := by decide +kernel
theorem dX1_begin_12 : decode cX1_begin 12 = .ok (.putfield 23, 3) := by decide +kernel
theorem dX1_begin_15 : decode cX1_begin 15 = .ok (.aload_n 0, 1) := by decide +kernel
theorem dX1_begin_16 : decode cX1_begin 16 = .ok (.iload 4, 2) := by decide +kernel
theorem dX1_begin_18 : decode cX1_begin 18 = .ok (.putfield 26, 3) := by decide +kernel
theorem dX1_begin_21 : decode cX1_begin 21 = .ok (.aload_n 0, 1) := by decide +kernel
theorem dX1_begin_22 : decode cX1_begin 22 = .ok (.getfield 9, 3) := by decide +kernel
theorem dX1_begin_25 : decode cX1_begin 25 = .ok (.arraylength, 1) := by decide +kernel
theorem dX1_begin_26 : decode cX1_begin 26 = .ok (.aload_n 1, 1) := by decide +kernel
theorem dX1_begin_27 : decode cX1_begin 27 = .ok (.invokevirtual 29, 3) := by decide +kernel
theorem dX1_begin_30 : decode cX1_begin 30 = .ok (.if_icmp .ge 13, 3) := by decide +kernel
theorem dX1_begin_33 : decode cX1_begin 33 = .ok (.aload_n 0, 1) := by decide +kernel
theorem dX1_begin_34 : decode cX1_begin 34 = .ok (.aload_n 1, 1) := by decide +kernel
theorem dX1_begin_35 : decode cX1_begin 35 = .ok (.invokevirtual 29, 3) := by decide +kernel
theorem dX1_begin_38 : decode cX1_begin 38 = .ok (.newarray .int, 2) := by decide +kernel
theorem dX1_begin_40 : decode cX1_begin 40 = .ok (.putfield 9, 3) := by decide +kernel
theorem dX1_begin_43 : decode cX1_begin 43 = .ok (.aload_n 0, 1) := by decide +kernel
theorem dX1_begin_44 : decode cX1_begin 44 = .ok (.getfield 9, 3) := by decide +kernel
theorem dX1_begin_47 : decode cX1_begin 47 = .ok (.iconst 0, 1) := by decide +kernel
theorem dX1_begin_48 : decode cX1_begin 48 = .ok (.invokestatic 35, 3) := by decide +kernel
theorem dX1_begin_51 : decode cX1_begin 51 = .ok (.return_, 1) := by decide +kernel
theorem dX1_fewestTurns_0 : decode cX1_fewestTurns 0 = .ok (.iconst 0, 1) := by decide +kernel
theorem dX1_fewestTurns_1 : decode cX1_fewestTurns 1 = .ok (.istore_n 2, 1) := by decide +kernel
theorem dX1_fewestTurns_2 : decode cX1_fewestTurns 2 = .ok (.iload_n 2, 1) := by decide +kernel
theorem dX1_fewestTurns_3 : decode cX1_fewestTurns 3 = .ok (.bipush 6, 2) := by decide +kernel
theorem dX1_fewestTurns_5 : decode cX1_fewestTurns 5 = .ok (.if_icmp .gt 21, 3) := by decide +kernel
theorem dX1_fewestTurns_8 : decode cX1_fewestTurns 8 = .ok (.aload_n 0, 1) := by decide +kernel
theorem dX1_fewestTurns_9 : decode cX1_fewestTurns 9 = .ok (.iload_n 1, 1) := by decide +kernel
theorem dX1_fewestTurns_10 : decode cX1_fewestTurns 10 = .ok (.iload_n 2, 1) := by decide +kernel
theorem dX1_fewestTurns_11 : decode cX1_fewestTurns 11 = .ok (.iconst 1, 1) := by decide +kernel
theorem dX1_fewestTurns_12 : decode cX1_fewestTurns 12 = .ok (.invokevirtual 41, 3) := by decide +kernel
theorem dX1_fewestTurns_15 : decode cX1_fewestTurns 15 = .ok (.ifCond .eq 5, 3) := by decide +kernel
theorem dX1_fewestTurns_18 : decode cX1_fewestTurns 18 = .ok (.iload_n 2, 1) := by decide +kernel
theorem dX1_fewestTurns_19 : decode cX1_fewestTurns 19 = .ok (.ireturn, 1) := by decide +kernel
theorem dX1_fewestTurns_20 : decode cX1_fewestTurns 20 = .ok (.iinc 2 1, 3) := by decide +kernel
theorem dX1_fewestTurns_23 : decode cX1_fewestTurns 23 = .ok (.goto (-21), 3) := by decide +kernel
theorem dX1_fewestTurns_26 : decode cX1_fewestTurns 26 = .ok (.iconst (-1), 1) := by decide +kernel
theorem dX1_fewestTurns_27 : decode cX1_fewestTurns 27 = .ok (.ireturn, 1) := by decide +kernel
theorem dX1_firstMove_0 : decode cX1_firstMove 0 = .ok (.iconst 0, 1) := by decide +kernel
theorem dX1_firstMove_1 : decode cX1_firstMove 1 = .ok (.istore_n 3, 1) := by decide +kernel
theorem dX1_firstMove_2 : decode cX1_firstMove 2 = .ok (.iload_n 3, 1) := by decide +kernel
theorem dX1_firstMove_3 : decode cX1_firstMove 3 = .ok (.iconst 2, 1) := by decide +kernel
theorem dX1_firstMove_4 : decode cX1_firstMove 4 = .ok (.if_icmp .ge 73, 3) := by decide +kernel
theorem dX1_firstMove_7 : decode cX1_firstMove 7 = .ok (.iconst 0, 1) := by decide +kernel
theorem dX1_firstMove_8 : decode cX1_firstMove 8 = .ok (.istore 4, 2) := by decide +kernel
theorem dX1_firstMove_10 : decode cX1_firstMove 10 = .ok (.iload 4, 2) := by decide +kernel
theorem dX1_firstMove_12 : decode cX1_firstMove 12 = .ok (.aload_n 0, 1) := by decide +kernel
theorem dX1_firstMove_13 : decode cX1_firstMove 13 = .ok (.getfield 15, 3) := by decide +kernel
theorem dX1_firstMove_16 : decode cX1_firstMove 16 = .ok (.getfield 45, 3) := by decide +kernel
theorem dX1_firstMove_19 : decode cX1_firstMove 19 = .ok (.if_icmp .ge 52, 3) := by decide +kernel
theorem dX1_firstMove_22 : decode cX1_firstMove 22 = .ok (.aload_n 0, 1) := by decide +kernel
theorem dX1_firstMove_23 : decode cX1_firstMove 23 = .ok (.getfield 15, 3) := by decide +kernel
theorem dX1_firstMove_26 : decode cX1_firstMove 26 = .ok (.iload_n 1, 1) := by decide +kernel
theorem dX1_firstMove_27 : decode cX1_firstMove 27 = .ok (.aload_n 0, 1) := by decide +kernel
theorem dX1_firstMove_28 : decode cX1_firstMove 28 = .ok (.getfield 19, 3) := by decide +kernel
theorem dX1_firstMove_31 : decode cX1_firstMove 31 = .ok (.iload_n 3, 1) := by decide +kernel
theorem dX1_firstMove_32 : decode cX1_firstMove 32 = .ok (.iload 4, 2) := by decide +kernel
theorem dX1_firstMove_34 : decode cX1_firstMove 34 = .ok (.invokevirtual 48, 3) := by decide +kernel
theorem dX1_firstMove_37 : decode cX1_firstMove 37 = .ok (.istore 5, 2) := by decide +kernel
theorem dX1_firstMove_39 : decode cX1_firstMove 39 = .ok (.iload 5, 2) := by decide +kernel
theorem dX1_firstMove_41 : decode cX1_firstMove 41 = .ok (.ifCond .lt 24, 3) := by decide +kernel
theorem dX1_firstMove_44 : decode cX1_firstMove 44 = .ok (.aload_n 0, 1) := by decide +kernel
theorem dX1_firstMove_45 : decode cX1_firstMove 45 = .ok (.iload 5, 2) := by decide +kernel
theorem dX1_firstMove_47 : decode cX1_firstMove 47 = .ok (.iload_n 2, 1) := by decide +kernel
theorem dX1_firstMove_48 : decode cX1_firstMove 48 = .ok (.iconst 1, 1) := by decide +kernel
theorem dX1_firstMove_49 : decode cX1_firstMove 49 = .ok (.isub, 1) := by decide +kernel
theorem dX1_firstMove_50 : decode cX1_firstMove 50 = .ok (.iconst 0, 1) := by decide +kernel
theorem dX1_firstMove_51 : decode cX1_firstMove 51 = .ok (.invokevirtual 41, 3) := by decide +kernel
theorem dX1_firstMove_54 : decode cX1_firstMove 54 = .ok (.ifCond .eq 11, 3) := by decide +kernel
theorem dX1_firstMove_57 : decode cX1_firstMove 57 = .ok (.bipush 10, 2) := by decide +kernel
theorem dX1_firstMove_59 : decode cX1_firstMove 59 = .ok (.iload_n 3, 1) := by decide +kernel
theorem dX1_firstMove_60 : decode cX1_firstMove 60 = .ok (.imul, 1) := by decide +kernel
theorem dX1_firstMove_61 : decode cX1_firstMove 61 = .ok (.iload 4, 2) := by decide +kernel
theorem dX1_firstMove_63 : decode cX1_firstMove 63 = .ok (.iadd, 1) := by decide +kernel
theorem dX1_firstMove_64 : decode cX1_firstMove 64 = .ok (.ireturn, 1) := by decide +kernel
theorem dX1_firstMove_65 : decode cX1_firstMove 65 = .ok (.iinc 4 1, 3) := by decide +kernel
theorem dX1_firstMove_68 : decode cX1_firstMove 68 = .ok (.goto (-58), 3) := by decide +kernel
theorem dX1_firstMove_71 : decode cX1_firstMove 71 = .ok (.iinc 3 1, 3) := by decide +kernel
theorem dX1_firstMove_74 : decode cX1_firstMove 74 = .ok (.goto (-72), 3) := by decide +kernel
theorem dX1_firstMove_77 : decode cX1_firstMove 77 = .ok (.aload_n 0, 1) := by decide +kernel
theorem dX1_firstMove_78 : decode cX1_firstMove 78 = .ok (.iload_n 1, 1) := by decide +kernel
theorem dX1_firstMove_79 : decode cX1_firstMove 79 = .ok (.invokestatic 52, 3) := by decide +kernel
theorem dX1_firstMove_82 : decode cX1_firstMove 82 = .ok (.iload_n 2, 1) := by decide +kernel
theorem dX1_firstMove_83 : decode cX1_firstMove 83 = .ok (.iconst 1, 1) := by decide +kernel
theorem dX1_firstMove_84 : decode cX1_firstMove 84 = .ok (.isub, 1) := by decide +kernel
theorem dX1_firstMove_85 : decode cX1_firstMove 85 = .ok (.iconst 0, 1) := by decide +kernel
theorem dX1_firstMove_86 : decode cX1_firstMove 86 = .ok (.invokevirtual 41, 3) := by decide +kernel
theorem dX1_firstMove_89 : decode cX1_firstMove 89 = .ok (.ifCond .eq 8, 3) := by decide +kernel
theorem dX1_firstMove_92 : decode cX1_firstMove 92 = .ok (.bipush 99, 2) := by decide +kernel
theorem dX1_firstMove_94 : decode cX1_firstMove 94 = .ok (.goto 4, 3) := by decide +kernel
theorem dX1_firstMove_97 : decode cX1_firstMove 97 = .ok (.iconst (-1), 1) := by decide +kernel
theorem dX1_firstMove_98 : decode cX1_firstMove 98 = .ok (.ireturn, 1) := by decide +kernel
theorem dX1_isForced_0 : decode cX1_isForced 0 = .ok (.iload_n 1, 1) := by decide +kernel
theorem dX1_isForced_1 : decode cX1_isForced 1 = .ok (.ifCond .lt 12, 3) := by decide +kernel
theorem dX1_isForced_4 : decode cX1_isForced 4 = .ok (.iload_n 1, 1) := by decide +kernel
theorem dX1_isForced_5 : decode cX1_isForced 5 = .ok (.aload_n 0, 1) := by decide +kernel
theorem dX1_isForced_6 : decode cX1_isForced 6 = .ok (.getfield 9, 3) := by decide +kernel
theorem dX1_isForced_9 : decode cX1_isForced 9 = .ok (.arraylength, 1) := by decide +kernel
theorem dX1_isForced_10 : decode cX1_isForced 10 = .ok (.if_icmp .lt 5, 3) := by decide +kernel
theorem dX1_isForced_13 : decode cX1_isForced 13 = .ok (.iconst 0, 1) := by decide +kernel
theorem dX1_isForced_14 : decode cX1_isForced 14 = .ok (.ireturn, 1) := by decide +kernel
theorem dX1_isForced_15 : decode cX1_isForced 15 = .ok (.aload_n 0, 1) := by decide +kernel
theorem dX1_isForced_16 : decode cX1_isForced 16 = .ok (.getfield 15, 3) := by decide +kernel
theorem dX1_isForced_19 : decode cX1_isForced 19 = .ok (.iload_n 1, 1) := by decide +kernel
theorem dX1_isForced_20 : decode cX1_isForced 20 = .ok (.aload_n 0, 1) := by decide +kernel
theorem dX1_isForced_21 : decode cX1_isForced 21 = .ok (.getfield 23, 3) := by decide +kernel
theorem dX1_isForced_24 : decode cX1_isForced 24 = .ok (.invokevirtual 56, 3) := by decide +kernel
theorem dX1_isForced_27 : decode cX1_isForced 27 = .ok (.aload_n 0, 1) := by decide +kernel
theorem dX1_isForced_28 : decode cX1_isForced 28 = .ok (.getfield 26, 3) := by decide +kernel
theorem dX1_isForced_31 : decode cX1_isForced 31 = .ok (.ishr, 1) := by decide +kernel
theorem dX1_isForced_32 : decode cX1_isForced 32 = .ok (.iconst 1, 1) := by decide +kernel
theorem dX1_isForced_33 : decode cX1_isForced 33 = .ok (.iand, 1) := by decide +kernel
theorem dX1_isForced_34 : decode cX1_isForced 34 = .ok (.ifCond .eq 5, 3) := by decide +kernel
theorem dX1_isForced_37 : decode cX1_isForced 37 = .ok (.iconst 1, 1) := by decide +kernel
theorem dX1_isForced_38 : decode cX1_isForced 38 = .ok (.ireturn, 1) := by decide +kernel
theorem dX1_isForced_39 : decode cX1_isForced 39 = .ok (.iload_n 2, 1) := by decide +kernel
theorem dX1_isForced_40 : decode cX1_isForced 40 = .ok (.ifCond .le 9, 3) := by decide +kernel
theorem dX1_isForced_43 : decode cX1_isForced 43 = .ok (.iload_n 2, 1) := by decide +kernel
theorem dX1_isForced_44 : decode cX1_isForced 44 = .ok (.bipush 6, 2) := by decide +kernel
theorem dX1_isForced_46 : decode cX1_isForced 46 = .ok (.if_icmp .le 5, 3) := by decide +kernel
theorem dX1_isForced_49 : decode cX1_isForced 49 = .ok (.iconst 0, 1) := by decide +kernel
theorem dX1_isForced_50 : decode cX1_isForced 50 = .ok (.ireturn, 1) := by decide +kernel
theorem dX1_isForced_51 : decode cX1_isForced 51 = .ok (.iconst 2, 1) := by decide +kernel
theorem dX1_isForced_52 : decode cX1_isForced 52 = .ok (.iload_n 2, 1) := by decide +kernel
theorem dX1_isForced_53 : decode cX1_isForced 53 = .ok (.iconst 1, 1) := by decide +kernel
theorem dX1_isForced_54 : decode cX1_isForced 54 = .ok (.isub, 1) := by decide +kernel
theorem dX1_isForced_55 : decode cX1_isForced 55 = .ok (.imul, 1) := by decide +kernel
theorem dX1_isForced_56 : decode cX1_isForced 56 = .ok (.iload_n 3, 1) := by decide +kernel
theorem dX1_isForced_57 : decode cX1_isForced 57 = .ok (.ifCond .eq 8, 3) := by decide +kernel
theorem dX1_isForced_60 : decode cX1_isForced 60 = .ok (.bipush 12, 2) := by decide +kernel
theorem dX1_isForced_62 : decode cX1_isForced 62 = .ok (.goto 4, 3) := by decide +kernel
theorem dX1_isForced_65 : decode cX1_isForced 65 = .ok (.iconst 0, 1) := by decide +kernel
theorem dX1_isForced_66 : decode cX1_isForced 66 = .ok (.iadd, 1) := by decide +kernel
theorem dX1_isForced_67 : decode cX1_isForced 67 = .ok (.istore 4, 2) := by decide +kernel
theorem dX1_isForced_69 : decode cX1_isForced 69 = .ok (.aload_n 0, 1) := by decide +kernel
theorem dX1_isForced_70 : decode cX1_isForced 70 = .ok (.getfield 9, 3) := by decide +kernel
theorem dX1_isForced_73 : decode cX1_isForced 73 = .ok (.iload_n 1, 1) := by decide +kernel
theorem dX1_isForced_74 : decode cX1_isForced 74 = .ok (.iaload, 1) := by decide +kernel
theorem dX1_isForced_75 : decode cX1_isForced 75 = .ok (.iload 4, 2) := by decide +kernel
theorem dX1_isForced_77 : decode cX1_isForced 77 = .ok (.ishr, 1) := by decide +kernel
theorem dX1_isForced_78 : decode cX1_isForced 78 = .ok (.iconst 3, 1) := by decide +kernel
theorem dX1_isForced_79 : decode cX1_isForced 79 = .ok (.iand, 1) := by decide +kernel
theorem dX1_isForced_80 : decode cX1_isForced 80 = .ok (.istore 5, 2) := by decide +kernel
theorem dX1_isForced_82 : decode cX1_isForced 82 = .ok (.iload 5, 2) := by decide +kernel
theorem dX1_isForced_84 : decode cX1_isForced 84 = .ok (.ifCond .eq 15, 3) := by decide +kernel
theorem dX1_isForced_87 : decode cX1_isForced 87 = .ok (.iload 5, 2) := by decide +kernel
theorem dX1_isForced_89 : decode cX1_isForced 89 = .ok (.iconst 2, 1) := by decide +kernel
theorem dX1_isForced_90 : decode cX1_isForced 90 = .ok (.if_icmp .ne 7, 3) := by decide +kernel
theorem dX1_isForced_93 : decode cX1_isForced 93 = .ok (.iconst 1, 1) := by decide +kernel
theorem dX1_isForced_94 : decode cX1_isForced 94 = .ok (.goto 4, 3) := by decide +kernel
theorem dX1_isForced_97 : decode cX1_isForced 97 = .ok (.iconst 0, 1) := by decide +kernel
theorem dX1_isForced_98 : decode cX1_isForced 98 = .ok (.ireturn, 1) := by decide +kernel
theorem dX1_isForced_99 : decode cX1_isForced 99 = .ok (.aload_n 0, 1) := by decide +kernel
theorem dX1_isForced_100 : decode cX1_isForced 100 = .ok (.iload_n 3, 1) := by decide +kernel
theorem dX1_isForced_101 : decode cX1_isForced 101 = .ok (.iload_n 1, 1) := by decide +kernel
theorem dX1_isForced_102 : decode cX1_isForced 102 = .ok (.iload_n 2, 1) := by decide +kernel
theorem dX1_isForced_103 : decode cX1_isForced 103 = .ok (.invokevirtual 60, 3) := by decide +kernel
theorem dX1_isForced_106 : decode cX1_isForced 106 = .ok (.iload_n 3, 1) := by decide +kernel
theorem dX1_isForced_107 : decode cX1_isForced 107 = .ok (.if_icmp .ne 7, 3) := by decide +kernel
theorem dX1_isForced_110 : decode cX1_isForced 110 = .ok (.iconst 1, 1) := by decide +kernel
theorem dX1_isForced_111 : decode cX1_isForced 111 = .ok (.goto 4, 3) := by decide +kernel
theorem dX1_isForced_114 : decode cX1_isForced 114 = .ok (.iconst 0, 1) := by decide +kernel
theorem dX1_isForced_115 : decode cX1_isForced 115 = .ok (.istore 6, 2) := by decide +kernel
theorem dX1_isForced_117 : decode cX1_isForced 117 = .ok (.aload_n 0, 1) := by decide +kernel
theorem dX1_isForced_118 : decode cX1_isForced 118 = .ok (.getfield 9, 3) := by decide +kernel
theorem dX1_isForced_121 : decode cX1_isForced 121 = .ok (.iload_n 1, 1) := by decide +kernel
theorem dX1_isForced_122 : decode cX1_isForced 122 = .ok (.dup2, 1) := by decide +kernel
theorem dX1_isForced_123 : decode cX1_isForced 123 = .ok (.iaload, 1) := by decide +kernel
theorem dX1_isForced_124 : decode cX1_isForced 124 = .ok (.iload 6, 2) := by decide +kernel
theorem dX1_isForced_126 : decode cX1_isForced 126 = .ok (.ifCond .eq 7, 3) := by decide +kernel
theorem dX1_isForced_129 : decode cX1_isForced 129 = .ok (.iconst 2, 1) := by decide +kernel
theorem dX1_isForced_130 : decode cX1_isForced 130 = .ok (.goto 4, 3) := by decide +kernel
theorem dX1_isForced_133 : decode cX1_isForced 133 = .ok (.iconst 1, 1) := by decide +kernel
theorem dX1_isForced_134 : decode cX1_isForced 134 = .ok (.iload 4, 2) := by decide +kernel
theorem dX1_isForced_136 : decode cX1_isForced 136 = .ok (.ishl, 1) := by decide +kernel
theorem dX1_isForced_137 : decode cX1_isForced 137 = .ok (.ior, 1) := by decide +kernel
theorem dX1_isForced_138 : decode cX1_isForced 138 = .ok (.iastore, 1) := by decide +kernel
theorem dX1_isForced_139 : decode cX1_isForced 139 = .ok (.iload 6, 2) := by decide +kernel
theorem dX1_isForced_141 : decode cX1_isForced 141 = .ok (.ireturn, 1) := by decide +kernel
theorem dX1_hasMoveTo_0 : decode cX1_hasMoveTo 0 = .ok (.iconst 0, 1) := by decide +kernel
theorem dX1_hasMoveTo_1 : decode cX1_hasMoveTo 1 = .ok (.istore 4, 2) := by decide +kernel
theorem dX1_hasMoveTo_3 : decode cX1_hasMoveTo 3 = .ok (.iload 4, 2) := by decide +kernel
theorem dX1_hasMoveTo_5 : decode cX1_hasMoveTo 5 = .ok (.iconst 2, 1) := by decide +kernel
theorem dX1_hasMoveTo_6 : decode cX1_hasMoveTo 6 = .ok (.if_icmp .ge 77, 3) := by decide +kernel
theorem dX1_hasMoveTo_9 : decode cX1_hasMoveTo 9 = .ok (.iconst 0, 1) := by decide +kernel
theorem dX1_hasMoveTo_10 : decode cX1_hasMoveTo 10 = .ok (.istore 5, 2) := by decide +kernel
theorem dX1_hasMoveTo_12 : decode cX1_hasMoveTo 12 = .ok (.iload 5, 2) := by decide +kernel
theorem dX1_hasMoveTo_14 : decode cX1_hasMoveTo 14 = .ok (.aload_n 0, 1) := by decide +kernel
theorem dX1_hasMoveTo_15 : decode cX1_hasMoveTo 15 = .ok (.getfield 15, 3) := by decide +kernel
theorem dX1_hasMoveTo_18 : decode cX1_hasMoveTo 18 = .ok (.getfield 45, 3) := by decide +kernel
theorem dX1_hasMoveTo_21 : decode cX1_hasMoveTo 21 = .ok (.if_icmp .ge 56, 3) := by decide +kernel
theorem dX1_hasMoveTo_24 : decode cX1_hasMoveTo 24 = .ok (.aload_n 0, 1) := by decide +kernel
theorem dX1_hasMoveTo_25 : decode cX1_hasMoveTo 25 = .ok (.getfield 15, 3) := by decide +kernel
theorem dX1_hasMoveTo_28 : decode cX1_hasMoveTo 28 = .ok (.iload_n 2, 1) := by decide +kernel
theorem dX1_hasMoveTo_29 : decode cX1_hasMoveTo 29 = .ok (.aload_n 0, 1) := by decide +kernel
theorem dX1_hasMoveTo_30 : decode cX1_hasMoveTo 30 = .ok (.getfield 19, 3) := by decide +kernel
theorem dX1_hasMoveTo_33 : decode cX1_hasMoveTo 33 = .ok (.iload 4, 2) := by decide +kernel
theorem dX1_hasMoveTo_35 : decode cX1_hasMoveTo 35 = .ok (.iload 5, 2) := by decide +kernel
theorem dX1_hasMoveTo_37 : decode cX1_hasMoveTo 37 = .ok (.invokevirtual 48, 3) := by decide +kernel
theorem dX1_hasMoveTo_40 : decode cX1_hasMoveTo 40 = .ok (.istore 6, 2) := by decide +kernel
theorem dX1_hasMoveTo_42 : decode cX1_hasMoveTo 42 = .ok (.iload 6, 2) := by decide +kernel
theorem dX1_hasMoveTo_44 : decode cX1_hasMoveTo 44 = .ok (.ifCond .lt 27, 3) := by decide +kernel
theorem dX1_hasMoveTo_47 : decode cX1_hasMoveTo 47 = .ok (.aload_n 0, 1) := by decide +kernel
theorem dX1_hasMoveTo_48 : decode cX1_hasMoveTo 48 = .ok (.iload 6, 2) := by decide +kernel
theorem dX1_hasMoveTo_50 : decode cX1_hasMoveTo 50 = .ok (.iload_n 3, 1) := by decide +kernel
theorem dX1_hasMoveTo_51 : decode cX1_hasMoveTo 51 = .ok (.iconst 1, 1) := by decide +kernel
theorem dX1_hasMoveTo_52 : decode cX1_hasMoveTo 52 = .ok (.isub, 1) := by decide +kernel
theorem dX1_hasMoveTo_53 : decode cX1_hasMoveTo 53 = .ok (.iload_n 1, 1) := by decide +kernel
theorem dX1_hasMoveTo_54 : decode cX1_hasMoveTo 54 = .ok (.ifCond .ne 7, 3) := by decide +kernel
theorem dX1_hasMoveTo_57 : decode cX1_hasMoveTo 57 = .ok (.iconst 1, 1) := by decide +kernel
theorem dX1_hasMoveTo_58 : decode cX1_hasMoveTo 58 = .ok (.goto 4, 3) := by decide +kernel
theorem dX1_hasMoveTo_61 : decode cX1_hasMoveTo 61 = .ok (.iconst 0, 1) := by decide +kernel
theorem dX1_hasMoveTo_62 : decode cX1_hasMoveTo 62 = .ok (.invokevirtual 41, 3) := by decide +kernel
theorem dX1_hasMoveTo_65 : decode cX1_hasMoveTo 65 = .ok (.iload_n 1, 1) := by decide +kernel
theorem dX1_hasMoveTo_66 : decode cX1_hasMoveTo 66 = .ok (.if_icmp .ne 5, 3) := by decide +kernel
theorem dX1_hasMoveTo_69 : decode cX1_hasMoveTo 69 = .ok (.iconst 1, 1) := by decide +kernel
theorem dX1_hasMoveTo_70 : decode cX1_hasMoveTo 70 = .ok (.ireturn, 1) := by decide +kernel
theorem dX1_hasMoveTo_71 : decode cX1_hasMoveTo 71 = .ok (.iinc 5 1, 3) := by decide +kernel
theorem dX1_hasMoveTo_74 : decode cX1_hasMoveTo 74 = .ok (.goto (-62), 3) := by decide +kernel
theorem dX1_hasMoveTo_77 : decode cX1_hasMoveTo 77 = .ok (.iinc 4 1, 3) := by decide +kernel
theorem dX1_hasMoveTo_80 : decode cX1_hasMoveTo 80 = .ok (.goto (-77), 3) := by decide +kernel
theorem dX1_hasMoveTo_83 : decode cX1_hasMoveTo 83 = .ok (.aload_n 0, 1) := by decide +kernel
theorem dX1_hasMoveTo_84 : decode cX1_hasMoveTo 84 = .ok (.iload_n 2, 1) := by decide +kernel
theorem dX1_hasMoveTo_85 : decode cX1_hasMoveTo 85 = .ok (.invokestatic 52, 3) := by decide +kernel
theorem dX1_hasMoveTo_88 : decode cX1_hasMoveTo 88 = .ok (.iload_n 3, 1) := by decide +kernel
theorem dX1_hasMoveTo_89 : decode cX1_hasMoveTo 89 = .ok (.iconst 1, 1) := by decide +kernel
theorem dX1_hasMoveTo_90 : decode cX1_hasMoveTo 90 = .ok (.isub, 1) := by decide +kernel
theorem dX1_hasMoveTo_91 : decode cX1_hasMoveTo 91 = .ok (.iload_n 1, 1) := by decide +kernel
theorem dX1_hasMoveTo_92 : decode cX1_hasMoveTo 92 = .ok (.ifCond .ne 7, 3) := by decide +kernel
theorem dX1_hasMoveTo_95 : decode cX1_hasMoveTo 95 = .ok (.iconst 1, 1) := by decide +kernel
theorem dX1_hasMoveTo_96 : decode cX1_hasMoveTo 96 = .ok (.goto 4, 3) := by decide +kernel
theorem dX1_hasMoveTo_99 : decode cX1_hasMoveTo 99 = .ok (.iconst 0, 1) := by decide +kernel
theorem dX1_hasMoveTo_100 : decode cX1_hasMoveTo 100 = .ok (.invokevirtual 41, 3) := by decide +kernel
theorem dX1_hasMoveTo_103 : decode cX1_hasMoveTo 103 = .ok (.iload_n 1, 1) := by decide +kernel
theorem dX1_hasMoveTo_104 : decode cX1_hasMoveTo 104 = .ok (.if_icmp .ne 7, 3) := by decide +kernel
theorem dX1_hasMoveTo_107 : decode cX1_hasMoveTo 107 = .ok (.iconst 1, 1) := by decide +kernel
theorem dX1_hasMoveTo_108 : decode cX1_hasMoveTo 108 = .ok (.goto 4, 3) := by decide +kernel
theorem dX1_hasMoveTo_111 : decode cX1_hasMoveTo 111 = .ok (.iconst 0, 1) := by decide +kernel
theorem dX1_hasMoveTo_112 : decode cX1_hasMoveTo 112 = .ok (.ireturn, 1) := by decide +kernel
theorem dX2_init_0 : decode cX2_init 0 = .ok (.aload_n 0, 1) := by decide +kernel
theorem dX2_init_1 : decode cX2_init 1 = .ok (.invokespecial 5, 3) := by decide +kernel
theorem dX2_init_4 : decode cX2_init 4 = .ok (.aload_n 0, 1) := by decide +kernel
theorem dX2_init_5 : decode cX2_init 5 = .ok (.iconst 4, 1) := by decide +kernel
theorem dX2_init_6 : decode cX2_init 6 = .ok (.newarray .int, 2) := by decide +kernel
theorem dX2_init_8 : decode cX2_init 8 = .ok (.putfield 11, 3) := by decide +kernel
theorem dX2_init_11 : decode cX2_init 11 = .ok (.aload_n 0, 1) := by decide +kernel
theorem dX2_init_12 : decode cX2_init 12 = .ok (.bipush 24, 2) := by decide +kernel
theorem dX2_init_14 : decode cX2_init 14 = .ok (.newarray .int, 2) := by decide +kernel
theorem dX2_init_16 : decode cX2_init 16 = .ok (.putfield 15, 3) := by decide +kernel
theorem dX2_init_19 : decode cX2_init 19 = .ok (.aload_n 0, 1) := by decide +kernel
theorem dX2_init_20 : decode cX2_init 20 = .ok (.bipush 6, 2) := by decide +kernel
theorem dX2_init_22 : decode cX2_init 22 = .ok (.newarray .int, 2) := by decide +kernel
theorem dX2_init_24 : decode cX2_init 24 = .ok (.putfield 18, 3) := by decide +kernel
theorem dX2_init_27 : decode cX2_init 27 = .ok (.aload_n 0, 1) := by decide +kernel
theorem dX2_init_28 : decode cX2_init 28 = .ok (.sipush 256, 3) := by decide +kernel
theorem dX2_init_31 : decode cX2_init 31 = .ok (.newarray .int, 2) := by decide +kernel
theorem dX2_init_33 : decode cX2_init 33 = .ok (.putfield 21, 3) := by decide +kernel
theorem dX2_init_36 : decode cX2_init 36 = .ok (.aload_n 0, 1) := by decide +kernel
theorem dX2_init_37 : decode cX2_init 37 = .ok (.sipush 2000, 3) := by decide +kernel
theorem dX2_init_40 : decode cX2_init 40 = .ok (.newarray .int, 2) := by decide +kernel
theorem dX2_init_42 : decode cX2_init 42 = .ok (.putfield 24, 3) := by decide +kernel
theorem dX2_init_45 : decode cX2_init 45 = .ok (.return_, 1) := by decide +kernel
theorem dX2_clear_0 : decode cX2_clear 0 = .ok (.aload_n 0, 1) := by decide +kernel
theorem dX2_clear_1 : decode cX2_clear 1 = .ok (.iconst 0, 1) := by decide +kernel
theorem dX2_clear_2 : decode cX2_clear 2 = .ok (.putfield 27, 3) := by decide +kernel
theorem dX2_clear_5 : decode cX2_clear 5 = .ok (.aload_n 0, 1) := by decide +kernel
theorem dX2_clear_6 : decode cX2_clear 6 = .ok (.iconst 0, 1) := by decide +kernel
theorem dX2_clear_7 : decode cX2_clear 7 = .ok (.putfield 31, 3) := by decide +kernel
theorem dX2_clear_10 : decode cX2_clear 10 = .ok (.aload_n 0, 1) := by decide +kernel
theorem dX2_clear_11 : decode cX2_clear 11 = .ok (.iconst 0, 1) := by decide +kernel
theorem dX2_clear_12 : decode cX2_clear 12 = .ok (.putfield 34, 3) := by decide +kernel
theorem dX2_clear_15 : decode cX2_clear 15 = .ok (.aload_n 0, 1) := by decide +kernel
theorem dX2_clear_16 : decode cX2_clear 16 = .ok (.iconst 0, 1) := by decide +kernel
theorem dX2_clear_17 : decode cX2_clear 17 = .ok (.putfield 37, 3) := by decide +kernel
theorem dX2_clear_20 : decode cX2_clear 20 = .ok (.aload_n 0, 1) := by decide +kernel
theorem dX2_clear_21 : decode cX2_clear 21 = .ok (.iconst 0, 1) := by decide +kernel
theorem dX2_clear_22 : decode cX2_clear 22 = .ok (.putfield 40, 3) := by decide +kernel
theorem dX2_clear_25 : decode cX2_clear 25 = .ok (.aload_n 0, 1) := by decide +kernel
theorem dX2_clear_26 : decode cX2_clear 26 = .ok (.getfield 11, 3) := by decide +kernel
theorem dX2_clear_29 : decode cX2_clear 29 = .ok (.iconst 0, 1) := by decide +kernel
theorem dX2_clear_30 : decode cX2_clear 30 = .ok (.invokestatic 43, 3) := by decide +kernel
theorem dX2_clear_33 : decode cX2_clear 33 = .ok (.aload_n 0, 1) := by decide +kernel
theorem dX2_clear_34 : decode cX2_clear 34 = .ok (.getfield 15, 3) := by decide +kernel
theorem dX2_clear_37 : decode cX2_clear 37 = .ok (.iconst 0, 1) := by decide +kernel
theorem dX2_clear_38 : decode cX2_clear 38 = .ok (.invokestatic 43, 3) := by decide +kernel
theorem dX2_clear_41 : decode cX2_clear 41 = .ok (.aload_n 0, 1) := by decide +kernel
theorem dX2_clear_42 : decode cX2_clear 42 = .ok (.getfield 18, 3) := by decide +kernel
theorem dX2_clear_45 : decode cX2_clear 45 = .ok (.iconst 0, 1) := by decide +kernel
theorem dX2_clear_46 : decode cX2_clear 46 = .ok (.invokestatic 43, 3) := by decide +kernel
theorem dX2_clear_49 : decode cX2_clear 49 = .ok (.return_, 1) := by decide +kernel
theorem dX2_setKind_0 : decode cX2_setKind 0 = .ok (.iload_n 1, 1) := by decide +kernel
theorem dX2_setKind_1 : decode cX2_setKind 1 = .ok (.ifCond .lt 15, 3) := by decide +kernel
theorem dX2_setKind_4 : decode cX2_setKind 4 = .ok (.iload_n 1, 1) := by decide +kernel
theorem dX2_setKind_5 : decode cX2_setKind 5 = .ok (.iconst 4, 1) := by decide +kernel
theorem dX2_setKind_6 : decode cX2_setKind 6 = .ok (.if_icmp .ge 10, 3) := by decide +kernel
theorem dX2_setKind_9 : decode cX2_setKind 9 = .ok (.aload_n 0, 1) := by decide +kernel
theorem dX2_setKind_10 : decode cX2_setKind 10 = .ok (.getfield 11, 3) := by decide +kernel
theorem dX2_setKind_13 : decode cX2_setKind 13 = .ok (.iload_n 1, 1) := by decide +kernel
theorem dX2_setKind_14 : decode cX2_setKind 14 = .ok (.iload_n 2, 1) := by decide +kernel
theorem dX2_setKind_15 : decode cX2_setKind 15 = .ok (.iastore, 1) := by decide +kernel
theorem dX2_setKind_16 : decode cX2_setKind 16 = .ok (.return_, 1) := by decide +kernel
theorem dX2_kindOf_0 : decode cX2_kindOf 0 = .ok (.iload_n 1, 1) := by decide +kernel
theorem dX2_kindOf_1 : decode cX2_kindOf 1 = .ok (.ifCond .lt 17, 3) := by decide +kernel
theorem dX2_kindOf_4 : decode cX2_kindOf 4 = .ok (.iload_n 1, 1) := by decide +kernel
theorem dX2_kindOf_5 : decode cX2_kindOf 5 = .ok (.iconst 4, 1) := by decide +kernel
theorem dX2_kindOf_6 : decode cX2_kindOf 6 = .ok (.if_icmp .ge 12, 3) := by decide +kernel
theorem dX2_kindOf_9 : decode cX2_kindOf 9 = .ok (.aload_n 0, 1) := by decide +kernel
theorem dX2_kindOf_10 : decode cX2_kindOf 10 = .ok (.getfield 11, 3) := by decide +kernel
theorem dX2_kindOf_13 : decode cX2_kindOf 13 = .ok (.iload_n 1, 1) := by decide +kernel
theorem dX2_kindOf_14 : decode cX2_kindOf 14 = .ok (.iaload, 1) := by decide +kernel
theorem dX2_kindOf_15 : decode cX2_kindOf 15 = .ok (.goto 4, 3) := by decide +kernel
theorem dX2_kindOf_18 : decode cX2_kindOf 18 = .ok (.iconst 0, 1) := by decide +kernel
theorem dX2_kindOf_19 : decode cX2_kindOf 19 = .ok (.ireturn, 1) := by decide +kernel
theorem dX2_setNeed_0 : decode cX2_setNeed 0 = .ok (.iload_n 1, 1) := by decide +kernel
theorem dX2_setNeed_1 : decode cX2_setNeed 1 = .ok (.iload_n 2, 1) := by decide +kernel
theorem dX2_setNeed_2 : decode cX2_setNeed 2 = .ok (.invokestatic 49, 3) := by decide +kernel
theorem dX2_setNeed_5 : decode cX2_setNeed 5 = .ok (.ifCond .eq 28, 3) := by decide +kernel
theorem dX2_setNeed_8 : decode cX2_setNeed 8 = .ok (.aload_n 0, 1) := by decide +kernel
theorem dX2_setNeed_9 : decode cX2_setNeed 9 = .ok (.getfield 15, 3) := by decide +kernel
theorem dX2_setNeed_12 : decode cX2_setNeed 12 = .ok (.iload_n 1, 1) := by decide +kernel
theorem dX2_setNeed_13 : decode cX2_setNeed 13 = .ok (.iconst 4, 1) := by decide +kernel
theorem dX2_setNeed_14 : decode cX2_setNeed 14 = .ok (.imul, 1) := by decide +kernel
theorem dX2_setNeed_15 : decode cX2_setNeed 15 = .ok (.iload_n 2, 1) := by decide +kernel
theorem dX2_setNeed_16 : decode cX2_setNeed 16 = .ok (.iadd, 1) := by decide +kernel
theorem dX2_setNeed_17 : decode cX2_setNeed 17 = .ok (.iload_n 3, 1) := by decide +kernel
theorem dX2_setNeed_18 : decode cX2_setNeed 18 = .ok (.iastore, 1) := by decide +kernel
theorem dX2_setNeed_19 : decode cX2_setNeed 19 = .ok (.aload_n 0, 1) := by decide +kernel
theorem dX2_setNeed_20 : decode cX2_setNeed 20 = .ok (.getfield 18, 3) := by decide +kernel
theorem dX2_setNeed_23 : decode cX2_setNeed 23 = .ok (.iload_n 1, 1) := by decide +kernel
theorem dX2_setNeed_24 : decode cX2_setNeed 24 = .ok (.dup2, 1) := by decide +kernel
theorem dX2_setNeed_25 : decode cX2_setNeed 25 = .ok (.iaload, 1) := by decide +kernel
theorem dX2_setNeed_26 : decode cX2_setNeed 26 = .ok (.iconst 1, 1) := by decide +kernel
theorem dX2_setNeed_27 : decode cX2_setNeed 27 = .ok (.iload_n 2, 1) := by decide +kernel
theorem dX2_setNeed_28 : decode cX2_setNeed 28 = .ok (.ishl, 1) := by decide +kernel
theorem dX2_setNeed_29 : decode cX2_setNeed 29 = .ok (.iconst (-1), 1) := by decide +kernel
theorem dX2_setNeed_30 : decode cX2_setNeed 30 = .ok (.ixor, 1) := by decide +kernel
theorem dX2_setNeed_31 : decode cX2_setNeed 31 = .ok (.iand, 1) := by decide +kernel
theorem dX2_setNeed_32 : decode cX2_setNeed 32 = .ok (.iastore, 1) := by decide +kernel
theorem dX2_setNeed_33 : decode cX2_setNeed 33 = .ok (.return_, 1) := by decide +kernel
theorem dX2_setBut_0 : decode cX2_setBut 0 = .ok (.iload_n 1, 1) := by decide +kernel
theorem dX2_setBut_1 : decode cX2_setBut 1 = .ok (.iload_n 2, 1) := by decide +kernel
theorem dX2_setBut_2 : decode cX2_setBut 2 = .ok (.invokestatic 49, 3) := by decide +kernel
theorem dX2_setBut_5 : decode cX2_setBut 5 = .ok (.ifCond .eq 26, 3) := by decide +kernel
theorem dX2_setBut_8 : decode cX2_setBut 8 = .ok (.aload_n 0, 1) := by decide +kernel
theorem dX2_setBut_9 : decode cX2_setBut 9 = .ok (.getfield 15, 3) := by decide +kernel
theorem dX2_setBut_12 : decode cX2_setBut 12 = .ok (.iload_n 1, 1) := by decide +kernel
theorem dX2_setBut_13 : decode cX2_setBut 13 = .ok (.iconst 4, 1) := by decide +kernel
theorem dX2_setBut_14 : decode cX2_setBut 14 = .ok (.imul, 1) := by decide +kernel
theorem dX2_setBut_15 : decode cX2_setBut 15 = .ok (.iload_n 2, 1) := by decide +kernel
theorem dX2_setBut_16 : decode cX2_setBut 16 = .ok (.iadd, 1) := by decide +kernel
theorem dX2_setBut_17 : decode cX2_setBut 17 = .ok (.iconst 0, 1) := by decide +kernel
theorem dX2_setBut_18 : decode cX2_setBut 18 = .ok (.iastore, 1) := by decide +kernel
theorem dX2_setBut_19 : decode cX2_setBut 19 = .ok (.aload_n 0, 1) := by decide +kernel
theorem dX2_setBut_20 : decode cX2_setBut 20 = .ok (.getfield 18, 3) := by decide +kernel
theorem dX2_setBut_23 : decode cX2_setBut 23 = .ok (.iload_n 1, 1) := by decide +kernel
theorem dX2_setBut_24 : decode cX2_setBut 24 = .ok (.dup2, 1) := by decide +kernel
theorem dX2_setBut_25 : decode cX2_setBut 25 = .ok (.iaload, 1) := by decide +kernel
theorem dX2_setBut_26 : decode cX2_setBut 26 = .ok (.iconst 1, 1) := by decide +kernel
theorem dX2_setBut_27 : decode cX2_setBut 27 = .ok (.iload_n 2, 1) := by decide +kernel
theorem dX2_setBut_28 : decode cX2_setBut 28 = .ok (.ishl, 1) := by decide +kernel
theorem dX2_setBut_29 : decode cX2_setBut 29 = .ok (.ior, 1) := by decide +kernel
theorem dX2_setBut_30 : decode cX2_setBut 30 = .ok (.iastore, 1) := by decide +kernel
theorem dX2_setBut_31 : decode cX2_setBut 31 = .ok (.return_, 1) := by decide +kernel
theorem dX2_isPlace_0 : decode cX2_isPlace 0 = .ok (.iload_n 0, 1) := by decide +kernel
theorem dX2_isPlace_1 : decode cX2_isPlace 1 = .ok (.ifCond .lt 22, 3) := by decide +kernel
theorem dX2_isPlace_4 : decode cX2_isPlace 4 = .ok (.iload_n 0, 1) := by decide +kernel
theorem dX2_isPlace_5 : decode cX2_isPlace 5 = .ok (.bipush 6, 2) := by decide +kernel
theorem dX2_isPlace_7 : decode cX2_isPlace 7 = .ok (.if_icmp .ge 16, 3) := by decide +kernel
theorem dX2_isPlace_10 : decode cX2_isPlace 10 = .ok (.iload_n 1, 1) := by decide +kernel
theorem dX2_isPlace_11 : decode cX2_isPlace 11 = .ok (.ifCond .lt 12, 3) := by decide +kernel
theorem dX2_isPlace_14 : decode cX2_isPlace 14 = .ok (.iload_n 1, 1) := by decide +kernel
theorem dX2_isPlace_15 : decode cX2_isPlace 15 = .ok (.iconst 4, 1) := by decide +kernel
theorem dX2_isPlace_16 : decode cX2_isPlace 16 = .ok (.if_icmp .ge 7, 3) := by decide +kernel
theorem dX2_isPlace_19 : decode cX2_isPlace 19 = .ok (.iconst 1, 1) := by decide +kernel
theorem dX2_isPlace_20 : decode cX2_isPlace 20 = .ok (.goto 4, 3) := by decide +kernel
theorem dX2_isPlace_23 : decode cX2_isPlace 23 = .ok (.iconst 0, 1) := by decide +kernel
theorem dX2_isPlace_24 : decode cX2_isPlace 24 = .ok (.ireturn, 1) := by decide +kernel
theorem dX2_setStart_0 : decode cX2_setStart 0 = .ok (.aload_n 0, 1) := by decide +kernel
theorem dX2_setStart_1 : decode cX2_setStart 1 = .ok (.aload_n 0, 1) := by decide +kernel
theorem dX2_setStart_2 : decode cX2_setStart 2 = .ok (.getfield 40, 3) := by decide +kernel
theorem dX2_setStart_5 : decode cX2_setStart 5 = .ok (.iconst 3, 1) := by decide +kernel
theorem dX2_setStart_6 : decode cX2_setStart 6 = .ok (.iconst 4, 1) := by decide +kernel
theorem dX2_setStart_7 : decode cX2_setStart 7 = .ok (.iload_n 2, 1) := by decide +kernel
theorem dX2_setStart_8 : decode cX2_setStart 8 = .ok (.imul, 1) := by decide +kernel
theorem dX2_setStart_9 : decode cX2_setStart 9 = .ok (.iconst 2, 1) := by decide +kernel
theorem dX2_setStart_10 : decode cX2_setStart 10 = .ok (.iload_n 1, 1) := by decide +kernel
theorem dX2_setStart_11 : decode cX2_setStart 11 = .ok (.imul, 1) := by decide +kernel
theorem dX2_setStart_12 : decode cX2_setStart 12 = .ok (.iadd, 1) := by decide +kernel
theorem dX2_setStart_13 : decode cX2_setStart 13 = .ok (.ishl, 1) := by decide +kernel
theorem dX2_setStart_14 : decode cX2_setStart 14 = .ok (.iconst (-1), 1) := by decide +kernel
theorem dX2_setStart_15 : decode cX2_setStart 15 = .ok (.ixor, 1) := by decide +kernel
theorem dX2_setStart_16 : decode cX2_setStart 16 = .ok (.iand, 1) := by decide +kernel
theorem dX2_setStart_17 : decode cX2_setStart 17 = .ok (.iload_n 3, 1) := by decide +kernel
theorem dX2_setStart_18 : decode cX2_setStart 18 = .ok (.iconst 4, 1) := by decide +kernel
theorem dX2_setStart_19 : decode cX2_setStart 19 = .ok (.iload_n 2, 1) := by decide +kernel
theorem dX2_setStart_20 : decode cX2_setStart 20 = .ok (.imul, 1) := by decide +kernel
theorem dX2_setStart_21 : decode cX2_setStart 21 = .ok (.iconst 2, 1) := by decide +kernel
theorem dX2_setStart_22 : decode cX2_setStart 22 = .ok (.iload_n 1, 1) := by decide +kernel
theorem dX2_setStart_23 : decode cX2_setStart 23 = .ok (.imul, 1) := by decide +kernel
theorem dX2_setStart_24 : decode cX2_setStart 24 = .ok (.iadd, 1) := by decide +kernel
theorem dX2_setStart_25 : decode cX2_setStart 25 = .ok (.ishl, 1) := by decide +kernel
theorem dX2_setStart_26 : decode cX2_setStart 26 = .ok (.ior, 1) := by decide +kernel
theorem dX2_setStart_27 : decode cX2_setStart 27 = .ok (.putfield 40, 3) := by decide +kernel
theorem dX2_setStart_30 : decode cX2_setStart 30 = .ok (.return_, 1) := by decide +kernel
theorem dX2_needOf_0 : decode cX2_needOf 0 = .ok (.iload_n 1, 1) := by decide +kernel
theorem dX2_needOf_1 : decode cX2_needOf 1 = .ok (.iload_n 2, 1) := by decide +kernel
theorem dX2_needOf_2 : decode cX2_needOf 2 = .ok (.invokestatic 49, 3) := by decide +kernel
theorem dX2_needOf_5 : decode cX2_needOf 5 = .ok (.ifCond .eq 16, 3) := by decide +kernel
theorem dX2_needOf_8 : decode cX2_needOf 8 = .ok (.aload_n 0, 1) := by decide +kernel
theorem dX2_needOf_9 : decode cX2_needOf 9 = .ok (.getfield 15, 3) := by decide +kernel
theorem dX2_needOf_12 : decode cX2_needOf 12 = .ok (.iload_n 1, 1) := by decide +kernel
theorem dX2_needOf_13 : decode cX2_needOf 13 = .ok (.iconst 4, 1) := by decide +kernel
theorem dX2_needOf_14 : decode cX2_needOf 14 = .ok (.imul, 1) := by decide +kernel
theorem dX2_needOf_15 : decode cX2_needOf 15 = .ok (.iload_n 2, 1) := by decide +kernel
theorem dX2_needOf_16 : decode cX2_needOf 16 = .ok (.iadd, 1) := by decide +kernel
theorem dX2_needOf_17 : decode cX2_needOf 17 = .ok (.iaload, 1) := by decide +kernel
theorem dX2_needOf_18 : decode cX2_needOf 18 = .ok (.goto 4, 3) := by decide +kernel
theorem dX2_needOf_21 : decode cX2_needOf 21 = .ok (.iconst 0, 1) := by decide +kernel
theorem dX2_needOf_22 : decode cX2_needOf 22 = .ok (.ireturn, 1) := by decide +kernel
theorem dX2_needBits_0 : decode cX2_needBits 0 = .ok (.iconst 0, 1) := by decide +kernel
theorem dX2_needBits_1 : decode cX2_needBits 1 = .ok (.istore_n 2, 1) := by decide +kernel
theorem dX2_needBits_2 : decode cX2_needBits 2 = .ok (.iconst 0, 1) := by decide +kernel
theorem dX2_needBits_3 : decode cX2_needBits 3 = .ok (.istore_n 3, 1) := by decide +kernel
theorem dX2_needBits_4 : decode cX2_needBits 4 = .ok (.iload_n 3, 1) := by decide +kernel
theorem dX2_needBits_5 : decode cX2_needBits 5 = .ok (.aload_n 0, 1) := by decide +kernel
theorem dX2_needBits_6 : decode cX2_needBits 6 = .ok (.getfield 27, 3) := by decide +kernel
theorem dX2_needBits_9 : decode cX2_needBits 9 = .ok (.if_icmp .ge 24, 3) := by decide +kernel
theorem dX2_needBits_12 : decode cX2_needBits 12 = .ok (.aload_n 0, 1) := by decide +kernel
theorem dX2_needBits_13 : decode cX2_needBits 13 = .ok (.iload_n 1, 1) := by decide +kernel
theorem dX2_needBits_14 : decode cX2_needBits 14 = .ok (.iload_n 3, 1) := by decide +kernel
theorem dX2_needBits_15 : decode cX2_needBits 15 = .ok (.invokevirtual 53, 3) := by decide +kernel
theorem dX2_needBits_18 : decode cX2_needBits 18 = .ok (.ifCond .le 9, 3) := by decide +kernel
theorem dX2_needBits_21 : decode cX2_needBits 21 = .ok (.iload_n 2, 1) := by decide +kernel
theorem dX2_needBits_22 : decode cX2_needBits 22 = .ok (.iconst 1, 1) := by decide +kernel
theorem dX2_needBits_23 : decode cX2_needBits 23 = .ok (.iload_n 3, 1) := by decide +kernel
theorem dX2_needBits_24 : decode cX2_needBits 24 = .ok (.ishl, 1) := by decide +kernel
theorem dX2_needBits_25 : decode cX2_needBits 25 = .ok (.ior, 1) := by decide +kernel
theorem dX2_needBits_26 : decode cX2_needBits 26 = .ok (.istore_n 2, 1) := by decide +kernel
theorem dX2_needBits_27 : decode cX2_needBits 27 = .ok (.iinc 3 1, 3) := by decide +kernel
theorem dX2_needBits_30 : decode cX2_needBits 30 = .ok (.goto (-26), 3) := by decide +kernel
theorem dX2_needBits_33 : decode cX2_needBits 33 = .ok (.iload_n 2, 1) := by decide +kernel
theorem dX2_needBits_34 : decode cX2_needBits 34 = .ok (.ireturn, 1) := by decide +kernel
theorem dX2_butBits_0 : decode cX2_butBits 0 = .ok (.iload_n 1, 1) := by decide +kernel
theorem dX2_butBits_1 : decode cX2_butBits 1 = .ok (.ifCond .lt 18, 3) := by decide +kernel
theorem dX2_butBits_4 : decode cX2_butBits 4 = .ok (.iload_n 1, 1) := by decide +kernel
theorem dX2_butBits_5 : decode cX2_butBits 5 = .ok (.bipush 6, 2) := by decide +kernel
theorem dX2_butBits_7 : decode cX2_butBits 7 = .ok (.if_icmp .ge 12, 3) := by decide +kernel
theorem dX2_butBits_10 : decode cX2_butBits 10 = .ok (.aload_n 0, 1) := by decide +kernel
theorem dX2_butBits_11 : decode cX2_butBits 11 = .ok (.getfield 18, 3) := by decide +kernel
theorem dX2_butBits_14 : decode cX2_butBits 14 = .ok (.iload_n 1, 1) := by decide +kernel
theorem dX2_butBits_15 : decode cX2_butBits 15 = .ok (.iaload, 1) := by decide +kernel
theorem dX2_butBits_16 : decode cX2_butBits 16 = .ok (.goto 4, 3) := by decide +kernel
theorem dX2_butBits_19 : decode cX2_butBits 19 = .ok (.iconst 0, 1) := by decide +kernel
theorem dX2_butBits_20 : decode cX2_butBits 20 = .ok (.ireturn, 1) := by decide +kernel
theorem dX2_room_0 : decode cX2_room 0 = .ok (.iconst 1, 1) := by decide +kernel
theorem dX2_room_1 : decode cX2_room 1 = .ok (.iconst 4, 1) := by decide +kernel
theorem dX2_room_2 : decode cX2_room 2 = .ok (.aload_n 0, 1) := by decide +kernel
theorem dX2_room_3 : decode cX2_room 3 = .ok (.getfield 27, 3) := by decide +kernel
theorem dX2_room_6 : decode cX2_room 6 = .ok (.imul, 1) := by decide +kernel
theorem dX2_room_7 : decode cX2_room 7 = .ok (.ishl, 1) := by decide +kernel
theorem dX2_room_8 : decode cX2_room 8 = .ok (.ireturn, 1) := by decide +kernel
theorem dX2_caseOf_0 : decode cX2_caseOf 0 = .ok (.iload_n 0, 1) := by decide +kernel
theorem dX2_caseOf_1 : decode cX2_caseOf 1 = .ok (.sipush 200, 3) := by decide +kernel
theorem dX2_caseOf_4 : decode cX2_caseOf 4 = .ok (.imul, 1) := by decide +kernel
theorem dX2_caseOf_5 : decode cX2_caseOf 5 = .ok (.iload_n 1, 1) := by decide +kernel
theorem dX2_caseOf_6 : decode cX2_caseOf 6 = .ok (.iconst 5, 1) := by decide +kernel
theorem dX2_caseOf_7 : decode cX2_caseOf 7 = .ok (.imul, 1) := by decide +kernel
theorem dX2_caseOf_8 : decode cX2_caseOf 8 = .ok (.iload_n 2, 1) := by decide +kernel
theorem dX2_caseOf_9 : decode cX2_caseOf 9 = .ok (.iadd, 1) := by decide +kernel
theorem dX2_caseOf_10 : decode cX2_caseOf 10 = .ok (.iconst 5, 1) := by decide +kernel
theorem dX2_caseOf_11 : decode cX2_caseOf 11 = .ok (.imul, 1) := by decide +kernel
theorem dX2_caseOf_12 : decode cX2_caseOf 12 = .ok (.iload_n 3, 1) := by decide +kernel
theorem dX2_caseOf_13 : decode cX2_caseOf 13 = .ok (.iadd, 1) := by decide +kernel
theorem dX2_caseOf_14 : decode cX2_caseOf 14 = .ok (.iconst 4, 1) := by decide +kernel
theorem dX2_caseOf_15 : decode cX2_caseOf 15 = .ok (.imul, 1) := by decide +kernel
theorem dX2_caseOf_16 : decode cX2_caseOf 16 = .ok (.iadd, 1) := by decide +kernel
theorem dX2_caseOf_17 : decode cX2_caseOf 17 = .ok (.ireturn, 1) := by decide +kernel
theorem dX2_caseAt_0 : decode cX2_caseAt 0 = .ok (.iload_n 2, 1) := by decide +kernel
theorem dX2_caseAt_1 : decode cX2_caseAt 1 = .ok (.iload_n 3, 1) := by decide +kernel
theorem dX2_caseAt_2 : decode cX2_caseAt 2 = .ok (.iload_n 1, 1) := by decide +kernel
theorem dX2_caseAt_3 : decode cX2_caseAt 3 = .ok (.iload_n 3, 1) := by decide +kernel
theorem dX2_caseAt_4 : decode cX2_caseAt 4 = .ok (.invokestatic 57, 3) := by decide +kernel
theorem dX2_caseAt_7 : decode cX2_caseAt 7 = .ok (.iload_n 1, 1) := by decide +kernel
theorem dX2_caseAt_8 : decode cX2_caseAt 8 = .ok (.iconst 1, 1) := by decide +kernel
theorem dX2_caseAt_9 : decode cX2_caseAt 9 = .ok (.iload_n 3, 1) := by decide +kernel
theorem dX2_caseAt_10 : decode cX2_caseAt 10 = .ok (.isub, 1) := by decide +kernel
theorem dX2_caseAt_11 : decode cX2_caseAt 11 = .ok (.invokestatic 57, 3) := by decide +kernel
theorem dX2_caseAt_14 : decode cX2_caseAt 14 = .ok (.invokestatic 60, 3) := by decide +kernel
theorem dX2_caseAt_17 : decode cX2_caseAt 17 = .ok (.ireturn, 1) := by decide +kernel
theorem dX2_setComing_0 : decode cX2_setComing 0 = .ok (.iload_n 1, 1) := by decide +kernel
theorem dX2_setComing_1 : decode cX2_setComing 1 = .ok (.ifCond .lt 19, 3) := by decide +kernel
theorem dX2_setComing_4 : decode cX2_setComing 4 = .ok (.iload_n 1, 1) := by decide +kernel
theorem dX2_setComing_5 : decode cX2_setComing 5 = .ok (.aload_n 0, 1) := by decide +kernel
theorem dX2_setComing_6 : decode cX2_setComing 6 = .ok (.getfield 24, 3) := by decide +kernel
theorem dX2_setComing_9 : decode cX2_setComing 9 = .ok (.arraylength, 1) := by decide +kernel
theorem dX2_setComing_10 : decode cX2_setComing 10 = .ok (.if_icmp .ge 10, 3) := by decide +kernel
theorem dX2_setComing_13 : decode cX2_setComing 13 = .ok (.aload_n 0, 1) := by decide +kernel
theorem dX2_setComing_14 : decode cX2_setComing 14 = .ok (.getfield 24, 3) := by decide +kernel
theorem dX2_setComing_17 : decode cX2_setComing 17 = .ok (.iload_n 1, 1) := by decide +kernel
theorem dX2_setComing_18 : decode cX2_setComing 18 = .ok (.iload_n 2, 1) := by decide +kernel
theorem dX2_setComing_19 : decode cX2_setComing 19 = .ok (.iastore, 1) := by decide +kernel
theorem dX2_setComing_20 : decode cX2_setComing 20 = .ok (.return_, 1) := by decide +kernel
theorem dX2_weighDoings_0 : decode cX2_weighDoings 0 = .ok (.iconst 0, 1) := by decide +kernel
theorem dX2_weighDoings_1 : decode cX2_weighDoings 1 = .ok (.istore_n 1, 1) := by decide +kernel
theorem dX2_weighDoings_2 : decode cX2_weighDoings 2 = .ok (.iload_n 1, 1) := by decide +kernel
theorem dX2_weighDoings_3 : decode cX2_weighDoings 3 = .ok (.iconst 1, 1) := by decide +kernel
theorem dX2_weighDoings_4 : decode cX2_weighDoings 4 = .ok (.iconst 2, 1) := by decide +kernel
theorem dX2_weighDoings_5 : decode cX2_weighDoings 5 = .ok (.aload_n 0, 1) := by decide +kernel
theorem dX2_weighDoings_6 : decode cX2_weighDoings 6 = .ok (.getfield 27, 3) := by decide +kernel
theorem dX2_weighDoings_9 : decode cX2_weighDoings 9 = .ok (.imul, 1) := by decide +kernel
theorem dX2_weighDoings_10 : decode cX2_weighDoings 10 = .ok (.ishl, 1) := by decide +kernel
theorem dX2_weighDoings_11 : decode cX2_weighDoings 11 = .ok (.if_icmp .ge 58, 3) := by decide +kernel
theorem dX2_weighDoings_14 : decode cX2_weighDoings 14 = .ok (.iload_n 1, 1) := by decide +kernel
theorem dX2_weighDoings_15 : decode cX2_weighDoings 15 = .ok (.aload_n 0, 1) := by decide +kernel
theorem dX2_weighDoings_16 : decode cX2_weighDoings 16 = .ok (.getfield 21, 3) := by decide +kernel
theorem dX2_weighDoings_19 : decode cX2_weighDoings 19 = .ok (.arraylength, 1) := by decide +kernel
theorem dX2_weighDoings_20 : decode cX2_weighDoings 20 = .ok (.if_icmp .ge 49, 3) := by decide +kernel
theorem dX2_weighDoings_23 : decode cX2_weighDoings 23 = .ok (.iconst 0, 1) := by decide +kernel
theorem dX2_weighDoings_24 : decode cX2_weighDoings 24 = .ok (.istore_n 2, 1) := by decide +kernel
theorem dX2_weighDoings_25 : decode cX2_weighDoings 25 = .ok (.iconst 0, 1) := by decide +kernel
theorem dX2_weighDoings_26 : decode cX2_weighDoings 26 = .ok (.istore_n 3, 1) := by decide +kernel
theorem dX2_weighDoings_27 : decode cX2_weighDoings 27 = .ok (.iload_n 3, 1) := by decide +kernel
theorem dX2_weighDoings_28 : decode cX2_weighDoings 28 = .ok (.aload_n 0, 1) := by decide +kernel
theorem dX2_weighDoings_29 : decode cX2_weighDoings 29 = .ok (.getfield 31, 3) := by decide +kernel
theorem dX2_weighDoings_32 : decode cX2_weighDoings 32 = .ok (.if_icmp .ge 24, 3) := by decide +kernel
theorem dX2_weighDoings_35 : decode cX2_weighDoings 35 = .ok (.aload_n 0, 1) := by decide +kernel
theorem dX2_weighDoings_36 : decode cX2_weighDoings 36 = .ok (.iload_n 3, 1) := by decide +kernel
theorem dX2_weighDoings_37 : decode cX2_weighDoings 37 = .ok (.iload_n 1, 1) := by decide +kernel
theorem dX2_weighDoings_38 : decode cX2_weighDoings 38 = .ok (.invokevirtual 64, 3) := by decide +kernel
theorem dX2_weighDoings_41 : decode cX2_weighDoings 41 = .ok (.ifCond .eq 9, 3) := by decide +kernel
theorem dX2_weighDoings_44 : decode cX2_weighDoings 44 = .ok (.iload_n 2, 1) := by decide +kernel
theorem dX2_weighDoings_45 : decode cX2_weighDoings 45 = .ok (.iconst 1, 1) := by decide +kernel
theorem dX2_weighDoings_46 : decode cX2_weighDoings 46 = .ok (.iload_n 3, 1) := by decide +kernel
theorem dX2_weighDoings_47 : decode cX2_weighDoings 47 = .ok (.ishl, 1) := by decide +kernel
theorem dX2_weighDoings_48 : decode cX2_weighDoings 48 = .ok (.ior, 1) := by decide +kernel
theorem dX2_weighDoings_49 : decode cX2_weighDoings 49 = .ok (.istore_n 2, 1) := by decide +kernel
theorem dX2_weighDoings_50 : decode cX2_weighDoings 50 = .ok (.iinc 3 1, 3) := by decide +kernel
theorem dX2_weighDoings_53 : decode cX2_weighDoings 53 = .ok (.goto (-26), 3) := by decide +kernel
theorem dX2_weighDoings_56 : decode cX2_weighDoings 56 = .ok (.aload_n 0, 1) := by decide +kernel
theorem dX2_weighDoings_57 : decode cX2_weighDoings 57 = .ok (.getfield 21, 3) := by decide +kernel
theorem dX2_weighDoings_60 : decode cX2_weighDoings 60 = .ok (.iload_n 1, 1) := by decide +kernel
theorem dX2_weighDoings_61 : decode cX2_weighDoings 61 = .ok (.iload_n 2, 1) := by decide +kernel
theorem dX2_weighDoings_62 : decode cX2_weighDoings 62 = .ok (.iastore, 1) := by decide +kernel
theorem dX2_weighDoings_63 : decode cX2_weighDoings 63 = .ok (.iinc 1 1, 3) := by decide +kernel
theorem dX2_weighDoings_66 : decode cX2_weighDoings 66 = .ok (.goto (-64), 3) := by decide +kernel
theorem dX2_weighDoings_69 : decode cX2_weighDoings 69 = .ok (.return_, 1) := by decide +kernel
theorem dX2_isDone_0 : decode cX2_isDone 0 = .ok (.iconst 0, 1) := by decide +kernel
theorem dX2_isDone_1 : decode cX2_isDone 1 = .ok (.istore_n 3, 1) := by decide +kernel
theorem dX2_isDone_2 : decode cX2_isDone 2 = .ok (.iload_n 3, 1) := by decide +kernel
theorem dX2_isDone_3 : decode cX2_isDone 3 = .ok (.aload_n 0, 1) := by decide +kernel
theorem dX2_isDone_4 : decode cX2_isDone 4 = .ok (.getfield 27, 3) := by decide +kernel
theorem dX2_isDone_7 : decode cX2_isDone 7 = .ok (.if_icmp .ge 48, 3) := by decide +kernel
theorem dX2_isDone_10 : decode cX2_isDone 10 = .ok (.iload_n 2, 1) := by decide +kernel
theorem dX2_isDone_11 : decode cX2_isDone 11 = .ok (.iconst 2, 1) := by decide +kernel
theorem dX2_isDone_12 : decode cX2_isDone 12 = .ok (.iload_n 3, 1) := by decide +kernel
theorem dX2_isDone_13 : decode cX2_isDone 13 = .ok (.imul, 1) := by decide +kernel
theorem dX2_isDone_14 : decode cX2_isDone 14 = .ok (.ishr, 1) := by decide +kernel
theorem dX2_isDone_15 : decode cX2_isDone 15 = .ok (.iconst 3, 1) := by decide +kernel
theorem dX2_isDone_16 : decode cX2_isDone 16 = .ok (.iand, 1) := by decide +kernel
theorem dX2_isDone_17 : decode cX2_isDone 17 = .ok (.istore 4, 2) := by decide +kernel
theorem dX2_isDone_19 : decode cX2_isDone 19 = .ok (.iload 4, 2) := by decide +kernel
theorem dX2_isDone_21 : decode cX2_isDone 21 = .ok (.aload_n 0, 1) := by decide +kernel
theorem dX2_isDone_22 : decode cX2_isDone 22 = .ok (.iload_n 1, 1) := by decide +kernel
theorem dX2_isDone_23 : decode cX2_isDone 23 = .ok (.iload_n 3, 1) := by decide +kernel
theorem dX2_isDone_24 : decode cX2_isDone 24 = .ok (.invokevirtual 53, 3) := by decide +kernel
theorem dX2_isDone_27 : decode cX2_isDone 27 = .ok (.if_icmp .lt 20, 3) := by decide +kernel
theorem dX2_isDone_30 : decode cX2_isDone 30 = .ok (.iload 4, 2) := by decide +kernel
theorem dX2_isDone_32 : decode cX2_isDone 32 = .ok (.ifCond .le 17, 3) := by decide +kernel
theorem dX2_isDone_35 : decode cX2_isDone 35 = .ok (.aload_n 0, 1) := by decide +kernel
theorem dX2_isDone_36 : decode cX2_isDone 36 = .ok (.iload_n 1, 1) := by decide +kernel
theorem dX2_isDone_37 : decode cX2_isDone 37 = .ok (.invokevirtual 67, 3) := by decide +kernel
theorem dX2_isDone_40 : decode cX2_isDone 40 = .ok (.iload_n 3, 1) := by decide +kernel
theorem dX2_isDone_41 : decode cX2_isDone 41 = .ok (.ishr, 1) := by decide +kernel
theorem dX2_isDone_42 : decode cX2_isDone 42 = .ok (.iconst 1, 1) := by decide +kernel
theorem dX2_isDone_43 : decode cX2_isDone 43 = .ok (.iand, 1) := by decide +kernel
theorem dX2_isDone_44 : decode cX2_isDone 44 = .ok (.ifCond .eq 5, 3) := by decide +kernel
theorem dX2_isDone_47 : decode cX2_isDone 47 = .ok (.iconst 0, 1) := by decide +kernel
theorem dX2_isDone_48 : decode cX2_isDone 48 = .ok (.ireturn, 1) := by decide +kernel
theorem dX2_isDone_49 : decode cX2_isDone 49 = .ok (.iinc 3 1, 3) := by decide +kernel
theorem dX2_isDone_52 : decode cX2_isDone 52 = .ok (.goto (-50), 3) := by decide +kernel
theorem dX2_isDone_55 : decode cX2_isDone 55 = .ok (.iconst 1, 1) := by decide +kernel
theorem dX2_isDone_56 : decode cX2_isDone 56 = .ok (.ireturn, 1) := by decide +kernel
theorem dX2_ageIn_0 : decode cX2_ageIn 0 = .ok (.iload_n 0, 1) := by decide +kernel
theorem dX2_ageIn_1 : decode cX2_ageIn 1 = .ok (.iconst 4, 1) := by decide +kernel
theorem dX2_ageIn_2 : decode cX2_ageIn 2 = .ok (.iload_n 2, 1) := by decide +kernel
theorem dX2_ageIn_3 : decode cX2_ageIn 3 = .ok (.imul, 1) := by decide +kernel
theorem dX2_ageIn_4 : decode cX2_ageIn 4 = .ok (.iconst 2, 1) := by decide +kernel
theorem dX2_ageIn_5 : decode cX2_ageIn 5 = .ok (.iload_n 1, 1) := by decide +kernel
theorem dX2_ageIn_6 : decode cX2_ageIn 6 = .ok (.imul, 1) := by decide +kernel
theorem dX2_ageIn_7 : decode cX2_ageIn 7 = .ok (.iadd, 1) := by decide +kernel
theorem dX2_ageIn_8 : decode cX2_ageIn 8 = .ok (.ishr, 1) := by decide +kernel
theorem dX2_ageIn_9 : decode cX2_ageIn 9 = .ok (.iconst 3, 1) := by decide +kernel
theorem dX2_ageIn_10 : decode cX2_ageIn 10 = .ok (.iand, 1) := by decide +kernel
theorem dX2_ageIn_11 : decode cX2_ageIn 11 = .ok (.ireturn, 1) := by decide +kernel
theorem dX2_knownTo_0 : decode cX2_knownTo 0 = .ok (.iload_n 0, 1) := by decide +kernel
theorem dX2_knownTo_1 : decode cX2_knownTo 1 = .ok (.iconst 2, 1) := by decide +kernel
theorem dX2_knownTo_2 : decode cX2_knownTo 2 = .ok (.iload_n 1, 1) := by decide +kernel
theorem dX2_knownTo_3 : decode cX2_knownTo 3 = .ok (.imul, 1) := by decide +kernel
theorem dX2_knownTo_4 : decode cX2_knownTo 4 = .ok (.ishr, 1) := by decide +kernel
theorem dX2_knownTo_5 : decode cX2_knownTo 5 = .ok (.sipush 13107, 3) := by decide +kernel
theorem dX2_knownTo_8 : decode cX2_knownTo 8 = .ok (.iand, 1) := by decide +kernel
theorem dX2_knownTo_9 : decode cX2_knownTo 9 = .ok (.istore_n 2, 1) := by decide +kernel
theorem dX2_knownTo_10 : decode cX2_knownTo 10 = .ok (.iload_n 2, 1) := by decide +kernel
theorem dX2_knownTo_11 : decode cX2_knownTo 11 = .ok (.iload_n 2, 1) := by decide +kernel
theorem dX2_knownTo_12 : decode cX2_knownTo 12 = .ok (.iconst 1, 1) := by decide +kernel
theorem dX2_knownTo_13 : decode cX2_knownTo 13 = .ok (.ishr, 1) := by decide +kernel
theorem dX2_knownTo_14 : decode cX2_knownTo 14 = .ok (.ior, 1) := by decide +kernel
theorem dX2_knownTo_15 : decode cX2_knownTo 15 = .ok (.sipush 4369, 3) := by decide +kernel
theorem dX2_knownTo_18 : decode cX2_knownTo 18 = .ok (.iand, 1) := by decide +kernel
theorem dX2_knownTo_19 : decode cX2_knownTo 19 = .ok (.istore_n 3, 1) := by decide +kernel
theorem dX2_knownTo_20 : decode cX2_knownTo 20 = .ok (.iload_n 3, 1) := by decide +kernel
theorem dX2_knownTo_21 : decode cX2_knownTo 21 = .ok (.sipush 4369, 3) := by decide +kernel
theorem dX2_knownTo_24 : decode cX2_knownTo 24 = .ok (.imul, 1) := by decide +kernel
theorem dX2_knownTo_25 : decode cX2_knownTo 25 = .ok (.bipush 12, 2) := by decide +kernel
theorem dX2_knownTo_27 : decode cX2_knownTo 27 = .ok (.ishr, 1) := by decide +kernel
theorem dX2_knownTo_28 : decode cX2_knownTo 28 = .ok (.bipush 7, 2) := by decide +kernel
theorem dX2_knownTo_30 : decode cX2_knownTo 30 = .ok (.iand, 1) := by decide +kernel
theorem dX2_knownTo_31 : decode cX2_knownTo 31 = .ok (.ireturn, 1) := by decide +kernel
theorem dX2_knownBits_0 : decode cX2_knownBits 0 = .ok (.iconst 0, 1) := by decide +kernel
theorem dX2_knownBits_1 : decode cX2_knownBits 1 = .ok (.istore_n 3, 1) := by decide +kernel
theorem dX2_knownBits_2 : decode cX2_knownBits 2 = .ok (.iconst 0, 1) := by decide +kernel
theorem dX2_knownBits_3 : decode cX2_knownBits 3 = .ok (.istore 4, 2) := by decide +kernel
theorem dX2_knownBits_5 : decode cX2_knownBits 5 = .ok (.iload 4, 2) := by decide +kernel
theorem dX2_knownBits_7 : decode cX2_knownBits 7 = .ok (.aload_n 0, 1) := by decide +kernel
theorem dX2_knownBits_8 : decode cX2_knownBits 8 = .ok (.getfield 27, 3) := by decide +kernel
theorem dX2_knownBits_11 : decode cX2_knownBits 11 = .ok (.if_icmp .ge 26, 3) := by decide +kernel
theorem dX2_knownBits_14 : decode cX2_knownBits 14 = .ok (.iload_n 1, 1) := by decide +kernel
theorem dX2_knownBits_15 : decode cX2_knownBits 15 = .ok (.iload_n 2, 1) := by decide +kernel
theorem dX2_knownBits_16 : decode cX2_knownBits 16 = .ok (.iload 4, 2) := by decide +kernel
theorem dX2_knownBits_18 : decode cX2_knownBits 18 = .ok (.invokestatic 71, 3) := by decide +kernel
theorem dX2_knownBits_21 : decode cX2_knownBits 21 = .ok (.ifCond .le 10, 3) := by decide +kernel
theorem dX2_knownBits_24 : decode cX2_knownBits 24 = .ok (.iload_n 3, 1) := by decide +kernel
theorem dX2_knownBits_25 : decode cX2_knownBits 25 = .ok (.iconst 1, 1) := by decide +kernel
theorem dX2_knownBits_26 : decode cX2_knownBits 26 = .ok (.iload 4, 2) := by decide +kernel
theorem dX2_knownBits_28 : decode cX2_knownBits 28 = .ok (.ishl, 1) := by decide +kernel
theorem dX2_knownBits_29 : decode cX2_knownBits 29 = .ok (.ior, 1) := by decide +kernel
theorem dX2_knownBits_30 : decode cX2_knownBits 30 = .ok (.istore_n 3, 1) := by decide +kernel
theorem dX2_knownBits_31 : decode cX2_knownBits 31 = .ok (.iinc 4 1, 3) := by decide +kernel
theorem dX2_knownBits_34 : decode cX2_knownBits 34 = .ok (.goto (-29), 3) := by decide +kernel
theorem dX2_knownBits_37 : decode cX2_knownBits 37 = .ok (.iload_n 3, 1) := by decide +kernel
theorem dX2_knownBits_38 : decode cX2_knownBits 38 = .ok (.ireturn, 1) := by decide +kernel
theorem dX2_doneBy_0 : decode cX2_doneBy 0 = .ok (.iload_n 1, 1) := by decide +kernel
theorem dX2_doneBy_1 : decode cX2_doneBy 1 = .ok (.iconst 2, 1) := by decide +kernel
theorem dX2_doneBy_2 : decode cX2_doneBy 2 = .ok (.iload_n 2, 1) := by decide +kernel
theorem dX2_doneBy_3 : decode cX2_doneBy 3 = .ok (.imul, 1) := by decide +kernel
theorem dX2_doneBy_4 : decode cX2_doneBy 4 = .ok (.ishr, 1) := by decide +kernel
theorem dX2_doneBy_5 : decode cX2_doneBy 5 = .ok (.sipush 13107, 3) := by decide +kernel
theorem dX2_doneBy_8 : decode cX2_doneBy 8 = .ok (.iand, 1) := by decide +kernel
theorem dX2_doneBy_9 : decode cX2_doneBy 9 = .ok (.istore_n 3, 1) := by decide +kernel
theorem dX2_doneBy_10 : decode cX2_doneBy 10 = .ok (.iload_n 3, 1) := by decide +kernel
theorem dX2_doneBy_11 : decode cX2_doneBy 11 = .ok (.iload_n 3, 1) := by decide +kernel
theorem dX2_doneBy_12 : decode cX2_doneBy 12 = .ok (.iconst 2, 1) := by decide +kernel
theorem dX2_doneBy_13 : decode cX2_doneBy 13 = .ok (.ishr, 1) := by decide +kernel
theorem dX2_doneBy_14 : decode cX2_doneBy 14 = .ok (.ior, 1) := by decide +kernel
theorem dX2_doneBy_15 : decode cX2_doneBy 15 = .ok (.sipush 3855, 3) := by decide +kernel
theorem dX2_doneBy_18 : decode cX2_doneBy 18 = .ok (.iand, 1) := by decide +kernel
theorem dX2_doneBy_19 : decode cX2_doneBy 19 = .ok (.istore_n 3, 1) := by decide +kernel
theorem dX2_doneBy_20 : decode cX2_doneBy 20 = .ok (.iload_n 3, 1) := by decide +kernel
theorem dX2_doneBy_21 : decode cX2_doneBy 21 = .ok (.iload_n 3, 1) := by decide +kernel
theorem dX2_doneBy_22 : decode cX2_doneBy 22 = .ok (.iconst 4, 1) := by decide +kernel
theorem dX2_doneBy_23 : decode cX2_doneBy 23 = .ok (.ishr, 1) := by decide +kernel
theorem dX2_doneBy_24 : decode cX2_doneBy 24 = .ok (.ior, 1) := by decide +kernel
theorem dX2_doneBy_25 : decode cX2_doneBy 25 = .ok (.sipush 255, 3) := by decide +kernel
theorem dX2_doneBy_28 : decode cX2_doneBy 28 = .ok (.iand, 1) := by decide +kernel
theorem dX2_doneBy_29 : decode cX2_doneBy 29 = .ok (.istore_n 3, 1) := by decide +kernel
theorem dX2_doneBy_30 : decode cX2_doneBy 30 = .ok (.iload_n 3, 1) := by decide +kernel
theorem dX2_doneBy_31 : decode cX2_doneBy 31 = .ok (.aload_n 0, 1) := by decide +kernel
theorem dX2_doneBy_32 : decode cX2_doneBy 32 = .ok (.getfield 21, 3) := by decide +kernel
theorem dX2_doneBy_35 : decode cX2_doneBy 35 = .ok (.arraylength, 1) := by decide +kernel
theorem dX2_doneBy_36 : decode cX2_doneBy 36 = .ok (.if_icmp .ge 12, 3) := by decide +kernel
theorem dX2_doneBy_39 : decode cX2_doneBy 39 = .ok (.aload_n 0, 1) := by decide +kernel
theorem dX2_doneBy_40 : decode cX2_doneBy 40 = .ok (.getfield 21, 3) := by decide +kernel
theorem dX2_doneBy_43 : decode cX2_doneBy 43 = .ok (.iload_n 3, 1) := by decide +kernel
theorem dX2_doneBy_44 : decode cX2_doneBy 44 = .ok (.iaload, 1) := by decide +kernel
theorem dX2_doneBy_45 : decode cX2_doneBy 45 = .ok (.goto 4, 3) := by decide +kernel
theorem dX2_doneBy_48 : decode cX2_doneBy 48 = .ok (.iconst 0, 1) := by decide +kernel
theorem dX2_doneBy_49 : decode cX2_doneBy 49 = .ok (.ireturn, 1) := by decide +kernel
theorem dX2_doneByBoth_0 : decode cX2_doneByBoth 0 = .ok (.aload_n 0, 1) := by decide +kernel
theorem dX2_doneByBoth_1 : decode cX2_doneByBoth 1 = .ok (.iload_n 1, 1) := by decide +kernel
theorem dX2_doneByBoth_2 : decode cX2_doneByBoth 2 = .ok (.iconst 0, 1) := by decide +kernel
theorem dX2_doneByBoth_3 : decode cX2_doneByBoth 3 = .ok (.invokevirtual 75, 3) := by decide +kernel
theorem dX2_doneByBoth_6 : decode cX2_doneByBoth 6 = .ok (.invokestatic 78, 3) := by decide +kernel
theorem dX2_doneByBoth_9 : decode cX2_doneByBoth 9 = .ok (.aload_n 0, 1) := by decide +kernel
theorem dX2_doneByBoth_10 : decode cX2_doneByBoth 10 = .ok (.iload_n 1, 1) := by decide +kernel
theorem dX2_doneByBoth_11 : decode cX2_doneByBoth 11 = .ok (.iconst 1, 1) := by decide +kernel
theorem dX2_doneByBoth_12 : decode cX2_doneByBoth 12 = .ok (.invokevirtual 75, 3) := by decide +kernel
theorem dX2_doneByBoth_15 : decode cX2_doneByBoth 15 = .ok (.invokestatic 78, 3) := by decide +kernel
theorem dX2_doneByBoth_18 : decode cX2_doneByBoth 18 = .ok (.iadd, 1) := by decide +kernel
theorem dX2_doneByBoth_19 : decode cX2_doneByBoth 19 = .ok (.ireturn, 1) := by decide +kernel
theorem dX2_doAtLeast_0 : decode cX2_doAtLeast 0 = .ok (.aload_n 0, 1) := by decide +kernel
theorem dX2_doAtLeast_1 : decode cX2_doAtLeast 1 = .ok (.iload_n 1, 1) := by decide +kernel
theorem dX2_doAtLeast_2 : decode cX2_doAtLeast 2 = .ok (.iconst 0, 1) := by decide +kernel
theorem dX2_doAtLeast_3 : decode cX2_doAtLeast 3 = .ok (.invokevirtual 75, 3) := by decide +kernel
theorem dX2_doAtLeast_6 : decode cX2_doAtLeast 6 = .ok (.iload_n 2, 1) := by decide +kernel
theorem dX2_doAtLeast_7 : decode cX2_doAtLeast 7 = .ok (.iand, 1) := by decide +kernel
theorem dX2_doAtLeast_8 : decode cX2_doAtLeast 8 = .ok (.iload_n 2, 1) := by decide +kernel
theorem dX2_doAtLeast_9 : decode cX2_doAtLeast 9 = .ok (.if_icmp .ne 19, 3) := by decide +kernel
theorem dX2_doAtLeast_12 : decode cX2_doAtLeast 12 = .ok (.aload_n 0, 1) := by decide +kernel
theorem dX2_doAtLeast_13 : decode cX2_doAtLeast 13 = .ok (.iload_n 1, 1) := by decide +kernel
theorem dX2_doAtLeast_14 : decode cX2_doAtLeast 14 = .ok (.iconst 1, 1) := by decide +kernel
theorem dX2_doAtLeast_15 : decode cX2_doAtLeast 15 = .ok (.invokevirtual 75, 3) := by decide +kernel
theorem dX2_doAtLeast_18 : decode cX2_doAtLeast 18 = .ok (.iload_n 3, 1) := by decide +kernel
theorem dX2_doAtLeast_19 : decode cX2_doAtLeast 19 = .ok (.iand, 1) := by decide +kernel
theorem dX2_doAtLeast_20 : decode cX2_doAtLeast 20 = .ok (.iload_n 3, 1) := by decide +kernel
theorem dX2_doAtLeast_21 : decode cX2_doAtLeast 21 = .ok (.if_icmp .ne 7, 3) := by decide +kernel
theorem dX2_doAtLeast_24 : decode cX2_doAtLeast 24 = .ok (.iconst 1, 1) := by decide +kernel
theorem dX2_doAtLeast_25 : decode cX2_doAtLeast 25 = .ok (.goto 4, 3) := by decide +kernel
theorem dX2_doAtLeast_28 : decode cX2_doAtLeast 28 = .ok (.iconst 0, 1) := by decide +kernel
theorem dX2_doAtLeast_29 : decode cX2_doAtLeast 29 = .ok (.ireturn, 1) := by decide +kernel
theorem dX2_doJust_0 : decode cX2_doJust 0 = .ok (.aload_n 0, 1) := by decide +kernel
theorem dX2_doJust_1 : decode cX2_doJust 1 = .ok (.iload_n 1, 1) := by decide +kernel
theorem dX2_doJust_2 : decode cX2_doJust 2 = .ok (.iconst 0, 1) := by decide +kernel
theorem dX2_doJust_3 : decode cX2_doJust 3 = .ok (.invokevirtual 75, 3) := by decide +kernel
theorem dX2_doJust_6 : decode cX2_doJust 6 = .ok (.iload_n 2, 1) := by decide +kernel
theorem dX2_doJust_7 : decode cX2_doJust 7 = .ok (.if_icmp .ne 17, 3) := by decide +kernel
theorem dX2_doJust_10 : decode cX2_doJust 10 = .ok (.aload_n 0, 1) := by decide +kernel
theorem dX2_doJust_11 : decode cX2_doJust 11 = .ok (.iload_n 1, 1) := by decide +kernel
theorem dX2_doJust_12 : decode cX2_doJust 12 = .ok (.iconst 1, 1) := by decide +kernel
theorem dX2_doJust_13 : decode cX2_doJust 13 = .ok (.invokevirtual 75, 3) := by decide +kernel
theorem dX2_doJust_16 : decode cX2_doJust 16 = .ok (.iload_n 3, 1) := by decide +kernel
theorem dX2_doJust_17 : decode cX2_doJust 17 = .ok (.if_icmp .ne 7, 3) := by decide +kernel
theorem dX2_doJust_20 : decode cX2_doJust 20 = .ok (.iconst 1, 1) := by decide +kernel
theorem dX2_doJust_21 : decode cX2_doJust 21 = .ok (.goto 4, 3) := by decide +kernel
theorem dX2_doJust_24 : decode cX2_doJust 24 = .ok (.iconst 0, 1) := by decide +kernel
theorem dX2_doJust_25 : decode cX2_doJust 25 = .ok (.ireturn, 1) := by decide +kernel
theorem dX2_afterTelling_0 : decode cX2_afterTelling 0 = .ok (.aload_n 0, 1) := by decide +kernel
theorem dX2_afterTelling_1 : decode cX2_afterTelling 1 = .ok (.iload_n 1, 1) := by decide +kernel
theorem dX2_afterTelling_2 : decode cX2_afterTelling 2 = .ok (.aload_n 0, 1) := by decide +kernel
theorem dX2_afterTelling_3 : decode cX2_afterTelling 3 = .ok (.iload_n 1, 1) := by decide +kernel
theorem dX2_afterTelling_4 : decode cX2_afterTelling 4 = .ok (.iload_n 2, 1) := by decide +kernel
theorem dX2_afterTelling_5 : decode cX2_afterTelling 5 = .ok (.iload_n 3, 1) := by decide +kernel
theorem dX2_afterTelling_6 : decode cX2_afterTelling 6 = .ok (.invokevirtual 83, 3) := by decide +kernel
theorem dX2_afterTelling_9 : decode cX2_afterTelling 9 = .ok (.iload_n 3, 1) := by decide +kernel
theorem dX2_afterTelling_10 : decode cX2_afterTelling 10 = .ok (.iload 4, 2) := by decide +kernel
theorem dX2_afterTelling_12 : decode cX2_afterTelling 12 = .ok (.invokevirtual 86, 3) := by decide +kernel
theorem dX2_afterTelling_15 : decode cX2_afterTelling 15 = .ok (.ireturn, 1) := by decide +kernel
theorem dX2_afterCase_0 : decode cX2_afterCase 0 = .ok (.iload_n 2, 1) := by decide +kernel
theorem dX2_afterCase_1 : decode cX2_afterCase 1 = .ok (.iload 4, 2) := by decide +kernel
theorem dX2_afterCase_3 : decode cX2_afterCase 3 = .ok (.iadd, 1) := by decide +kernel
theorem dX2_afterCase_4 : decode cX2_afterCase 4 = .ok (.istore 5, 2) := by decide +kernel
theorem dX2_afterCase_6 : decode cX2_afterCase 6 = .ok (.iload 5, 2) := by decide +kernel
theorem dX2_afterCase_8 : decode cX2_afterCase 8 = .ok (.ifCond .lt 23, 3) := by decide +kernel
theorem dX2_afterCase_11 : decode cX2_afterCase 11 = .ok (.iload 5, 2) := by decide +kernel
theorem dX2_afterCase_13 : decode cX2_afterCase 13 = .ok (.aload_n 0, 1) := by decide +kernel
theorem dX2_afterCase_14 : decode cX2_afterCase 14 = .ok (.getfield 24, 3) := by decide +kernel
theorem dX2_afterCase_17 : decode cX2_afterCase 17 = .ok (.arraylength, 1) := by decide +kernel
theorem dX2_afterCase_18 : decode cX2_afterCase 18 = .ok (.if_icmp .ge 13, 3) := by decide +kernel
theorem dX2_afterCase_21 : decode cX2_afterCase 21 = .ok (.aload_n 0, 1) := by decide +kernel
theorem dX2_afterCase_22 : decode cX2_afterCase 22 = .ok (.getfield 24, 3) := by decide +kernel
theorem dX2_afterCase_25 : decode cX2_afterCase 25 = .ok (.iload 5, 2) := by decide +kernel
theorem dX2_afterCase_27 : decode cX2_afterCase 27 = .ok (.iaload, 1) := by decide +kernel
theorem dX2_afterCase_28 : decode cX2_afterCase 28 = .ok (.goto 4, 3) := by decide +kernel
theorem dX2_afterCase_31 : decode cX2_afterCase 31 = .ok (.iconst (-1), 1) := by decide +kernel
theorem dX2_afterCase_32 : decode cX2_afterCase 32 = .ok (.istore 6, 2) := by decide +kernel
theorem dX2_afterCase_34 : decode cX2_afterCase 34 = .ok (.iload 6, 2) := by decide +kernel
theorem dX2_afterCase_36 : decode cX2_afterCase 36 = .ok (.ifCond .ge 5, 3) := by decide +kernel
theorem dX2_afterCase_39 : decode cX2_afterCase 39 = .ok (.iconst (-1), 1) := by decide +kernel
theorem dX2_afterCase_40 : decode cX2_afterCase 40 = .ok (.ireturn, 1) := by decide +kernel
theorem dX2_afterCase_41 : decode cX2_afterCase 41 = .ok (.iload_n 1, 1) := by decide +kernel
theorem dX2_afterCase_42 : decode cX2_afterCase 42 = .ok (.istore 7, 2) := by decide +kernel
theorem dX2_afterCase_44 : decode cX2_afterCase 44 = .ok (.iload_n 1, 1) := by decide +kernel
theorem dX2_afterCase_45 : decode cX2_afterCase 45 = .ok (.iload_n 3, 1) := by decide +kernel
theorem dX2_afterCase_46 : decode cX2_afterCase 46 = .ok (.iload 4, 2) := by decide +kernel
theorem dX2_afterCase_48 : decode cX2_afterCase 48 = .ok (.invokestatic 71, 3) := by decide +kernel
theorem dX2_afterCase_51 : decode cX2_afterCase 51 = .ok (.ifCond .ne 18, 3) := by decide +kernel
theorem dX2_afterCase_54 : decode cX2_afterCase 54 = .ok (.iload 7, 2) := by decide +kernel
theorem dX2_afterCase_56 : decode cX2_afterCase 56 = .ok (.iconst 1, 1) := by decide +kernel
theorem dX2_afterCase_57 : decode cX2_afterCase 57 = .ok (.iconst 4, 1) := by decide +kernel
theorem dX2_afterCase_58 : decode cX2_afterCase 58 = .ok (.iload 4, 2) := by decide +kernel
theorem dX2_afterCase_60 : decode cX2_afterCase 60 = .ok (.imul, 1) := by decide +kernel
theorem dX2_afterCase_61 : decode cX2_afterCase 61 = .ok (.iconst 2, 1) := by decide +kernel
theorem dX2_afterCase_62 : decode cX2_afterCase 62 = .ok (.iload_n 3, 1) := by decide +kernel
theorem dX2_afterCase_63 : decode cX2_afterCase 63 = .ok (.imul, 1) := by decide +kernel
theorem dX2_afterCase_64 : decode cX2_afterCase 64 = .ok (.iadd, 1) := by decide +kernel
theorem dX2_afterCase_65 : decode cX2_afterCase 65 = .ok (.ishl, 1) := by decide +kernel
theorem dX2_afterCase_66 : decode cX2_afterCase 66 = .ok (.ior, 1) := by decide +kernel
theorem dX2_afterCase_67 : decode cX2_afterCase 67 = .ok (.istore 7, 2) := by decide +kernel
theorem dX2_afterCase_69 : decode cX2_afterCase 69 = .ok (.iload 6, 2) := by decide +kernel
theorem dX2_afterCase_71 : decode cX2_afterCase 71 = .ok (.iload_n 1, 1) := by decide +kernel
theorem dX2_afterCase_72 : decode cX2_afterCase 72 = .ok (.iconst 1, 1) := by decide +kernel
theorem dX2_afterCase_73 : decode cX2_afterCase 73 = .ok (.iload_n 3, 1) := by decide +kernel
theorem dX2_afterCase_74 : decode cX2_afterCase 74 = .ok (.isub, 1) := by decide +kernel
theorem dX2_afterCase_75 : decode cX2_afterCase 75 = .ok (.iload 4, 2) := by decide +kernel
theorem dX2_afterCase_77 : decode cX2_afterCase 77 = .ok (.invokestatic 71, 3) := by decide +kernel
theorem dX2_afterCase_80 : decode cX2_afterCase 80 = .ok (.isub, 1) := by decide +kernel
theorem dX2_afterCase_81 : decode cX2_afterCase 81 = .ok (.istore 8, 2) := by decide +kernel
theorem dX2_afterCase_83 : decode cX2_afterCase 83 = .ok (.iload 8, 2) := by decide +kernel
theorem dX2_afterCase_85 : decode cX2_afterCase 85 = .ok (.ifCond .le 22, 3) := by decide +kernel
theorem dX2_afterCase_88 : decode cX2_afterCase 88 = .ok (.iload 7, 2) := by decide +kernel
theorem dX2_afterCase_90 : decode cX2_afterCase 90 = .ok (.iload 8, 2) := by decide +kernel
theorem dX2_afterCase_92 : decode cX2_afterCase 92 = .ok (.iconst 4, 1) := by decide +kernel
theorem dX2_afterCase_93 : decode cX2_afterCase 93 = .ok (.iload 4, 2) := by decide +kernel
theorem dX2_afterCase_95 : decode cX2_afterCase 95 = .ok (.imul, 1) := by decide +kernel
theorem dX2_afterCase_96 : decode cX2_afterCase 96 = .ok (.iconst 2, 1) := by decide +kernel
theorem dX2_afterCase_97 : decode cX2_afterCase 97 = .ok (.iconst 1, 1) := by decide +kernel
theorem dX2_afterCase_98 : decode cX2_afterCase 98 = .ok (.iload_n 3, 1) := by decide +kernel
theorem dX2_afterCase_99 : decode cX2_afterCase 99 = .ok (.isub, 1) := by decide +kernel
theorem dX2_afterCase_100 : decode cX2_afterCase 100 = .ok (.imul, 1) := by decide +kernel
theorem dX2_afterCase_101 : decode cX2_afterCase 101 = .ok (.iadd, 1) := by decide +kernel
theorem dX2_afterCase_102 : decode cX2_afterCase 102 = .ok (.ishl, 1) := by decide +kernel
theorem dX2_afterCase_103 : decode cX2_afterCase 103 = .ok (.iadd, 1) := by decide +kernel
theorem dX2_afterCase_104 : decode cX2_afterCase 104 = .ok (.goto 5, 3) := by decide +kernel
theorem dX2_afterCase_107 : decode cX2_afterCase 107 = .ok (.iload 7, 2) := by decide +kernel
theorem dX2_afterCase_109 : decode cX2_afterCase 109 = .ok (.ireturn, 1) := by decide +kernel
theorem dX2_afterDay_0 : decode cX2_afterDay 0 = .ok (.iload_n 0, 1) := by decide +kernel
theorem dX2_afterDay_1 : decode cX2_afterDay 1 = .ok (.sipush 21845, 3) := by decide +kernel
theorem dX2_afterDay_4 : decode cX2_afterDay 4 = .ok (.iand, 1) := by decide +kernel
theorem dX2_afterDay_5 : decode cX2_afterDay 5 = .ok (.istore_n 1, 1) := by decide +kernel
theorem dX2_afterDay_6 : decode cX2_afterDay 6 = .ok (.iload_n 0, 1) := by decide +kernel
theorem dX2_afterDay_7 : decode cX2_afterDay 7 = .ok (.iconst 1, 1) := by decide +kernel
theorem dX2_afterDay_8 : decode cX2_afterDay 8 = .ok (.ishr, 1) := by decide +kernel
theorem dX2_afterDay_9 : decode cX2_afterDay 9 = .ok (.sipush 21845, 3) := by decide +kernel
theorem dX2_afterDay_12 : decode cX2_afterDay 12 = .ok (.iand, 1) := by decide +kernel
theorem dX2_afterDay_13 : decode cX2_afterDay 13 = .ok (.istore_n 2, 1) := by decide +kernel
theorem dX2_afterDay_14 : decode cX2_afterDay 14 = .ok (.iload_n 2, 1) := by decide +kernel
theorem dX2_afterDay_15 : decode cX2_afterDay 15 = .ok (.iload_n 1, 1) := by decide +kernel
theorem dX2_afterDay_16 : decode cX2_afterDay 16 = .ok (.iload_n 2, 1) := by decide +kernel
theorem dX2_afterDay_17 : decode cX2_afterDay 17 = .ok (.ior, 1) := by decide +kernel
theorem dX2_afterDay_18 : decode cX2_afterDay 18 = .ok (.iconst 1, 1) := by decide +kernel
theorem dX2_afterDay_19 : decode cX2_afterDay 19 = .ok (.ishl, 1) := by decide +kernel
theorem dX2_afterDay_20 : decode cX2_afterDay 20 = .ok (.ior, 1) := by decide +kernel
theorem dX2_afterDay_21 : decode cX2_afterDay 21 = .ok (.ireturn, 1) := by decide +kernel
theorem dX3_init_0 : decode cX3_init 0 = .ok (.aload_n 0, 1) := by decide +kernel
theorem dX3_init_1 : decode cX3_init 1 = .ok (.invokespecial 3, 3) := by decide +kernel
theorem dX3_init_4 : decode cX3_init 4 = .ok (.aload_n 0, 1) := by decide +kernel
theorem dX3_init_5 : decode cX3_init 5 = .ok (.sipush 900, 3) := by decide +kernel
theorem dX3_init_8 : decode cX3_init 8 = .ok (.newarray .int, 2) := by decide +kernel
theorem dX3_init_10 : decode cX3_init 10 = .ok (.putfield 9, 3) := by decide +kernel
theorem dX3_init_13 : decode cX3_init 13 = .ok (.aload_n 0, 1) := by decide +kernel
theorem dX3_init_14 : decode cX3_init 14 = .ok (.bipush 6, 2) := by decide +kernel
theorem dX3_init_16 : decode cX3_init 16 = .ok (.newarray .int, 2) := by decide +kernel
theorem dX3_init_18 : decode cX3_init 18 = .ok (.putfield 15, 3) := by decide +kernel
theorem dX3_init_21 : decode cX3_init 21 = .ok (.aload_n 0, 1) := by decide +kernel
theorem dX3_init_22 : decode cX3_init 22 = .ok (.bipush 100, 2) := by decide +kernel
theorem dX3_init_24 : decode cX3_init 24 = .ok (.newarray .int, 2) := by decide +kernel
theorem dX3_init_26 : decode cX3_init 26 = .ok (.putfield 18, 3) := by decide +kernel
theorem dX3_init_29 : decode cX3_init 29 = .ok (.return_, 1) := by decide +kernel
theorem dX3_clear_0 : decode cX3_clear 0 = .ok (.aload_n 0, 1) := by decide +kernel
theorem dX3_clear_1 : decode cX3_clear 1 = .ok (.iconst 0, 1) := by decide +kernel
theorem dX3_clear_2 : decode cX3_clear 2 = .ok (.putfield 21, 3) := by decide +kernel
theorem dX3_clear_5 : decode cX3_clear 5 = .ok (.aload_n 0, 1) := by decide +kernel
theorem dX3_clear_6 : decode cX3_clear 6 = .ok (.iconst 0, 1) := by decide +kernel
theorem dX3_clear_7 : decode cX3_clear 7 = .ok (.putfield 25, 3) := by decide +kernel
theorem dX3_clear_10 : decode cX3_clear 10 = .ok (.aload_n 0, 1) := by decide +kernel
theorem dX3_clear_11 : decode cX3_clear 11 = .ok (.iconst 0, 1) := by decide +kernel
theorem dX3_clear_12 : decode cX3_clear 12 = .ok (.putfield 28, 3) := by decide +kernel
theorem dX3_clear_15 : decode cX3_clear 15 = .ok (.aload_n 0, 1) := by decide +kernel
theorem dX3_clear_16 : decode cX3_clear 16 = .ok (.iconst 0, 1) := by decide +kernel
theorem dX3_clear_17 : decode cX3_clear 17 = .ok (.putfield 31, 3) := by decide +kernel
theorem dX3_clear_20 : decode cX3_clear 20 = .ok (.aload_n 0, 1) := by decide +kernel
theorem dX3_clear_21 : decode cX3_clear 21 = .ok (.iconst 0, 1) := by decide +kernel
theorem dX3_clear_22 : decode cX3_clear 22 = .ok (.putfield 34, 3) := by decide +kernel
theorem dX3_clear_25 : decode cX3_clear 25 = .ok (.return_, 1) := by decide +kernel
theorem dX3_add_0 : decode cX3_add 0 = .ok (.aload_n 0, 1) := by decide +kernel
theorem dX3_add_1 : decode cX3_add 1 = .ok (.getfield 21, 3) := by decide +kernel
theorem dX3_add_4 : decode cX3_add 4 = .ok (.aload_n 0, 1) := by decide +kernel
theorem dX3_add_5 : decode cX3_add 5 = .ok (.getfield 9, 3) := by decide +kernel
theorem dX3_add_8 : decode cX3_add 8 = .ok (.arraylength, 1) := by decide +kernel
theorem dX3_add_9 : decode cX3_add 9 = .ok (.if_icmp .ge 23, 3) := by decide +kernel
theorem dX3_add_12 : decode cX3_add 12 = .ok (.aload_n 0, 1) := by decide +kernel
theorem dX3_add_13 : decode cX3_add 13 = .ok (.getfield 9, 3) := by decide +kernel
theorem dX3_add_16 : decode cX3_add 16 = .ok (.aload_n 0, 1) := by decide +kernel
theorem dX3_add_17 : decode cX3_add 17 = .ok (.getfield 21, 3) := by decide +kernel
theorem dX3_add_20 : decode cX3_add 20 = .ok (.iload_n 1, 1) := by decide +kernel
theorem dX3_add_21 : decode cX3_add 21 = .ok (.iastore, 1) := by decide +kernel
theorem dX3_add_22 : decode cX3_add 22 = .ok (.aload_n 0, 1) := by decide +kernel
theorem dX3_add_23 : decode cX3_add 23 = .ok (.dup, 1) := by decide +kernel
theorem dX3_add_24 : decode cX3_add 24 = .ok (.getfield 21, 3) := by decide +kernel
theorem dX3_add_27 : decode cX3_add 27 = .ok (.iconst 1, 1) := by decide +kernel
theorem dX3_add_28 : decode cX3_add 28 = .ok (.iadd, 1) := by decide +kernel
theorem dX3_add_29 : decode cX3_add 29 = .ok (.putfield 21, 3) := by decide +kernel
theorem dX3_add_32 : decode cX3_add 32 = .ok (.return_, 1) := by decide +kernel
theorem dX3_setComes_0 : decode cX3_setComes 0 = .ok (.aload_n 0, 1) := by decide +kernel
theorem dX3_setComes_1 : decode cX3_setComes 1 = .ok (.iload_n 1, 1) := by decide +kernel
theorem dX3_setComes_2 : decode cX3_setComes 2 = .ok (.putfield 25, 3) := by decide +kernel
theorem dX3_setComes_5 : decode cX3_setComes 5 = .ok (.aload_n 0, 1) := by decide +kernel
theorem dX3_setComes_6 : decode cX3_setComes 6 = .ok (.aload_n 0, 1) := by decide +kernel
theorem dX3_setComes_7 : decode cX3_setComes 7 = .ok (.getfield 21, 3) := by decide +kernel
theorem dX3_setComes_10 : decode cX3_setComes 10 = .ok (.putfield 28, 3) := by decide +kernel
theorem dX3_setComes_13 : decode cX3_setComes 13 = .ok (.return_, 1) := by decide +kernel
theorem dX3_setMay_0 : decode cX3_setMay 0 = .ok (.aload_n 0, 1) := by decide +kernel
theorem dX3_setMay_1 : decode cX3_setMay 1 = .ok (.iload_n 1, 1) := by decide +kernel
theorem dX3_setMay_2 : decode cX3_setMay 2 = .ok (.putfield 31, 3) := by decide +kernel
theorem dX3_setMay_5 : decode cX3_setMay 5 = .ok (.aload_n 0, 1) := by decide +kernel
theorem dX3_setMay_6 : decode cX3_setMay 6 = .ok (.aload_n 0, 1) := by decide +kernel
theorem dX3_setMay_7 : decode cX3_setMay 7 = .ok (.getfield 21, 3) := by decide +kernel
theorem dX3_setMay_10 : decode cX3_setMay 10 = .ok (.putfield 34, 3) := by decide +kernel
theorem dX3_setMay_13 : decode cX3_setMay 13 = .ok (.return_, 1) := by decide +kernel
theorem dX3_weigh_0 : decode cX3_weigh 0 = .ok (.iconst 0, 1) := by decide +kernel
theorem dX3_weigh_1 : decode cX3_weigh 1 = .ok (.istore_n 2, 1) := by decide +kernel
theorem dX3_weigh_2 : decode cX3_weigh 2 = .ok (.iload_n 2, 1) := by decide +kernel
theorem dX3_weigh_3 : decode cX3_weigh 3 = .ok (.iconst 2, 1) := by decide +kernel
theorem dX3_weigh_4 : decode cX3_weigh 4 = .ok (.if_icmp .ge 107, 3) := by decide +kernel
theorem dX3_weigh_7 : decode cX3_weigh 7 = .ok (.iconst 0, 1) := by decide +kernel
theorem dX3_weigh_8 : decode cX3_weigh 8 = .ok (.istore_n 3, 1) := by decide +kernel
theorem dX3_weigh_9 : decode cX3_weigh 9 = .ok (.iload_n 3, 1) := by decide +kernel
theorem dX3_weigh_10 : decode cX3_weigh 10 = .ok (.aload_n 1, 1) := by decide +kernel
theorem dX3_weigh_11 : decode cX3_weigh 11 = .ok (.getfield 37, 3) := by decide +kernel
theorem dX3_weigh_14 : decode cX3_weigh 14 = .ok (.if_icmp .ge 91, 3) := by decide +kernel
theorem dX3_weigh_17 : decode cX3_weigh 17 = .ok (.aload_n 0, 1) := by decide +kernel
theorem dX3_weigh_18 : decode cX3_weigh 18 = .ok (.getfield 15, 3) := by decide +kernel
theorem dX3_weigh_21 : decode cX3_weigh 21 = .ok (.iconst 0, 1) := by decide +kernel
theorem dX3_weigh_22 : decode cX3_weigh 22 = .ok (.iload_n 2, 1) := by decide +kernel
theorem dX3_weigh_23 : decode cX3_weigh 23 = .ok (.iastore, 1) := by decide +kernel
theorem dX3_weigh_24 : decode cX3_weigh 24 = .ok (.aload_n 0, 1) := by decide +kernel
theorem dX3_weigh_25 : decode cX3_weigh 25 = .ok (.getfield 15, 3) := by decide +kernel
theorem dX3_weigh_28 : decode cX3_weigh 28 = .ok (.iconst 1, 1) := by decide +kernel
theorem dX3_weigh_29 : decode cX3_weigh 29 = .ok (.iload_n 3, 1) := by decide +kernel
theorem dX3_weigh_30 : decode cX3_weigh 30 = .ok (.iastore, 1) := by decide +kernel
theorem dX3_weigh_31 : decode cX3_weigh 31 = .ok (.aload_n 0, 1) := by decide +kernel
theorem dX3_weigh_32 : decode cX3_weigh 32 = .ok (.getfield 15, 3) := by decide +kernel
theorem dX3_weigh_35 : decode cX3_weigh 35 = .ok (.iconst 2, 1) := by decide +kernel
theorem dX3_weigh_36 : decode cX3_weigh 36 = .ok (.aload_n 1, 1) := by decide +kernel
theorem dX3_weigh_37 : decode cX3_weigh 37 = .ok (.iload_n 3, 1) := by decide +kernel
theorem dX3_weigh_38 : decode cX3_weigh 38 = .ok (.invokevirtual 42, 3) := by decide +kernel
theorem dX3_weigh_41 : decode cX3_weigh 41 = .ok (.iastore, 1) := by decide +kernel
theorem dX3_weigh_42 : decode cX3_weigh 42 = .ok (.iconst 0, 1) := by decide +kernel
theorem dX3_weigh_43 : decode cX3_weigh 43 = .ok (.istore 4, 2) := by decide +kernel
theorem dX3_weigh_45 : decode cX3_weigh 45 = .ok (.iload 4, 2) := by decide +kernel
theorem dX3_weigh_47 : decode cX3_weigh 47 = .ok (.aload_n 1, 1) := by decide +kernel
theorem dX3_weigh_48 : decode cX3_weigh 48 = .ok (.getfield 37, 3) := by decide +kernel
theorem dX3_weigh_51 : decode cX3_weigh 51 = .ok (.if_icmp .gt 48, 3) := by decide +kernel
theorem dX3_weigh_54 : decode cX3_weigh 54 = .ok (.iconst 0, 1) := by decide +kernel
theorem dX3_weigh_55 : decode cX3_weigh 55 = .ok (.istore 5, 2) := by decide +kernel
theorem dX3_weigh_57 : decode cX3_weigh 57 = .ok (.iload 5, 2) := by decide +kernel
theorem dX3_weigh_59 : decode cX3_weigh 59 = .ok (.aload_n 1, 1) := by decide +kernel
theorem dX3_weigh_60 : decode cX3_weigh 60 = .ok (.getfield 37, 3) := by decide +kernel
theorem dX3_weigh_63 : decode cX3_weigh 63 = .ok (.if_icmp .gt 30, 3) := by decide +kernel
theorem dX3_weigh_66 : decode cX3_weigh 66 = .ok (.aload_n 0, 1) := by decide +kernel
theorem dX3_weigh_67 : decode cX3_weigh 67 = .ok (.getfield 15, 3) := by decide +kernel
theorem dX3_weigh_70 : decode cX3_weigh 70 = .ok (.iconst 3, 1) := by decide +kernel
theorem dX3_weigh_71 : decode cX3_weigh 71 = .ok (.iload 4, 2) := by decide +kernel
theorem dX3_weigh_73 : decode cX3_weigh 73 = .ok (.iastore, 1) := by decide +kernel
theorem dX3_weigh_74 : decode cX3_weigh 74 = .ok (.aload_n 0, 1) := by decide +kernel
theorem dX3_weigh_75 : decode cX3_weigh 75 = .ok (.getfield 15, 3) := by decide +kernel
theorem dX3_weigh_78 : decode cX3_weigh 78 = .ok (.iconst 4, 1) := by decide +kernel
theorem dX3_weigh_79 : decode cX3_weigh 79 = .ok (.iload 5, 2) := by decide +kernel
theorem dX3_weigh_81 : decode cX3_weigh 81 = .ok (.iastore, 1) := by decide +kernel
theorem dX3_weigh_82 : decode cX3_weigh 82 = .ok (.aload_n 0, 1) := by decide +kernel
theorem dX3_weigh_83 : decode cX3_weigh 83 = .ok (.aload_n 1, 1) := by decide +kernel
theorem dX3_weigh_84 : decode cX3_weigh 84 = .ok (.invokevirtual 46, 3) := by decide +kernel
theorem dX3_weigh_87 : decode cX3_weigh 87 = .ok (.iinc 5 1, 3) := by decide +kernel
theorem dX3_weigh_90 : decode cX3_weigh 90 = .ok (.goto (-33), 3) := by decide +kernel
theorem dX3_weigh_93 : decode cX3_weigh 93 = .ok (.iinc 4 1, 3) := by decide +kernel
theorem dX3_weigh_96 : decode cX3_weigh 96 = .ok (.goto (-51), 3) := by decide +kernel
theorem dX3_weigh_99 : decode cX3_weigh 99 = .ok (.iinc 3 1, 3) := by decide +kernel
theorem dX3_weigh_102 : decode cX3_weigh 102 = .ok (.goto (-93), 3) := by decide +kernel
theorem dX3_weigh_105 : decode cX3_weigh 105 = .ok (.iinc 2 1, 3) := by decide +kernel
theorem dX3_weigh_108 : decode cX3_weigh 108 = .ok (.goto (-106), 3) := by decide +kernel
theorem dX3_weigh_111 : decode cX3_weigh 111 = .ok (.return_, 1) := by decide +kernel
theorem dX3_weighBonds_0 : decode cX3_weighBonds 0 = .ok (.aload_n 0, 1) := by decide +kernel
theorem dX3_weighBonds_1 : decode cX3_weighBonds 1 = .ok (.getfield 34, 3) := by decide +kernel
theorem dX3_weighBonds_4 : decode cX3_weighBonds 4 = .ok (.aload_n 0, 1) := by decide +kernel
theorem dX3_weighBonds_5 : decode cX3_weighBonds 5 = .ok (.getfield 31, 3) := by decide +kernel
theorem dX3_weighBonds_8 : decode cX3_weighBonds 8 = .ok (.if_icmp .eq 18, 3) := by decide +kernel
theorem dX3_weighBonds_11 : decode cX3_weighBonds 11 = .ok (.aload_n 0, 1) := by decide +kernel
theorem dX3_weighBonds_12 : decode cX3_weighBonds 12 = .ok (.aload_n 0, 1) := by decide +kernel
theorem dX3_weighBonds_13 : decode cX3_weighBonds 13 = .ok (.getfield 31, 3) := by decide +kernel
theorem dX3_weighBonds_16 : decode cX3_weighBonds 16 = .ok (.aload_n 0, 1) := by decide +kernel
theorem dX3_weighBonds_17 : decode cX3_weighBonds 17 = .ok (.getfield 34, 3) := by decide +kernel
theorem dX3_weighBonds_20 : decode cX3_weighBonds 20 = .ok (.invokevirtual 50, 3) := by decide +kernel
theorem dX3_weighBonds_23 : decode cX3_weighBonds 23 = .ok (.ifCond .eq 7, 3) := by decide +kernel
theorem dX3_weighBonds_26 : decode cX3_weighBonds 26 = .ok (.iconst 1, 1) := by decide +kernel
theorem dX3_weighBonds_27 : decode cX3_weighBonds 27 = .ok (.goto 4, 3) := by decide +kernel
theorem dX3_weighBonds_30 : decode cX3_weighBonds 30 = .ok (.iconst 0, 1) := by decide +kernel
theorem dX3_weighBonds_31 : decode cX3_weighBonds 31 = .ok (.istore_n 2, 1) := by decide +kernel
theorem dX3_weighBonds_32 : decode cX3_weighBonds 32 = .ok (.iload_n 2, 1) := by decide +kernel
theorem dX3_weighBonds_33 : decode cX3_weighBonds 33 = .ok (.ifCond .eq 7, 3) := by decide +kernel
theorem dX3_weighBonds_36 : decode cX3_weighBonds 36 = .ok (.iconst 2, 1) := by decide +kernel
theorem dX3_weighBonds_37 : decode cX3_weighBonds 37 = .ok (.goto 4, 3) := by decide +kernel
theorem dX3_weighBonds_40 : decode cX3_weighBonds 40 = .ok (.iconst (-1), 1) := by decide +kernel
theorem dX3_weighBonds_41 : decode cX3_weighBonds 41 = .ok (.istore_n 3, 1) := by decide +kernel
theorem dX3_weighBonds_42 : decode cX3_weighBonds 42 = .ok (.iconst 0, 1) := by decide +kernel
theorem dX3_weighBonds_43 : decode cX3_weighBonds 43 = .ok (.istore 4, 2) := by decide +kernel
theorem dX3_weighBonds_45 : decode cX3_weighBonds 45 = .ok (.iload 4, 2) := by decide +kernel
theorem dX3_weighBonds_47 : decode cX3_weighBonds 47 = .ok (.bipush 10, 2) := by decide +kernel
theorem dX3_weighBonds_49 : decode cX3_weighBonds 49 = .ok (.if_icmp .ge 104, 3) := by decide +kernel
theorem dX3_weighBonds_52 : decode cX3_weighBonds 52 = .ok (.iload_n 2, 1) := by decide +kernel
theorem dX3_weighBonds_53 : decode cX3_weighBonds 53 = .ok (.ifCond .eq 55, 3) := by decide +kernel
theorem dX3_weighBonds_56 : decode cX3_weighBonds 56 = .ok (.aload_n 0, 1) := by decide +kernel
theorem dX3_weighBonds_57 : decode cX3_weighBonds 57 = .ok (.getfield 28, 3) := by decide +kernel
theorem dX3_weighBonds_60 : decode cX3_weighBonds 60 = .ok (.aload_n 0, 1) := by decide +kernel
theorem dX3_weighBonds_61 : decode cX3_weighBonds 61 = .ok (.getfield 25, 3) := by decide +kernel
theorem dX3_weighBonds_64 : decode cX3_weighBonds 64 = .ok (.if_icmp .le 44, 3) := by decide +kernel
theorem dX3_weighBonds_67 : decode cX3_weighBonds 67 = .ok (.iload 4, 2) := by decide +kernel
theorem dX3_weighBonds_69 : decode cX3_weighBonds 69 = .ok (.ifCond .eq 10, 3) := by decide +kernel
theorem dX3_weighBonds_72 : decode cX3_weighBonds 72 = .ok (.aload_n 0, 1) := by decide +kernel
theorem dX3_weighBonds_73 : decode cX3_weighBonds 73 = .ok (.invokevirtual 54, 3) := by decide +kernel
theorem dX3_weighBonds_76 : decode cX3_weighBonds 76 = .ok (.ifCond .eq 32, 3) := by decide +kernel
theorem dX3_weighBonds_79 : decode cX3_weighBonds 79 = .ok (.aload_n 0, 1) := by decide +kernel
theorem dX3_weighBonds_80 : decode cX3_weighBonds 80 = .ok (.getfield 15, 3) := by decide +kernel
theorem dX3_weighBonds_83 : decode cX3_weighBonds 83 = .ok (.iconst 5, 1) := by decide +kernel
theorem dX3_weighBonds_84 : decode cX3_weighBonds 84 = .ok (.iload 4, 2) := by decide +kernel
theorem dX3_weighBonds_86 : decode cX3_weighBonds 86 = .ok (.iastore, 1) := by decide +kernel
theorem dX3_weighBonds_87 : decode cX3_weighBonds 87 = .ok (.iconst 0, 1) := by decide +kernel
theorem dX3_weighBonds_88 : decode cX3_weighBonds 88 = .ok (.iconst 3, 1) := by decide +kernel
theorem dX3_weighBonds_89 : decode cX3_weighBonds 89 = .ok (.aload_n 0, 1) := by decide +kernel
theorem dX3_weighBonds_90 : decode cX3_weighBonds 90 = .ok (.aload_n 0, 1) := by decide +kernel
theorem dX3_weighBonds_91 : decode cX3_weighBonds 91 = .ok (.getfield 25, 3) := by decide +kernel
theorem dX3_weighBonds_94 : decode cX3_weighBonds 94 = .ok (.aload_n 0, 1) := by decide +kernel
theorem dX3_weighBonds_95 : decode cX3_weighBonds 95 = .ok (.getfield 28, 3) := by decide +kernel
theorem dX3_weighBonds_98 : decode cX3_weighBonds 98 = .ok (.invokevirtual 50, 3) := by decide +kernel
theorem dX3_weighBonds_101 : decode cX3_weighBonds 101 = .ok (.invokestatic 58, 3) := by decide +kernel
theorem dX3_weighBonds_104 : decode cX3_weighBonds 104 = .ok (.invokestatic 63, 3) := by decide +kernel
theorem dX3_weighBonds_107 : decode cX3_weighBonds 107 = .ok (.istore_n 3, 1) := by decide +kernel
theorem dX3_weighBonds_108 : decode cX3_weighBonds 108 = .ok (.iload 4, 2) := by decide +kernel
theorem dX3_weighBonds_110 : decode cX3_weighBonds 110 = .ok (.aload_n 0, 1) := by decide +kernel
theorem dX3_weighBonds_111 : decode cX3_weighBonds 111 = .ok (.getfield 15, 3) := by decide +kernel
theorem dX3_weighBonds_114 : decode cX3_weighBonds 114 = .ok (.iconst 0, 1) := by decide +kernel
theorem dX3_weighBonds_115 : decode cX3_weighBonds 115 = .ok (.iaload, 1) := by decide +kernel
theorem dX3_weighBonds_116 : decode cX3_weighBonds 116 = .ok (.aload_n 0, 1) := by decide +kernel
theorem dX3_weighBonds_117 : decode cX3_weighBonds 117 = .ok (.getfield 15, 3) := by decide +kernel
theorem dX3_weighBonds_120 : decode cX3_weighBonds 120 = .ok (.iconst 3, 1) := by decide +kernel
theorem dX3_weighBonds_121 : decode cX3_weighBonds 121 = .ok (.iaload, 1) := by decide +kernel
theorem dX3_weighBonds_122 : decode cX3_weighBonds 122 = .ok (.aload_n 0, 1) := by decide +kernel
theorem dX3_weighBonds_123 : decode cX3_weighBonds 123 = .ok (.getfield 15, 3) := by decide +kernel
theorem dX3_weighBonds_126 : decode cX3_weighBonds 126 = .ok (.iconst 4, 1) := by decide +kernel
theorem dX3_weighBonds_127 : decode cX3_weighBonds 127 = .ok (.iaload, 1) := by decide +kernel
theorem dX3_weighBonds_128 : decode cX3_weighBonds 128 = .ok (.invokestatic 66, 3) := by decide +kernel
theorem dX3_weighBonds_131 : decode cX3_weighBonds 131 = .ok (.istore 5, 2) := by decide +kernel
theorem dX3_weighBonds_133 : decode cX3_weighBonds 133 = .ok (.aload_n 1, 1) := by decide +kernel
theorem dX3_weighBonds_134 : decode cX3_weighBonds 134 = .ok (.iload 5, 2) := by decide +kernel
theorem dX3_weighBonds_136 : decode cX3_weighBonds 136 = .ok (.aload_n 0, 1) := by decide +kernel
theorem dX3_weighBonds_137 : decode cX3_weighBonds 137 = .ok (.getfield 15, 3) := by decide +kernel
theorem dX3_weighBonds_140 : decode cX3_weighBonds 140 = .ok (.iconst 1, 1) := by decide +kernel
theorem dX3_weighBonds_141 : decode cX3_weighBonds 141 = .ok (.iaload, 1) := by decide +kernel
theorem dX3_weighBonds_142 : decode cX3_weighBonds 142 = .ok (.iadd, 1) := by decide +kernel
theorem dX3_weighBonds_143 : decode cX3_weighBonds 143 = .ok (.iload_n 3, 1) := by decide +kernel
theorem dX3_weighBonds_144 : decode cX3_weighBonds 144 = .ok (.invokevirtual 70, 3) := by decide +kernel
theorem dX3_weighBonds_147 : decode cX3_weighBonds 147 = .ok (.iinc 4 1, 3) := by decide +kernel
theorem dX3_weighBonds_150 : decode cX3_weighBonds 150 = .ok (.goto (-105), 3) := by decide +kernel
theorem dX3_weighBonds_153 : decode cX3_weighBonds 153 = .ok (.return_, 1) := by decide +kernel
theorem dX3_namesBond_0 : decode cX3_namesBond 0 = .ok (.aload_n 0, 1) := by decide +kernel
theorem dX3_namesBond_1 : decode cX3_namesBond 1 = .ok (.getfield 25, 3) := by decide +kernel
theorem dX3_namesBond_4 : decode cX3_namesBond 4 = .ok (.istore_n 1, 1) := by decide +kernel
theorem dX3_namesBond_5 : decode cX3_namesBond 5 = .ok (.iload_n 1, 1) := by decide +kernel
theorem dX3_namesBond_6 : decode cX3_namesBond 6 = .ok (.aload_n 0, 1) := by decide +kernel
theorem dX3_namesBond_7 : decode cX3_namesBond 7 = .ok (.getfield 28, 3) := by decide +kernel
theorem dX3_namesBond_10 : decode cX3_namesBond 10 = .ok (.if_icmp .ge 30, 3) := by decide +kernel
theorem dX3_namesBond_13 : decode cX3_namesBond 13 = .ok (.iload_n 1, 1) := by decide +kernel
theorem dX3_namesBond_14 : decode cX3_namesBond 14 = .ok (.aload_n 0, 1) := by decide +kernel
theorem dX3_namesBond_15 : decode cX3_namesBond 15 = .ok (.getfield 9, 3) := by decide +kernel
theorem dX3_namesBond_18 : decode cX3_namesBond 18 = .ok (.arraylength, 1) := by decide +kernel
theorem dX3_namesBond_19 : decode cX3_namesBond 19 = .ok (.if_icmp .ge 21, 3) := by decide +kernel
theorem dX3_namesBond_22 : decode cX3_namesBond 22 = .ok (.aload_n 0, 1) := by decide +kernel
theorem dX3_namesBond_23 : decode cX3_namesBond 23 = .ok (.getfield 9, 3) := by decide +kernel
theorem dX3_namesBond_26 : decode cX3_namesBond 26 = .ok (.iload_n 1, 1) := by decide +kernel
theorem dX3_namesBond_27 : decode cX3_namesBond 27 = .ok (.iaload, 1) := by decide +kernel
theorem dX3_namesBond_28 : decode cX3_namesBond 28 = .ok (.iconst 5, 1) := by decide +kernel
theorem dX3_namesBond_29 : decode cX3_namesBond 29 = .ok (.if_icmp .ne 5, 3) := by decide +kernel
theorem dX3_namesBond_32 : decode cX3_namesBond 32 = .ok (.iconst 1, 1) := by decide +kernel
theorem dX3_namesBond_33 : decode cX3_namesBond 33 = .ok (.ireturn, 1) := by decide +kernel
theorem dX3_namesBond_34 : decode cX3_namesBond 34 = .ok (.iinc 1 1, 3) := by decide +kernel
theorem dX3_namesBond_37 : decode cX3_namesBond 37 = .ok (.goto (-32), 3) := by decide +kernel
theorem dX3_namesBond_40 : decode cX3_namesBond 40 = .ok (.iconst 0, 1) := by decide +kernel
theorem dX3_namesBond_41 : decode cX3_namesBond 41 = .ok (.ireturn, 1) := by decide +kernel
theorem dX3_value_0 : decode cX3_value 0 = .ok (.aload_n 0, 1) := by decide +kernel
theorem dX3_value_1 : decode cX3_value 1 = .ok (.iconst 0, 1) := by decide +kernel
theorem dX3_value_2 : decode cX3_value 2 = .ok (.putfield 74, 3) := by decide +kernel
theorem dX3_value_5 : decode cX3_value 5 = .ok (.iload_n 1, 1) := by decide +kernel
theorem dX3_value_6 : decode cX3_value 6 = .ok (.istore_n 3, 1) := by decide +kernel
theorem dX3_value_7 : decode cX3_value 7 = .ok (.iload_n 3, 1) := by decide +kernel
theorem dX3_value_8 : decode cX3_value 8 = .ok (.iload_n 2, 1) := by decide +kernel
theorem dX3_value_9 : decode cX3_value 9 = .ok (.if_icmp .ge 28, 3) := by decide +kernel
theorem dX3_value_12 : decode cX3_value 12 = .ok (.iload_n 3, 1) := by decide +kernel
theorem dX3_value_13 : decode cX3_value 13 = .ok (.aload_n 0, 1) := by decide +kernel
theorem dX3_value_14 : decode cX3_value 14 = .ok (.getfield 9, 3) := by decide +kernel
theorem dX3_value_17 : decode cX3_value 17 = .ok (.arraylength, 1) := by decide +kernel
theorem dX3_value_18 : decode cX3_value 18 = .ok (.if_icmp .ge 19, 3) := by decide +kernel
theorem dX3_value_21 : decode cX3_value 21 = .ok (.aload_n 0, 1) := by decide +kernel
theorem dX3_value_22 : decode cX3_value 22 = .ok (.aload_n 0, 1) := by decide +kernel
theorem dX3_value_23 : decode cX3_value 23 = .ok (.getfield 9, 3) := by decide +kernel
theorem dX3_value_26 : decode cX3_value 26 = .ok (.iload_n 3, 1) := by decide +kernel
theorem dX3_value_27 : decode cX3_value 27 = .ok (.iaload, 1) := by decide +kernel
theorem dX3_value_28 : decode cX3_value 28 = .ok (.invokevirtual 77, 3) := by decide +kernel
theorem dX3_value_31 : decode cX3_value 31 = .ok (.iinc 3 1, 3) := by decide +kernel
theorem dX3_value_34 : decode cX3_value 34 = .ok (.goto (-27), 3) := by decide +kernel
theorem dX3_value_37 : decode cX3_value 37 = .ok (.aload_n 0, 1) := by decide +kernel
theorem dX3_value_38 : decode cX3_value 38 = .ok (.invokevirtual 81, 3) := by decide +kernel
theorem dX3_value_41 : decode cX3_value 41 = .ok (.ireturn, 1) := by decide +kernel
theorem dX3_step_0 : decode cX3_step 0 = .ok (.iload_n 1, 1) := by decide +kernel
theorem dX3_step_1 : decode cX3_step 1 = .ok (.bipush 100, 2) := by decide +kernel
theorem dX3_step_3 : decode cX3_step 3 = .ok (.if_icmp .lt 14, 3) := by decide +kernel
theorem dX3_step_6 : decode cX3_step 6 = .ok (.aload_n 0, 1) := by decide +kernel
theorem dX3_step_7 : decode cX3_step 7 = .ok (.iload_n 1, 1) := by decide +kernel
theorem dX3_step_8 : decode cX3_step 8 = .ok (.bipush 100, 2) := by decide +kernel
theorem dX3_step_10 : decode cX3_step 10 = .ok (.isub, 1) := by decide +kernel
theorem dX3_step_11 : decode cX3_step 11 = .ok (.invokevirtual 85, 3) := by decide +kernel
theorem dX3_step_14 : decode cX3_step 14 = .ok (.goto 112, 3) := by decide +kernel
theorem dX3_step_17 : decode cX3_step 17 = .ok (.iload_n 1, 1) := by decide +kernel
theorem dX3_step_18 : decode cX3_step 18 = .ok (.ifCond .lt 25, 3) := by decide +kernel
theorem dX3_step_21 : decode cX3_step 21 = .ok (.iload_n 1, 1) := by decide +kernel
theorem dX3_step_22 : decode cX3_step 22 = .ok (.aload_n 0, 1) := by decide +kernel
theorem dX3_step_23 : decode cX3_step 23 = .ok (.getfield 15, 3) := by decide +kernel
theorem dX3_step_26 : decode cX3_step 26 = .ok (.arraylength, 1) := by decide +kernel
theorem dX3_step_27 : decode cX3_step 27 = .ok (.if_icmp .ge 16, 3) := by decide +kernel
theorem dX3_step_30 : decode cX3_step 30 = .ok (.aload_n 0, 1) := by decide +kernel
theorem dX3_step_31 : decode cX3_step 31 = .ok (.aload_n 0, 1) := by decide +kernel
theorem dX3_step_32 : decode cX3_step 32 = .ok (.getfield 15, 3) := by decide +kernel
theorem dX3_step_35 : decode cX3_step 35 = .ok (.iload_n 1, 1) := by decide +kernel
theorem dX3_step_36 : decode cX3_step 36 = .ok (.iaload, 1) := by decide +kernel
theorem dX3_step_37 : decode cX3_step 37 = .ok (.invokevirtual 85, 3) := by decide +kernel
theorem dX3_step_40 : decode cX3_step 40 = .ok (.goto 86, 3) := by decide +kernel
theorem dX3_step_43 : decode cX3_step 43 = .ok (.iload_n 1, 1) := by decide +kernel
theorem dX3_step_44 : decode cX3_step 44 = .ok (.bipush 14, 2) := by decide +kernel
theorem dX3_step_46 : decode cX3_step 46 = .ok (.if_icmp .ne 22, 3) := by decide +kernel
theorem dX3_step_49 : decode cX3_step 49 = .ok (.aload_n 0, 1) := by decide +kernel
theorem dX3_step_50 : decode cX3_step 50 = .ok (.aload_n 0, 1) := by decide +kernel
theorem dX3_step_51 : decode cX3_step 51 = .ok (.invokevirtual 81, 3) := by decide +kernel
theorem dX3_step_54 : decode cX3_step 54 = .ok (.ifCond .ne 7, 3) := by decide +kernel
theorem dX3_step_57 : decode cX3_step 57 = .ok (.iconst 1, 1) := by decide +kernel
theorem dX3_step_58 : decode cX3_step 58 = .ok (.goto 4, 3) := by decide +kernel
theorem dX3_step_61 : decode cX3_step 61 = .ok (.iconst 0, 1) := by decide +kernel
theorem dX3_step_62 : decode cX3_step 62 = .ok (.invokevirtual 85, 3) := by decide +kernel
theorem dX3_step_65 : decode cX3_step 65 = .ok (.goto 61, 3) := by decide +kernel
theorem dX3_step_68 : decode cX3_step 68 = .ok (.iload_n 1, 1) := by decide +kernel
theorem dX3_step_69 : decode cX3_step 69 = .ok (.bipush 15, 2) := by decide +kernel
theorem dX3_step_71 : decode cX3_step 71 = .ok (.if_icmp .ne 32, 3) := by decide +kernel
theorem dX3_step_74 : decode cX3_step 74 = .ok (.aload_n 0, 1) := by decide +kernel
theorem dX3_step_75 : decode cX3_step 75 = .ok (.invokevirtual 81, 3) := by decide +kernel
theorem dX3_step_78 : decode cX3_step 78 = .ok (.istore_n 2, 1) := by decide +kernel
theorem dX3_step_79 : decode cX3_step 79 = .ok (.aload_n 0, 1) := by decide +kernel
theorem dX3_step_80 : decode cX3_step 80 = .ok (.invokevirtual 81, 3) := by decide +kernel
theorem dX3_step_83 : decode cX3_step 83 = .ok (.istore_n 3, 1) := by decide +kernel
theorem dX3_step_84 : decode cX3_step 84 = .ok (.aload_n 0, 1) := by decide +kernel
theorem dX3_step_85 : decode cX3_step 85 = .ok (.aload_n 0, 1) := by decide +kernel
theorem dX3_step_86 : decode cX3_step 86 = .ok (.invokevirtual 81, 3) := by decide +kernel
theorem dX3_step_89 : decode cX3_step 89 = .ok (.ifCond .eq 7, 3) := by decide +kernel
theorem dX3_step_92 : decode cX3_step 92 = .ok (.iload_n 3, 1) := by decide +kernel
theorem dX3_step_93 : decode cX3_step 93 = .ok (.goto 4, 3) := by decide +kernel
theorem dX3_step_96 : decode cX3_step 96 = .ok (.iload_n 2, 1) := by decide +kernel
theorem dX3_step_97 : decode cX3_step 97 = .ok (.invokevirtual 85, 3) := by decide +kernel
theorem dX3_step_100 : decode cX3_step 100 = .ok (.goto 26, 3) := by decide +kernel
theorem dX3_step_103 : decode cX3_step 103 = .ok (.aload_n 0, 1) := by decide +kernel
theorem dX3_step_104 : decode cX3_step 104 = .ok (.invokevirtual 81, 3) := by decide +kernel
theorem dX3_step_107 : decode cX3_step 107 = .ok (.istore_n 2, 1) := by decide +kernel
theorem dX3_step_108 : decode cX3_step 108 = .ok (.aload_n 0, 1) := by decide +kernel
theorem dX3_step_109 : decode cX3_step 109 = .ok (.iload_n 1, 1) := by decide +kernel
theorem dX3_step_110 : decode cX3_step 110 = .ok (.aload_n 0, 1) := by decide +kernel
theorem dX3_step_111 : decode cX3_step 111 = .ok (.invokevirtual 81, 3) := by decide +kernel
theorem dX3_step_114 : decode cX3_step 114 = .ok (.i2l, 1) := by decide +kernel
theorem dX3_step_115 : decode cX3_step 115 = .ok (.iload_n 2, 1) := by decide +kernel
theorem dX3_step_116 : decode cX3_step 116 = .ok (.i2l, 1) := by decide +kernel
theorem dX3_step_117 : decode cX3_step 117 = .ok (.invokestatic 88, 3) := by decide +kernel
theorem dX3_step_120 : decode cX3_step 120 = .ok (.invokestatic 92, 3) := by decide +kernel
theorem dX3_step_123 : decode cX3_step 123 = .ok (.invokevirtual 85, 3) := by decide +kernel
theorem dX3_step_126 : decode cX3_step 126 = .ok (.return_, 1) := by decide +kernel
theorem dX3_joined_0 : decode cX3_joined 0 = .ok (.iload_n 0, 1) := by decide +kernel
theorem dX3_joined_1 : decode cX3_joined 1 = .ok (.tableswitch 95 6 12 #[43, 47, 51, 55, 67, 79, 91], 43) := by decide +kernel
theorem dX3_joined_44 : decode cX3_joined 44 = .ok (.lload_n 1, 1) := by decide +kernel
theorem dX3_joined_45 : decode cX3_joined 45 = .ok (.lload_n 3, 1) := by decide +kernel
theorem dX3_joined_46 : decode cX3_joined 46 = .ok (.ladd, 1) := by decide +kernel
theorem dX3_joined_47 : decode cX3_joined 47 = .ok (.lreturn, 1) := by decide +kernel
theorem dX3_joined_48 : decode cX3_joined 48 = .ok (.lload_n 1, 1) := by decide +kernel
theorem dX3_joined_49 : decode cX3_joined 49 = .ok (.lload_n 3, 1) := by decide +kernel
theorem dX3_joined_50 : decode cX3_joined 50 = .ok (.lsub, 1) := by decide +kernel
theorem dX3_joined_51 : decode cX3_joined 51 = .ok (.lreturn, 1) := by decide +kernel
theorem dX3_joined_52 : decode cX3_joined 52 = .ok (.lload_n 1, 1) := by decide +kernel
theorem dX3_joined_53 : decode cX3_joined 53 = .ok (.lload_n 3, 1) := by decide +kernel
theorem dX3_joined_54 : decode cX3_joined 54 = .ok (.lmul, 1) := by decide +kernel
theorem dX3_joined_55 : decode cX3_joined 55 = .ok (.lreturn, 1) := by decide +kernel
theorem dX3_joined_56 : decode cX3_joined 56 = .ok (.lload_n 1, 1) := by decide +kernel
theorem dX3_joined_57 : decode cX3_joined 57 = .ok (.lload_n 3, 1) := by decide +kernel
theorem dX3_joined_58 : decode cX3_joined 58 = .ok (.lcmp, 1) := by decide +kernel
theorem dX3_joined_59 : decode cX3_joined 59 = .ok (.ifCond .ne 7, 3) := by decide +kernel
theorem dX3_joined_62 : decode cX3_joined 62 = .ok (.lconst 1, 1) := by decide +kernel
theorem dX3_joined_63 : decode cX3_joined 63 = .ok (.goto 4, 3) := by decide +kernel
theorem dX3_joined_66 : decode cX3_joined 66 = .ok (.lconst 0, 1) := by decide +kernel
theorem dX3_joined_67 : decode cX3_joined 67 = .ok (.lreturn, 1) := by decide +kernel
theorem dX3_joined_68 : decode cX3_joined 68 = .ok (.lload_n 1, 1) := by decide +kernel
theorem dX3_joined_69 : decode cX3_joined 69 = .ok (.lload_n 3, 1) := by decide +kernel
theorem dX3_joined_70 : decode cX3_joined 70 = .ok (.lcmp, 1) := by decide +kernel
theorem dX3_joined_71 : decode cX3_joined 71 = .ok (.ifCond .ge 7, 3) := by decide +kernel
theorem dX3_joined_74 : decode cX3_joined 74 = .ok (.lconst 1, 1) := by decide +kernel
theorem dX3_joined_75 : decode cX3_joined 75 = .ok (.goto 4, 3) := by decide +kernel
theorem dX3_joined_78 : decode cX3_joined 78 = .ok (.lconst 0, 1) := by decide +kernel
theorem dX3_joined_79 : decode cX3_joined 79 = .ok (.lreturn, 1) := by decide +kernel
theorem dX3_joined_80 : decode cX3_joined 80 = .ok (.lload_n 1, 1) := by decide +kernel
theorem dX3_joined_81 : decode cX3_joined 81 = .ok (.lload_n 3, 1) := by decide +kernel
theorem dX3_joined_82 : decode cX3_joined 82 = .ok (.lcmp, 1) := by decide +kernel
theorem dX3_joined_83 : decode cX3_joined 83 = .ok (.ifCond .le 7, 3) := by decide +kernel
theorem dX3_joined_86 : decode cX3_joined 86 = .ok (.lconst 1, 1) := by decide +kernel
theorem dX3_joined_87 : decode cX3_joined 87 = .ok (.goto 4, 3) := by decide +kernel
theorem dX3_joined_90 : decode cX3_joined 90 = .ok (.lconst 0, 1) := by decide +kernel
theorem dX3_joined_91 : decode cX3_joined 91 = .ok (.lreturn, 1) := by decide +kernel
theorem dX3_joined_92 : decode cX3_joined 92 = .ok (.lload_n 1, 1) := by decide +kernel
theorem dX3_joined_93 : decode cX3_joined 93 = .ok (.lload_n 3, 1) := by decide +kernel
theorem dX3_joined_94 : decode cX3_joined 94 = .ok (.land, 1) := by decide +kernel
theorem dX3_joined_95 : decode cX3_joined 95 = .ok (.lreturn, 1) := by decide +kernel
theorem dX3_joined_96 : decode cX3_joined 96 = .ok (.lload_n 1, 1) := by decide +kernel
theorem dX3_joined_97 : decode cX3_joined 97 = .ok (.lload_n 3, 1) := by decide +kernel
theorem dX3_joined_98 : decode cX3_joined 98 = .ok (.lor, 1) := by decide +kernel
theorem dX3_joined_99 : decode cX3_joined 99 = .ok (.lreturn, 1) := by decide +kernel
theorem dX3_kept_0 : decode cX3_kept 0 = .ok (.ldc2_w 96, 3) := by decide +kernel
theorem dX3_kept_3 : decode cX3_kept 3 = .ok (.ldc2_w 98, 3) := by decide +kernel
theorem dX3_kept_6 : decode cX3_kept 6 = .ok (.lload_n 0, 1) := by decide +kernel
theorem dX3_kept_7 : decode cX3_kept 7 = .ok (.invokestatic 100, 3) := by decide +kernel
theorem dX3_kept_10 : decode cX3_kept 10 = .ok (.invokestatic 103, 3) := by decide +kernel
theorem dX3_kept_13 : decode cX3_kept 13 = .ok (.l2i, 1) := by decide +kernel
theorem dX3_kept_14 : decode cX3_kept 14 = .ok (.ireturn, 1) := by decide +kernel
theorem dX3_push_0 : decode cX3_push 0 = .ok (.aload_n 0, 1) := by decide +kernel
theorem dX3_push_1 : decode cX3_push 1 = .ok (.getfield 74, 3) := by decide +kernel
theorem dX3_push_4 : decode cX3_push 4 = .ok (.aload_n 0, 1) := by decide +kernel
theorem dX3_push_5 : decode cX3_push 5 = .ok (.getfield 18, 3) := by decide +kernel
theorem dX3_push_8 : decode cX3_push 8 = .ok (.arraylength, 1) := by decide +kernel
theorem dX3_push_9 : decode cX3_push 9 = .ok (.if_icmp .ge 23, 3) := by decide +kernel
theorem dX3_push_12 : decode cX3_push 12 = .ok (.aload_n 0, 1) := by decide +kernel
theorem dX3_push_13 : decode cX3_push 13 = .ok (.getfield 18, 3) := by decide +kernel
theorem dX3_push_16 : decode cX3_push 16 = .ok (.aload_n 0, 1) := by decide +kernel
theorem dX3_push_17 : decode cX3_push 17 = .ok (.getfield 74, 3) := by decide +kernel
theorem dX3_push_20 : decode cX3_push 20 = .ok (.iload_n 1, 1) := by decide +kernel
theorem dX3_push_21 : decode cX3_push 21 = .ok (.iastore, 1) := by decide +kernel
theorem dX3_push_22 : decode cX3_push 22 = .ok (.aload_n 0, 1) := by decide +kernel
theorem dX3_push_23 : decode cX3_push 23 = .ok (.dup, 1) := by decide +kernel
theorem dX3_push_24 : decode cX3_push 24 = .ok (.getfield 74, 3) := by decide +kernel
theorem dX3_push_27 : decode cX3_push 27 = .ok (.iconst 1, 1) := by decide +kernel
theorem dX3_push_28 : decode cX3_push 28 = .ok (.iadd, 1) := by decide +kernel
theorem dX3_push_29 : decode cX3_push 29 = .ok (.putfield 74, 3) := by decide +kernel
theorem dX3_push_32 : decode cX3_push 32 = .ok (.return_, 1) := by decide +kernel
theorem dX3_pop_0 : decode cX3_pop 0 = .ok (.aload_n 0, 1) := by decide +kernel
theorem dX3_pop_1 : decode cX3_pop 1 = .ok (.getfield 74, 3) := by decide +kernel
theorem dX3_pop_4 : decode cX3_pop 4 = .ok (.ifCond .gt 5, 3) := by decide +kernel
theorem dX3_pop_7 : decode cX3_pop 7 = .ok (.iconst 0, 1) := by decide +kernel
theorem dX3_pop_8 : decode cX3_pop 8 = .ok (.ireturn, 1) := by decide +kernel
theorem dX3_pop_9 : decode cX3_pop 9 = .ok (.aload_n 0, 1) := by decide +kernel
theorem dX3_pop_10 : decode cX3_pop 10 = .ok (.dup, 1) := by decide +kernel
theorem dX3_pop_11 : decode cX3_pop 11 = .ok (.getfield 74, 3) := by decide +kernel
theorem dX3_pop_14 : decode cX3_pop 14 = .ok (.iconst 1, 1) := by decide +kernel
theorem dX3_pop_15 : decode cX3_pop 15 = .ok (.isub, 1) := by decide +kernel
theorem dX3_pop_16 : decode cX3_pop 16 = .ok (.putfield 74, 3) := by decide +kernel
theorem dX3_pop_19 : decode cX3_pop 19 = .ok (.aload_n 0, 1) := by decide +kernel
theorem dX3_pop_20 : decode cX3_pop 20 = .ok (.getfield 18, 3) := by decide +kernel
theorem dX3_pop_23 : decode cX3_pop 23 = .ok (.aload_n 0, 1) := by decide +kernel
theorem dX3_pop_24 : decode cX3_pop 24 = .ok (.getfield 74, 3) := by decide +kernel
theorem dX3_pop_27 : decode cX3_pop 27 = .ok (.iaload, 1) := by decide +kernel
theorem dX3_pop_28 : decode cX3_pop 28 = .ok (.ireturn, 1) := by decide +kernel
theorem dX4_init_0 : decode cX4_init 0 = .ok (.aload_n 0, 1) := by decide +kernel
theorem dX4_init_1 : decode cX4_init 1 = .ok (.invokespecial 3, 3) := by decide +kernel
theorem dX4_init_4 : decode cX4_init 4 = .ok (.aload_n 0, 1) := by decide +kernel
theorem dX4_init_5 : decode cX4_init 5 = .ok (.bipush 10, 2) := by decide +kernel
theorem dX4_init_7 : decode cX4_init 7 = .ok (.newarray .int, 2) := by decide +kernel
theorem dX4_init_9 : decode cX4_init 9 = .ok (.putfield 9, 3) := by decide +kernel
theorem dX4_init_12 : decode cX4_init 12 = .ok (.aload_n 0, 1) := by decide +kernel
theorem dX4_init_13 : decode cX4_init 13 = .ok (.bipush 10, 2) := by decide +kernel
theorem dX4_init_15 : decode cX4_init 15 = .ok (.newarray .int, 2) := by decide +kernel
theorem dX4_init_17 : decode cX4_init 17 = .ok (.putfield 15, 3) := by decide +kernel
theorem dX4_init_20 : decode cX4_init 20 = .ok (.return_, 1) := by decide +kernel
theorem dX4_clear_0 : decode cX4_clear 0 = .ok (.aload_n 0, 1) := by decide +kernel
theorem dX4_clear_1 : decode cX4_clear 1 = .ok (.iconst 0, 1) := by decide +kernel
theorem dX4_clear_2 : decode cX4_clear 2 = .ok (.putfield 18, 3) := by decide +kernel
theorem dX4_clear_5 : decode cX4_clear 5 = .ok (.return_, 1) := by decide +kernel
theorem dX4_keep_0 : decode cX4_keep 0 = .ok (.aload_n 0, 1) := by decide +kernel
theorem dX4_keep_1 : decode cX4_keep 1 = .ok (.getfield 18, 3) := by decide +kernel
theorem dX4_keep_4 : decode cX4_keep 4 = .ok (.bipush 10, 2) := by decide +kernel
theorem dX4_keep_6 : decode cX4_keep 6 = .ok (.if_icmp .lt 39, 3) := by decide +kernel
theorem dX4_keep_9 : decode cX4_keep 9 = .ok (.aload_n 0, 1) := by decide +kernel
theorem dX4_keep_10 : decode cX4_keep 10 = .ok (.getfield 9, 3) := by decide +kernel
theorem dX4_keep_13 : decode cX4_keep 13 = .ok (.iconst 1, 1) := by decide +kernel
theorem dX4_keep_14 : decode cX4_keep 14 = .ok (.aload_n 0, 1) := by decide +kernel
theorem dX4_keep_15 : decode cX4_keep 15 = .ok (.getfield 9, 3) := by decide +kernel
theorem dX4_keep_18 : decode cX4_keep 18 = .ok (.iconst 0, 1) := by decide +kernel
theorem dX4_keep_19 : decode cX4_keep 19 = .ok (.bipush 9, 2) := by decide +kernel
theorem dX4_keep_21 : decode cX4_keep 21 = .ok (.invokestatic 22, 3) := by decide +kernel
theorem dX4_keep_24 : decode cX4_keep 24 = .ok (.aload_n 0, 1) := by decide +kernel
theorem dX4_keep_25 : decode cX4_keep 25 = .ok (.getfield 15, 3) := by decide +kernel
theorem dX4_keep_28 : decode cX4_keep 28 = .ok (.iconst 1, 1) := by decide +kernel
theorem dX4_keep_29 : decode cX4_keep 29 = .ok (.aload_n 0, 1) := by decide +kernel
theorem dX4_keep_30 : decode cX4_keep 30 = .ok (.getfield 15, 3) := by decide +kernel
theorem dX4_keep_33 : decode cX4_keep 33 = .ok (.iconst 0, 1) := by decide +kernel
theorem dX4_keep_34 : decode cX4_keep 34 = .ok (.bipush 9, 2) := by decide +kernel
theorem dX4_keep_36 : decode cX4_keep 36 = .ok (.invokestatic 22, 3) := by decide +kernel
theorem dX4_keep_39 : decode cX4_keep 39 = .ok (.aload_n 0, 1) := by decide +kernel
theorem dX4_keep_40 : decode cX4_keep 40 = .ok (.bipush 9, 2) := by decide +kernel
theorem dX4_keep_42 : decode cX4_keep 42 = .ok (.putfield 18, 3) := by decide +kernel
theorem dX4_keep_45 : decode cX4_keep 45 = .ok (.aload_n 0, 1) := by decide +kernel
theorem dX4_keep_46 : decode cX4_keep 46 = .ok (.getfield 9, 3) := by decide +kernel
theorem dX4_keep_49 : decode cX4_keep 49 = .ok (.aload_n 0, 1) := by decide +kernel
theorem dX4_keep_50 : decode cX4_keep 50 = .ok (.getfield 18, 3) := by decide +kernel
theorem dX4_keep_53 : decode cX4_keep 53 = .ok (.aload_n 1, 1) := by decide +kernel
theorem dX4_keep_54 : decode cX4_keep 54 = .ok (.getfield 28, 3) := by decide +kernel
theorem dX4_keep_57 : decode cX4_keep 57 = .ok (.iastore, 1) := by decide +kernel
theorem dX4_keep_58 : decode cX4_keep 58 = .ok (.aload_n 0, 1) := by decide +kernel
theorem dX4_keep_59 : decode cX4_keep 59 = .ok (.getfield 15, 3) := by decide +kernel
theorem dX4_keep_62 : decode cX4_keep 62 = .ok (.aload_n 0, 1) := by decide +kernel
theorem dX4_keep_63 : decode cX4_keep 63 = .ok (.getfield 18, 3) := by decide +kernel
theorem dX4_keep_66 : decode cX4_keep 66 = .ok (.aload_n 1, 1) := by decide +kernel
theorem dX4_keep_67 : decode cX4_keep 67 = .ok (.getfield 32, 3) := by decide +kernel
theorem dX4_keep_70 : decode cX4_keep 70 = .ok (.iastore, 1) := by decide +kernel
theorem dX4_keep_71 : decode cX4_keep 71 = .ok (.aload_n 0, 1) := by decide +kernel
theorem dX4_keep_72 : decode cX4_keep 72 = .ok (.dup, 1) := by decide +kernel
theorem dX4_keep_73 : decode cX4_keep 73 = .ok (.getfield 18, 3) := by decide +kernel
theorem dX4_keep_76 : decode cX4_keep 76 = .ok (.iconst 1, 1) := by decide +kernel
theorem dX4_keep_77 : decode cX4_keep 77 = .ok (.iadd, 1) := by decide +kernel
theorem dX4_keep_78 : decode cX4_keep 78 = .ok (.putfield 18, 3) := by decide +kernel
theorem dX4_keep_81 : decode cX4_keep 81 = .ok (.return_, 1) := by decide +kernel
theorem dX4_bringBack_0 : decode cX4_bringBack 0 = .ok (.iload_n 1, 1) := by decide +kernel
theorem dX4_bringBack_1 : decode cX4_bringBack 1 = .ok (.iconst 1, 1) := by decide +kernel
theorem dX4_bringBack_2 : decode cX4_bringBack 2 = .ok (.if_icmp .lt 47, 3) := by decide +kernel
theorem dX4_bringBack_5 : decode cX4_bringBack 5 = .ok (.iload_n 1, 1) := by decide +kernel
theorem dX4_bringBack_6 : decode cX4_bringBack 6 = .ok (.aload_n 0, 1) := by decide +kernel
theorem dX4_bringBack_7 : decode cX4_bringBack 7 = .ok (.getfield 18, 3) := by decide +kernel
theorem dX4_bringBack_10 : decode cX4_bringBack 10 = .ok (.if_icmp .gt 39, 3) := by decide +kernel
theorem dX4_bringBack_13 : decode cX4_bringBack 13 = .ok (.aload_n 0, 1) := by decide +kernel
theorem dX4_bringBack_14 : decode cX4_bringBack 14 = .ok (.dup, 1) := by decide +kernel
theorem dX4_bringBack_15 : decode cX4_bringBack 15 = .ok (.getfield 18, 3) := by decide +kernel
theorem dX4_bringBack_18 : decode cX4_bringBack 18 = .ok (.iload_n 1, 1) := by decide +kernel
theorem dX4_bringBack_19 : decode cX4_bringBack 19 = .ok (.isub, 1) := by decide +kernel
theorem dX4_bringBack_20 : decode cX4_bringBack 20 = .ok (.putfield 18, 3) := by decide +kernel
theorem dX4_bringBack_23 : decode cX4_bringBack 23 = .ok (.aload_n 2, 1) := by decide +kernel
theorem dX4_bringBack_24 : decode cX4_bringBack 24 = .ok (.aload_n 0, 1) := by decide +kernel
theorem dX4_bringBack_25 : decode cX4_bringBack 25 = .ok (.getfield 9, 3) := by decide +kernel
theorem dX4_bringBack_28 : decode cX4_bringBack 28 = .ok (.aload_n 0, 1) := by decide +kernel
theorem dX4_bringBack_29 : decode cX4_bringBack 29 = .ok (.getfield 18, 3) := by decide +kernel
theorem dX4_bringBack_32 : decode cX4_bringBack 32 = .ok (.iaload, 1) := by decide +kernel
theorem dX4_bringBack_33 : decode cX4_bringBack 33 = .ok (.putfield 28, 3) := by decide +kernel
theorem dX4_bringBack_36 : decode cX4_bringBack 36 = .ok (.aload_n 2, 1) := by decide +kernel
theorem dX4_bringBack_37 : decode cX4_bringBack 37 = .ok (.aload_n 0, 1) := by decide +kernel
theorem dX4_bringBack_38 : decode cX4_bringBack 38 = .ok (.getfield 15, 3) := by decide +kernel
theorem dX4_bringBack_41 : decode cX4_bringBack 41 = .ok (.aload_n 0, 1) := by decide +kernel
theorem dX4_bringBack_42 : decode cX4_bringBack 42 = .ok (.getfield 18, 3) := by decide +kernel
theorem dX4_bringBack_45 : decode cX4_bringBack 45 = .ok (.iaload, 1) := by decide +kernel
theorem dX4_bringBack_46 : decode cX4_bringBack 46 = .ok (.putfield 32, 3) := by decide +kernel
theorem dX4_bringBack_49 : decode cX4_bringBack 49 = .ok (.return_, 1) := by decide +kernel
theorem dX5_init_0 : decode cX5_init 0 = .ok (.aload_n 0, 1) := by decide +kernel
theorem dX5_init_1 : decode cX5_init 1 = .ok (.invokespecial 3, 3) := by decide +kernel
theorem dX5_init_4 : decode cX5_init 4 = .ok (.aload_n 0, 1) := by decide +kernel
theorem dX5_init_5 : decode cX5_init 5 = .ok (.iconst (-1), 1) := by decide +kernel
theorem dX5_init_6 : decode cX5_init 6 = .ok (.putfield 9, 3) := by decide +kernel
theorem dX5_init_9 : decode cX5_init 9 = .ok (.aload_n 0, 1) := by decide +kernel
theorem dX5_init_10 : decode cX5_init 10 = .ok (.iconst 0, 1) := by decide +kernel
theorem dX5_init_11 : decode cX5_init 11 = .ok (.newarray .byte, 2) := by decide +kernel
theorem dX5_init_13 : decode cX5_init 13 = .ok (.putfield 15, 3) := by decide +kernel
theorem dX5_init_16 : decode cX5_init 16 = .ok (.aload_n 0, 1) := by decide +kernel
theorem dX5_init_17 : decode cX5_init 17 = .ok (.new 19, 3) := by decide +kernel
theorem dX5_init_20 : decode cX5_init 20 = .ok (.dup, 1) := by decide +kernel
theorem dX5_init_21 : decode cX5_init 21 = .ok (.invokespecial 21, 3) := by decide +kernel
theorem dX5_init_24 : decode cX5_init 24 = .ok (.putfield 22, 3) := by decide +kernel
theorem dX5_init_27 : decode cX5_init 27 = .ok (.aload_n 0, 1) := by decide +kernel
theorem dX5_init_28 : decode cX5_init 28 = .ok (.aload_n 1, 1) := by decide +kernel
theorem dX5_init_29 : decode cX5_init 29 = .ok (.putfield 26, 3) := by decide +kernel
theorem dX5_init_32 : decode cX5_init 32 = .ok (.return_, 1) := by decide +kernel
theorem dX5_reads_0 : decode cX5_reads 0 = .ok (.aload_n 0, 1) := by decide +kernel
theorem dX5_reads_1 : decode cX5_reads 1 = .ok (.aload_n 1, 1) := by decide +kernel
theorem dX5_reads_2 : decode cX5_reads 2 = .ok (.putfield 15, 3) := by decide +kernel
theorem dX5_reads_5 : decode cX5_reads 5 = .ok (.aload_n 0, 1) := by decide +kernel
theorem dX5_reads_6 : decode cX5_reads 6 = .ok (.iload_n 2, 1) := by decide +kernel
theorem dX5_reads_7 : decode cX5_reads 7 = .ok (.aload_n 1, 1) := by decide +kernel
theorem dX5_reads_8 : decode cX5_reads 8 = .ok (.arraylength, 1) := by decide +kernel
theorem dX5_reads_9 : decode cX5_reads 9 = .ok (.invokestatic 30, 3) := by decide +kernel
theorem dX5_reads_12 : decode cX5_reads 12 = .ok (.putfield 36, 3) := by decide +kernel
theorem dX5_reads_15 : decode cX5_reads 15 = .ok (.aload_n 0, 1) := by decide +kernel
theorem dX5_reads_16 : decode cX5_reads 16 = .ok (.iconst 0, 1) := by decide +kernel
theorem dX5_reads_17 : decode cX5_reads 17 = .ok (.putfield 39, 3) := by decide +kernel
theorem dX5_reads_20 : decode cX5_reads 20 = .ok (.aload_n 0, 1) := by decide +kernel
theorem dX5_reads_21 : decode cX5_reads 21 = .ok (.iconst (-1), 1) := by decide +kernel
theorem dX5_reads_22 : decode cX5_reads 22 = .ok (.putfield 9, 3) := by decide +kernel
theorem dX5_reads_25 : decode cX5_reads 25 = .ok (.aload_n 0, 1) := by decide +kernel
theorem dX5_reads_26 : decode cX5_reads 26 = .ok (.iconst 0, 1) := by decide +kernel
theorem dX5_reads_27 : decode cX5_reads 27 = .ok (.putfield 42, 3) := by decide +kernel
theorem dX5_reads_30 : decode cX5_reads 30 = .ok (.aload_n 0, 1) := by decide +kernel
theorem dX5_reads_31 : decode cX5_reads 31 = .ok (.aload_n 3, 1) := by decide +kernel
theorem dX5_reads_32 : decode cX5_reads 32 = .ok (.putfield 26, 3) := by decide +kernel
theorem dX5_reads_35 : decode cX5_reads 35 = .ok (.aload_n 0, 1) := by decide +kernel
theorem dX5_reads_36 : decode cX5_reads 36 = .ok (.getfield 26, 3) := by decide +kernel
theorem dX5_reads_39 : decode cX5_reads 39 = .ok (.invokevirtual 45, 3) := by decide +kernel
theorem dX5_reads_42 : decode cX5_reads 42 = .ok (.aload_n 0, 1) := by decide +kernel
theorem dX5_reads_43 : decode cX5_reads 43 = .ok (.getfield 22, 3) := by decide +kernel
theorem dX5_reads_46 : decode cX5_reads 46 = .ok (.invokevirtual 50, 3) := by decide +kernel
theorem dX5_reads_49 : decode cX5_reads 49 = .ok (.aload_n 0, 1) := by decide +kernel
theorem dX5_reads_50 : decode cX5_reads 50 = .ok (.invokevirtual 51, 3) := by decide +kernel
theorem dX5_reads_53 : decode cX5_reads 53 = .ok (.aload_n 0, 1) := by decide +kernel
theorem dX5_reads_54 : decode cX5_reads 54 = .ok (.sipush 200, 3) := by decide +kernel
theorem dX5_reads_57 : decode cX5_reads 57 = .ok (.invokevirtual 54, 3) := by decide +kernel
theorem dX5_reads_60 : decode cX5_reads 60 = .ok (.aload_n 0, 1) := by decide +kernel
theorem dX5_reads_61 : decode cX5_reads 61 = .ok (.bipush 59, 2) := by decide +kernel
theorem dX5_reads_63 : decode cX5_reads 63 = .ok (.invokevirtual 54, 3) := by decide +kernel
theorem dX5_reads_66 : decode cX5_reads 66 = .ok (.aload_n 0, 1) := by decide +kernel
theorem dX5_reads_67 : decode cX5_reads 67 = .ok (.getfield 26, 3) := by decide +kernel
theorem dX5_reads_70 : decode cX5_reads 70 = .ok (.iconst 1, 1) := by decide +kernel
theorem dX5_reads_71 : decode cX5_reads 71 = .ok (.putfield 58, 3) := by decide +kernel
theorem dX5_reads_74 : decode cX5_reads 74 = .ok (.iconst 0, 1) := by decide +kernel
theorem dX5_reads_75 : decode cX5_reads 75 = .ok (.istore 4, 2) := by decide +kernel
theorem dX5_reads_77 : decode cX5_reads 77 = .ok (.iload 4, 2) := by decide +kernel
theorem dX5_reads_79 : decode cX5_reads 79 = .ok (.aload_n 0, 1) := by decide +kernel
theorem dX5_reads_80 : decode cX5_reads 80 = .ok (.getfield 36, 3) := by decide +kernel
theorem dX5_reads_83 : decode cX5_reads 83 = .ok (.if_icmp .ge 27, 3) := by decide +kernel
theorem dX5_reads_86 : decode cX5_reads 86 = .ok (.aload_n 0, 1) := by decide +kernel
theorem dX5_reads_87 : decode cX5_reads 87 = .ok (.getfield 39, 3) := by decide +kernel
theorem dX5_reads_90 : decode cX5_reads 90 = .ok (.ifCond .ne 20, 3) := by decide +kernel
theorem dX5_reads_93 : decode cX5_reads 93 = .ok (.aload_n 0, 1) := by decide +kernel
theorem dX5_reads_94 : decode cX5_reads 94 = .ok (.getfield 61, 3) := by decide +kernel
theorem dX5_reads_97 : decode cX5_reads 97 = .ok (.ifCond .eq 13, 3) := by decide +kernel
theorem dX5_reads_100 : decode cX5_reads 100 = .ok (.aload_n 0, 1) := by decide +kernel
theorem dX5_reads_101 : decode cX5_reads 101 = .ok (.invokevirtual 64, 3) := by decide +kernel
theorem dX5_reads_104 : decode cX5_reads 104 = .ok (.iinc 4 1, 3) := by decide +kernel
theorem dX5_reads_107 : decode cX5_reads 107 = .ok (.goto (-30), 3) := by decide +kernel
theorem dX5_reads_110 : decode cX5_reads 110 = .ok (.aload_n 0, 1) := by decide +kernel
theorem dX5_reads_111 : decode cX5_reads 111 = .ok (.getfield 39, 3) := by decide +kernel
theorem dX5_reads_114 : decode cX5_reads 114 = .ok (.ifCond .ne 21, 3) := by decide +kernel
theorem dX5_reads_117 : decode cX5_reads 117 = .ok (.aload_n 0, 1) := by decide +kernel
theorem dX5_reads_118 : decode cX5_reads 118 = .ok (.getfield 26, 3) := by decide +kernel
theorem dX5_reads_121 : decode cX5_reads 121 = .ok (.invokevirtual 67, 3) := by decide +kernel
theorem dX5_reads_124 : decode cX5_reads 124 = .ok (.aload_n 0, 1) := by decide +kernel
theorem dX5_reads_125 : decode cX5_reads 125 = .ok (.getfield 22, 3) := by decide +kernel
theorem dX5_reads_128 : decode cX5_reads 128 = .ok (.aload_n 0, 1) := by decide +kernel
theorem dX5_reads_129 : decode cX5_reads 129 = .ok (.getfield 26, 3) := by decide +kernel
theorem dX5_reads_132 : decode cX5_reads 132 = .ok (.invokevirtual 70, 3) := by decide +kernel
theorem dX5_reads_135 : decode cX5_reads 135 = .ok (.aload_n 0, 1) := by decide +kernel
theorem dX5_reads_136 : decode cX5_reads 136 = .ok (.getfield 39, 3) := by decide +kernel
theorem dX5_reads_139 : decode cX5_reads 139 = .ok (.ifCond .ne 7, 3) := by decide +kernel
theorem dX5_reads_142 : decode cX5_reads 142 = .ok (.iconst 1, 1) := by decide +kernel
theorem dX5_reads_143 : decode cX5_reads 143 = .ok (.goto 4, 3) := by decide +kernel
theorem dX5_reads_146 : decode cX5_reads 146 = .ok (.iconst 0, 1) := by decide +kernel
theorem dX5_reads_147 : decode cX5_reads 147 = .ok (.ireturn, 1) := by decide +kernel
theorem dX5_fail_0 : decode cX5_fail 0 = .ok (.aload_n 0, 1) := by decide +kernel
theorem dX5_fail_1 : decode cX5_fail 1 = .ok (.getfield 39, 3) := by decide +kernel
theorem dX5_fail_4 : decode cX5_fail 4 = .ok (.ifCond .ne 16, 3) := by decide +kernel
theorem dX5_fail_7 : decode cX5_fail 7 = .ok (.aload_n 0, 1) := by decide +kernel
theorem dX5_fail_8 : decode cX5_fail 8 = .ok (.iload_n 1, 1) := by decide +kernel
theorem dX5_fail_9 : decode cX5_fail 9 = .ok (.putfield 39, 3) := by decide +kernel
theorem dX5_fail_12 : decode cX5_fail 12 = .ok (.aload_n 0, 1) := by decide +kernel
theorem dX5_fail_13 : decode cX5_fail 13 = .ok (.aload_n 0, 1) := by decide +kernel
theorem dX5_fail_14 : decode cX5_fail 14 = .ok (.getfield 74, 3) := by decide +kernel
theorem dX5_fail_17 : decode cX5_fail 17 = .ok (.putfield 9, 3) := by decide +kernel
theorem dX5_fail_20 : decode cX5_fail 20 = .ok (.aload_n 0, 1) := by decide +kernel
theorem dX5_fail_21 : decode cX5_fail 21 = .ok (.iconst 1, 1) := by decide +kernel
theorem dX5_fail_22 : decode cX5_fail 22 = .ok (.putfield 61, 3) := by decide +kernel
theorem dX5_fail_25 : decode cX5_fail 25 = .ok (.return_, 1) := by decide +kernel
theorem dX5_take_0 : decode cX5_take 0 = .ok (.aload_n 0, 1) := by decide +kernel
theorem dX5_take_1 : decode cX5_take 1 = .ok (.getfield 61, 3) := by decide +kernel
theorem dX5_take_4 : decode cX5_take 4 = .ok (.iload_n 1, 1) := by decide +kernel
theorem dX5_take_5 : decode cX5_take 5 = .ok (.if_icmp .ne 10, 3) := by decide +kernel
theorem dX5_take_8 : decode cX5_take 8 = .ok (.aload_n 0, 1) := by decide +kernel
theorem dX5_take_9 : decode cX5_take 9 = .ok (.invokevirtual 51, 3) := by decide +kernel
theorem dX5_take_12 : decode cX5_take 12 = .ok (.goto 8, 3) := by decide +kernel
theorem dX5_take_15 : decode cX5_take 15 = .ok (.aload_n 0, 1) := by decide +kernel
theorem dX5_take_16 : decode cX5_take 16 = .ok (.iconst 2, 1) := by decide +kernel
theorem dX5_take_17 : decode cX5_take 17 = .ok (.invokevirtual 77, 3) := by decide +kernel
theorem dX5_take_20 : decode cX5_take 20 = .ok (.return_, 1) := by decide +kernel
theorem dX5_takeNumber_0 : decode cX5_takeNumber 0 = .ok (.aload_n 0, 1) := by decide +kernel
theorem dX5_takeNumber_1 : decode cX5_takeNumber 1 = .ok (.getfield 61, 3) := by decide +kernel
theorem dX5_takeNumber_4 : decode cX5_takeNumber 4 = .ok (.iconst 2, 1) := by decide +kernel
theorem dX5_takeNumber_5 : decode cX5_takeNumber 5 = .ok (.if_icmp .eq 10, 3) := by decide +kernel
theorem dX5_takeNumber_8 : decode cX5_takeNumber 8 = .ok (.aload_n 0, 1) := by decide +kernel
theorem dX5_takeNumber_9 : decode cX5_takeNumber 9 = .ok (.iconst 2, 1) := by decide +kernel
theorem dX5_takeNumber_10 : decode cX5_takeNumber 10 = .ok (.invokevirtual 77, 3) := by decide +kernel
theorem dX5_takeNumber_13 : decode cX5_takeNumber 13 = .ok (.iconst 0, 1) := by decide +kernel
theorem dX5_takeNumber_14 : decode cX5_takeNumber 14 = .ok (.ireturn, 1) := by decide +kernel
theorem dX5_takeNumber_15 : decode cX5_takeNumber 15 = .ok (.aload_n 0, 1) := by decide +kernel
theorem dX5_takeNumber_16 : decode cX5_takeNumber 16 = .ok (.getfield 80, 3) := by decide +kernel
theorem dX5_takeNumber_19 : decode cX5_takeNumber 19 = .ok (.iload_n 1, 1) := by decide +kernel
theorem dX5_takeNumber_20 : decode cX5_takeNumber 20 = .ok (.if_icmp .lt 11, 3) := by decide +kernel
theorem dX5_takeNumber_23 : decode cX5_takeNumber 23 = .ok (.aload_n 0, 1) := by decide +kernel
theorem dX5_takeNumber_24 : decode cX5_takeNumber 24 = .ok (.getfield 80, 3) := by decide +kernel
theorem dX5_takeNumber_27 : decode cX5_takeNumber 27 = .ok (.iload_n 2, 1) := by decide +kernel
theorem dX5_takeNumber_28 : decode cX5_takeNumber 28 = .ok (.if_icmp .le 10, 3) := by decide +kernel
theorem dX5_takeNumber_31 : decode cX5_takeNumber 31 = .ok (.aload_n 0, 1) := by decide +kernel
theorem dX5_takeNumber_32 : decode cX5_takeNumber 32 = .ok (.iconst 3, 1) := by decide +kernel
theorem dX5_takeNumber_33 : decode cX5_takeNumber 33 = .ok (.invokevirtual 77, 3) := by decide +kernel
theorem dX5_takeNumber_36 : decode cX5_takeNumber 36 = .ok (.iconst 0, 1) := by decide +kernel
theorem dX5_takeNumber_37 : decode cX5_takeNumber 37 = .ok (.ireturn, 1) := by decide +kernel
theorem dX5_takeNumber_38 : decode cX5_takeNumber 38 = .ok (.aload_n 0, 1) := by decide +kernel
theorem dX5_takeNumber_39 : decode cX5_takeNumber 39 = .ok (.getfield 80, 3) := by decide +kernel
theorem dX5_takeNumber_42 : decode cX5_takeNumber 42 = .ok (.istore_n 3, 1) := by decide +kernel
theorem dX5_takeNumber_43 : decode cX5_takeNumber 43 = .ok (.aload_n 0, 1) := by decide +kernel
theorem dX5_takeNumber_44 : decode cX5_takeNumber 44 = .ok (.invokevirtual 51, 3) := by decide +kernel
theorem dX5_takeNumber_47 : decode cX5_takeNumber 47 = .ok (.iload_n 3, 1) := by decide +kernel
theorem dX5_takeNumber_48 : decode cX5_takeNumber 48 = .ok (.ireturn, 1) := by decide +kernel
theorem dX5_advance_0 : decode cX5_advance 0 = .ok (.aload_n 0, 1) := by decide +kernel
theorem dX5_advance_1 : decode cX5_advance 1 = .ok (.getfield 42, 3) := by decide +kernel
theorem dX5_advance_4 : decode cX5_advance 4 = .ok (.istore_n 1, 1) := by decide +kernel
theorem dX5_advance_5 : decode cX5_advance 5 = .ok (.iload_n 1, 1) := by decide +kernel
theorem dX5_advance_6 : decode cX5_advance 6 = .ok (.aload_n 0, 1) := by decide +kernel
theorem dX5_advance_7 : decode cX5_advance 7 = .ok (.getfield 36, 3) := by decide +kernel
theorem dX5_advance_10 : decode cX5_advance 10 = .ok (.if_icmp .ge 31, 3) := by decide +kernel
theorem dX5_advance_13 : decode cX5_advance 13 = .ok (.aload_n 0, 1) := by decide +kernel
theorem dX5_advance_14 : decode cX5_advance 14 = .ok (.getfield 15, 3) := by decide +kernel
theorem dX5_advance_17 : decode cX5_advance 17 = .ok (.iload_n 1, 1) := by decide +kernel
theorem dX5_advance_18 : decode cX5_advance 18 = .ok (.baload, 1) := by decide +kernel
theorem dX5_advance_19 : decode cX5_advance 19 = .ok (.bipush 10, 2) := by decide +kernel
theorem dX5_advance_21 : decode cX5_advance 21 = .ok (.if_icmp .eq 14, 3) := by decide +kernel
theorem dX5_advance_24 : decode cX5_advance 24 = .ok (.aload_n 0, 1) := by decide +kernel
theorem dX5_advance_25 : decode cX5_advance 25 = .ok (.getfield 15, 3) := by decide +kernel
theorem dX5_advance_28 : decode cX5_advance 28 = .ok (.iload_n 1, 1) := by decide +kernel
theorem dX5_advance_29 : decode cX5_advance 29 = .ok (.baload, 1) := by decide +kernel
theorem dX5_advance_30 : decode cX5_advance 30 = .ok (.bipush 32, 2) := by decide +kernel
theorem dX5_advance_32 : decode cX5_advance 32 = .ok (.if_icmp .ne 9, 3) := by decide +kernel
theorem dX5_advance_35 : decode cX5_advance 35 = .ok (.iinc 1 1, 3) := by decide +kernel
theorem dX5_advance_38 : decode cX5_advance 38 = .ok (.goto (-33), 3) := by decide +kernel
theorem dX5_advance_41 : decode cX5_advance 41 = .ok (.aload_n 0, 1) := by decide +kernel
theorem dX5_advance_42 : decode cX5_advance 42 = .ok (.iload_n 1, 1) := by decide +kernel
theorem dX5_advance_43 : decode cX5_advance 43 = .ok (.putfield 74, 3) := by decide +kernel
theorem dX5_advance_46 : decode cX5_advance 46 = .ok (.aload_n 0, 1) := by decide +kernel
theorem dX5_advance_47 : decode cX5_advance 47 = .ok (.iload_n 1, 1) := by decide +kernel
theorem dX5_advance_48 : decode cX5_advance 48 = .ok (.putfield 42, 3) := by decide +kernel
theorem dX5_advance_51 : decode cX5_advance 51 = .ok (.aload_n 0, 1) := by decide +kernel
theorem dX5_advance_52 : decode cX5_advance 52 = .ok (.iconst 0, 1) := by decide +kernel
theorem dX5_advance_53 : decode cX5_advance 53 = .ok (.putfield 61, 3) := by decide +kernel
theorem dX5_advance_56 : decode cX5_advance 56 = .ok (.iload_n 1, 1) := by decide +kernel
theorem dX5_advance_57 : decode cX5_advance 57 = .ok (.aload_n 0, 1) := by decide +kernel
theorem dX5_advance_58 : decode cX5_advance 58 = .ok (.getfield 36, 3) := by decide +kernel
theorem dX5_advance_61 : decode cX5_advance 61 = .ok (.if_icmp .ge 78, 3) := by decide +kernel
theorem dX5_advance_64 : decode cX5_advance 64 = .ok (.aload_n 0, 1) := by decide +kernel
theorem dX5_advance_65 : decode cX5_advance 65 = .ok (.getfield 15, 3) := by decide +kernel
theorem dX5_advance_68 : decode cX5_advance 68 = .ok (.iload_n 1, 1) := by decide +kernel
theorem dX5_advance_69 : decode cX5_advance 69 = .ok (.baload, 1) := by decide +kernel
theorem dX5_advance_70 : decode cX5_advance 70 = .ok (.istore_n 2, 1) := by decide +kernel
theorem dX5_advance_71 : decode cX5_advance 71 = .ok (.iload_n 2, 1) := by decide +kernel
theorem dX5_advance_72 : decode cX5_advance 72 = .ok (.bipush 97, 2) := by decide +kernel
theorem dX5_advance_74 : decode cX5_advance 74 = .ok (.if_icmp .lt 16, 3) := by decide +kernel
theorem dX5_advance_77 : decode cX5_advance 77 = .ok (.iload_n 2, 1) := by decide +kernel
theorem dX5_advance_78 : decode cX5_advance 78 = .ok (.bipush 122, 2) := by decide +kernel
theorem dX5_advance_80 : decode cX5_advance 80 = .ok (.if_icmp .gt 10, 3) := by decide +kernel
theorem dX5_advance_83 : decode cX5_advance 83 = .ok (.aload_n 0, 1) := by decide +kernel
theorem dX5_advance_84 : decode cX5_advance 84 = .ok (.invokevirtual 83, 3) := by decide +kernel
theorem dX5_advance_87 : decode cX5_advance 87 = .ok (.goto 52, 3) := by decide +kernel
theorem dX5_advance_90 : decode cX5_advance 90 = .ok (.iload_n 2, 1) := by decide +kernel
theorem dX5_advance_91 : decode cX5_advance 91 = .ok (.bipush 48, 2) := by decide +kernel
theorem dX5_advance_93 : decode cX5_advance 93 = .ok (.if_icmp .lt 16, 3) := by decide +kernel
theorem dX5_advance_96 : decode cX5_advance 96 = .ok (.iload_n 2, 1) := by decide +kernel
theorem dX5_advance_97 : decode cX5_advance 97 = .ok (.bipush 57, 2) := by decide +kernel
theorem dX5_advance_99 : decode cX5_advance 99 = .ok (.if_icmp .gt 10, 3) := by decide +kernel
theorem dX5_advance_102 : decode cX5_advance 102 = .ok (.aload_n 0, 1) := by decide +kernel
theorem dX5_advance_103 : decode cX5_advance 103 = .ok (.invokevirtual 86, 3) := by decide +kernel
theorem dX5_advance_106 : decode cX5_advance 106 = .ok (.goto 33, 3) := by decide +kernel
theorem dX5_advance_109 : decode cX5_advance 109 = .ok (.aload_n 0, 1) := by decide +kernel
theorem dX5_advance_110 : decode cX5_advance 110 = .ok (.iload_n 1, 1) := by decide +kernel
theorem dX5_advance_111 : decode cX5_advance 111 = .ok (.iconst 1, 1) := by decide +kernel
theorem dX5_advance_112 : decode cX5_advance 112 = .ok (.iadd, 1) := by decide +kernel
theorem dX5_advance_113 : decode cX5_advance 113 = .ok (.putfield 42, 3) := by decide +kernel
theorem dX5_advance_116 : decode cX5_advance 116 = .ok (.aload_n 0, 1) := by decide +kernel
theorem dX5_advance_117 : decode cX5_advance 117 = .ok (.ldc 89, 2) := by decide +kernel
theorem dX5_advance_119 : decode cX5_advance 119 = .ok (.iload_n 2, 1) := by decide +kernel
theorem dX5_advance_120 : decode cX5_advance 120 = .ok (.sipush 255, 3) := by decide +kernel
theorem dX5_advance_123 : decode cX5_advance 123 = .ok (.iand, 1) := by decide +kernel
theorem dX5_advance_124 : decode cX5_advance 124 = .ok (.i2c, 1) := by decide +kernel
theorem dX5_advance_125 : decode cX5_advance 125 = .ok (.invokevirtual 91, 3) := by decide +kernel
theorem dX5_advance_128 : decode cX5_advance 128 = .ok (.ifCond .lt 7, 3) := by decide +kernel
theorem dX5_advance_131 : decode cX5_advance 131 = .ok (.iload_n 2, 1) := by decide +kernel
theorem dX5_advance_132 : decode cX5_advance 132 = .ok (.goto 4, 3) := by decide +kernel
theorem dX5_advance_135 : decode cX5_advance 135 = .ok (.iconst 1, 1) := by decide +kernel
theorem dX5_advance_136 : decode cX5_advance 136 = .ok (.putfield 61, 3) := by decide +kernel
theorem dX5_advance_139 : decode cX5_advance 139 = .ok (.aload_n 0, 1) := by decide +kernel
theorem dX5_advance_140 : decode cX5_advance 140 = .ok (.getfield 61, 3) := by decide +kernel
theorem dX5_advance_143 : decode cX5_advance 143 = .ok (.iconst 1, 1) := by decide +kernel
theorem dX5_advance_144 : decode cX5_advance 144 = .ok (.if_icmp .ne 8, 3) := by decide +kernel
theorem dX5_advance_147 : decode cX5_advance 147 = .ok (.aload_n 0, 1) := by decide +kernel
theorem dX5_advance_148 : decode cX5_advance 148 = .ok (.iconst 1, 1) := by decide +kernel
theorem dX5_advance_149 : decode cX5_advance 149 = .ok (.invokevirtual 77, 3) := by decide +kernel
theorem dX5_advance_152 : decode cX5_advance 152 = .ok (.return_, 1) := by decide +kernel
theorem dX5_readWord_0 : decode cX5_readWord 0 = .ok (.aload_n 0, 1) := by decide +kernel
theorem dX5_readWord_1 : decode cX5_readWord 1 = .ok (.getfield 42, 3) := by decide +kernel
theorem dX5_readWord_4 : decode cX5_readWord 4 = .ok (.aload_n 0, 1) := by decide +kernel
theorem dX5_readWord_5 : decode cX5_readWord 5 = .ok (.getfield 36, 3) := by decide +kernel
theorem dX5_readWord_8 : decode cX5_readWord 8 = .ok (.if_icmp .ge 44, 3) := by decide +kernel
theorem dX5_readWord_11 : decode cX5_readWord 11 = .ok (.aload_n 0, 1) := by decide +kernel
theorem dX5_readWord_12 : decode cX5_readWord 12 = .ok (.getfield 15, 3) := by decide +kernel
theorem dX5_readWord_15 : decode cX5_readWord 15 = .ok (.aload_n 0, 1) := by decide +kernel
theorem dX5_readWord_16 : decode cX5_readWord 16 = .ok (.getfield 42, 3) := by decide +kernel
theorem dX5_readWord_19 : decode cX5_readWord 19 = .ok (.baload, 1) := by decide +kernel
theorem dX5_readWord_20 : decode cX5_readWord 20 = .ok (.bipush 97, 2) := by decide +kernel
theorem dX5_readWord_22 : decode cX5_readWord 22 = .ok (.if_icmp .lt 30, 3) := by decide +kernel
theorem dX5_readWord_25 : decode cX5_readWord 25 = .ok (.aload_n 0, 1) := by decide +kernel
theorem dX5_readWord_26 : decode cX5_readWord 26 = .ok (.getfield 15, 3) := by decide +kernel
theorem dX5_readWord_29 : decode cX5_readWord 29 = .ok (.aload_n 0, 1) := by decide +kernel
theorem dX5_readWord_30 : decode cX5_readWord 30 = .ok (.getfield 42, 3) := by decide +kernel
theorem dX5_readWord_33 : decode cX5_readWord 33 = .ok (.baload, 1) := by decide +kernel
theorem dX5_readWord_34 : decode cX5_readWord 34 = .ok (.bipush 122, 2) := by decide +kernel
theorem dX5_readWord_36 : decode cX5_readWord 36 = .ok (.if_icmp .gt 16, 3) := by decide +kernel
theorem dX5_readWord_39 : decode cX5_readWord 39 = .ok (.aload_n 0, 1) := by decide +kernel
theorem dX5_readWord_40 : decode cX5_readWord 40 = .ok (.dup, 1) := by decide +kernel
theorem dX5_readWord_41 : decode cX5_readWord 41 = .ok (.getfield 42, 3) := by decide +kernel
theorem dX5_readWord_44 : decode cX5_readWord 44 = .ok (.iconst 1, 1) := by decide +kernel
theorem dX5_readWord_45 : decode cX5_readWord 45 = .ok (.iadd, 1) := by decide +kernel
theorem dX5_readWord_46 : decode cX5_readWord 46 = .ok (.putfield 42, 3) := by decide +kernel
theorem dX5_readWord_49 : decode cX5_readWord 49 = .ok (.goto (-49), 3) := by decide +kernel
theorem dX5_readWord_52 : decode cX5_readWord 52 = .ok (.aload_n 0, 1) := by decide +kernel
theorem dX5_readWord_53 : decode cX5_readWord 53 = .ok (.iconst 3, 1) := by decide +kernel
theorem dX5_readWord_54 : decode cX5_readWord 54 = .ok (.putfield 61, 3) := by decide +kernel
theorem dX5_readWord_57 : decode cX5_readWord 57 = .ok (.sipush 200, 3) := by decide +kernel
theorem dX5_readWord_60 : decode cX5_readWord 60 = .ok (.istore_n 1, 1) := by decide +kernel
theorem dX5_readWord_61 : decode cX5_readWord 61 = .ok (.aload_n 0, 1) := by decide +kernel
theorem dX5_readWord_62 : decode cX5_readWord 62 = .ok (.getfield 74, 3) := by decide +kernel
theorem dX5_readWord_65 : decode cX5_readWord 65 = .ok (.istore_n 2, 1) := by decide +kernel
theorem dX5_readWord_66 : decode cX5_readWord 66 = .ok (.iconst 1, 1) := by decide +kernel
theorem dX5_readWord_67 : decode cX5_readWord 67 = .ok (.istore_n 3, 1) := by decide +kernel
theorem dX5_readWord_68 : decode cX5_readWord 68 = .ok (.iconst 0, 1) := by decide +kernel
theorem dX5_readWord_69 : decode cX5_readWord 69 = .ok (.istore 4, 2) := by decide +kernel
theorem dX5_readWord_71 : decode cX5_readWord 71 = .ok (.iload 4, 2) := by decide +kernel
theorem dX5_readWord_73 : decode cX5_readWord 73 = .ok (.ldc 97, 2) := by decide +kernel
theorem dX5_readWord_75 : decode cX5_readWord 75 = .ok (.invokevirtual 99, 3) := by decide +kernel
theorem dX5_readWord_78 : decode cX5_readWord 78 = .ok (.if_icmp .ge 98, 3) := by decide +kernel
theorem dX5_readWord_81 : decode cX5_readWord 81 = .ok (.aload_n 0, 1) := by decide +kernel
theorem dX5_readWord_82 : decode cX5_readWord 82 = .ok (.getfield 61, 3) := by decide +kernel
theorem dX5_readWord_85 : decode cX5_readWord 85 = .ok (.iconst 3, 1) := by decide +kernel
theorem dX5_readWord_86 : decode cX5_readWord 86 = .ok (.if_icmp .ne 90, 3) := by decide +kernel
theorem dX5_readWord_89 : decode cX5_readWord 89 = .ok (.ldc 97, 2) := by decide +kernel
theorem dX5_readWord_91 : decode cX5_readWord 91 = .ok (.iload 4, 2) := by decide +kernel
theorem dX5_readWord_93 : decode cX5_readWord 93 = .ok (.invokevirtual 102, 3) := by decide +kernel
theorem dX5_readWord_96 : decode cX5_readWord 96 = .ok (.istore 5, 2) := by decide +kernel
theorem dX5_readWord_98 : decode cX5_readWord 98 = .ok (.iload 5, 2) := by decide +kernel
theorem dX5_readWord_100 : decode cX5_readWord 100 = .ok (.bipush 32, 2) := by decide +kernel
theorem dX5_readWord_102 : decode cX5_readWord 102 = .ok (.if_icmp .eq 38, 3) := by decide +kernel
theorem dX5_readWord_105 : decode cX5_readWord 105 = .ok (.iload_n 3, 1) := by decide +kernel
theorem dX5_readWord_106 : decode cX5_readWord 106 = .ok (.ifCond .eq 26, 3) := by decide +kernel
theorem dX5_readWord_109 : decode cX5_readWord 109 = .ok (.iload_n 2, 1) := by decide +kernel
theorem dX5_readWord_110 : decode cX5_readWord 110 = .ok (.aload_n 0, 1) := by decide +kernel
theorem dX5_readWord_111 : decode cX5_readWord 111 = .ok (.getfield 42, 3) := by decide +kernel
theorem dX5_readWord_114 : decode cX5_readWord 114 = .ok (.if_icmp .ge 18, 3) := by decide +kernel
theorem dX5_readWord_117 : decode cX5_readWord 117 = .ok (.aload_n 0, 1) := by decide +kernel
theorem dX5_readWord_118 : decode cX5_readWord 118 = .ok (.getfield 15, 3) := by decide +kernel
theorem dX5_readWord_121 : decode cX5_readWord 121 = .ok (.iload_n 2, 1) := by decide +kernel
theorem dX5_readWord_122 : decode cX5_readWord 122 = .ok (.baload, 1) := by decide +kernel
theorem dX5_readWord_123 : decode cX5_readWord 123 = .ok (.iload 5, 2) := by decide +kernel
theorem dX5_readWord_125 : decode cX5_readWord 125 = .ok (.if_icmp .ne 7, 3) := by decide +kernel
theorem dX5_readWord_128 : decode cX5_readWord 128 = .ok (.iconst 1, 1) := by decide +kernel
theorem dX5_readWord_129 : decode cX5_readWord 129 = .ok (.goto 4, 3) := by decide +kernel
theorem dX5_readWord_132 : decode cX5_readWord 132 = .ok (.iconst 0, 1) := by decide +kernel
theorem dX5_readWord_133 : decode cX5_readWord 133 = .ok (.istore_n 3, 1) := by decide +kernel
theorem dX5_readWord_134 : decode cX5_readWord 134 = .ok (.iinc 2 1, 3) := by decide +kernel
theorem dX5_readWord_137 : decode cX5_readWord 137 = .ok (.goto 33, 3) := by decide +kernel
theorem dX5_readWord_140 : decode cX5_readWord 140 = .ok (.iload_n 3, 1) := by decide +kernel
theorem dX5_readWord_141 : decode cX5_readWord 141 = .ok (.ifCond .eq 19, 3) := by decide +kernel
theorem dX5_readWord_144 : decode cX5_readWord 144 = .ok (.iload_n 2, 1) := by decide +kernel
theorem dX5_readWord_145 : decode cX5_readWord 145 = .ok (.aload_n 0, 1) := by decide +kernel
theorem dX5_readWord_146 : decode cX5_readWord 146 = .ok (.getfield 42, 3) := by decide +kernel
theorem dX5_readWord_149 : decode cX5_readWord 149 = .ok (.if_icmp .ne 11, 3) := by decide +kernel
theorem dX5_readWord_152 : decode cX5_readWord 152 = .ok (.aload_n 0, 1) := by decide +kernel
theorem dX5_readWord_153 : decode cX5_readWord 153 = .ok (.iload_n 1, 1) := by decide +kernel
theorem dX5_readWord_154 : decode cX5_readWord 154 = .ok (.putfield 61, 3) := by decide +kernel
theorem dX5_readWord_157 : decode cX5_readWord 157 = .ok (.goto 13, 3) := by decide +kernel
theorem dX5_readWord_160 : decode cX5_readWord 160 = .ok (.iinc 1 1, 3) := by decide +kernel
theorem dX5_readWord_163 : decode cX5_readWord 163 = .ok (.aload_n 0, 1) := by decide +kernel
theorem dX5_readWord_164 : decode cX5_readWord 164 = .ok (.getfield 74, 3) := by decide +kernel
theorem dX5_readWord_167 : decode cX5_readWord 167 = .ok (.istore_n 2, 1) := by decide +kernel
theorem dX5_readWord_168 : decode cX5_readWord 168 = .ok (.iconst 1, 1) := by decide +kernel
theorem dX5_readWord_169 : decode cX5_readWord 169 = .ok (.istore_n 3, 1) := by decide +kernel
theorem dX5_readWord_170 : decode cX5_readWord 170 = .ok (.iinc 4 1, 3) := by decide +kernel
theorem dX5_readWord_173 : decode cX5_readWord 173 = .ok (.goto (-102), 3) := by decide +kernel
theorem dX5_readWord_176 : decode cX5_readWord 176 = .ok (.return_, 1) := by decide +kernel
theorem dX5_readDigits_0 : decode cX5_readDigits 0 = .ok (.aload_n 0, 1) := by decide +kernel
theorem dX5_readDigits_1 : decode cX5_readDigits 1 = .ok (.iconst 0, 1) := by decide +kernel
theorem dX5_readDigits_2 : decode cX5_readDigits 2 = .ok (.putfield 80, 3) := by decide +kernel
theorem dX5_readDigits_5 : decode cX5_readDigits 5 = .ok (.aload_n 0, 1) := by decide +kernel
theorem dX5_readDigits_6 : decode cX5_readDigits 6 = .ok (.getfield 42, 3) := by decide +kernel
theorem dX5_readDigits_9 : decode cX5_readDigits 9 = .ok (.aload_n 0, 1) := by decide +kernel
theorem dX5_readDigits_10 : decode cX5_readDigits 10 = .ok (.getfield 36, 3) := by decide +kernel
theorem dX5_readDigits_13 : decode cX5_readDigits 13 = .ok (.if_icmp .ge 68, 3) := by decide +kernel
theorem dX5_readDigits_16 : decode cX5_readDigits 16 = .ok (.aload_n 0, 1) := by decide +kernel
theorem dX5_readDigits_17 : decode cX5_readDigits 17 = .ok (.getfield 15, 3) := by decide +kernel
theorem dX5_readDigits_20 : decode cX5_readDigits 20 = .ok (.aload_n 0, 1) := by decide +kernel
theorem dX5_readDigits_21 : decode cX5_readDigits 21 = .ok (.getfield 42, 3) := by decide +kernel
theorem dX5_readDigits_24 : decode cX5_readDigits 24 = .ok (.baload, 1) := by decide +kernel
theorem dX5_readDigits_25 : decode cX5_readDigits 25 = .ok (.bipush 48, 2) := by decide +kernel
theorem dX5_readDigits_27 : decode cX5_readDigits 27 = .ok (.if_icmp .lt 54, 3) := by decide +kernel
theorem dX5_readDigits_30 : decode cX5_readDigits 30 = .ok (.aload_n 0, 1) := by decide +kernel
theorem dX5_readDigits_31 : decode cX5_readDigits 31 = .ok (.getfield 15, 3) := by decide +kernel
theorem dX5_readDigits_34 : decode cX5_readDigits 34 = .ok (.aload_n 0, 1) := by decide +kernel
theorem dX5_readDigits_35 : decode cX5_readDigits 35 = .ok (.getfield 42, 3) := by decide +kernel
theorem dX5_readDigits_38 : decode cX5_readDigits 38 = .ok (.baload, 1) := by decide +kernel
theorem dX5_readDigits_39 : decode cX5_readDigits 39 = .ok (.bipush 57, 2) := by decide +kernel
theorem dX5_readDigits_41 : decode cX5_readDigits 41 = .ok (.if_icmp .gt 40, 3) := by decide +kernel
theorem dX5_readDigits_44 : decode cX5_readDigits 44 = .ok (.aload_n 0, 1) := by decide +kernel
theorem dX5_readDigits_45 : decode cX5_readDigits 45 = .ok (.bipush 10, 2) := by decide +kernel
theorem dX5_readDigits_47 : decode cX5_readDigits 47 = .ok (.aload_n 0, 1) := by decide +kernel
theorem dX5_readDigits_48 : decode cX5_readDigits 48 = .ok (.getfield 80, 3) := by decide +kernel
theorem dX5_readDigits_51 : decode cX5_readDigits 51 = .ok (.imul, 1) := by decide +kernel
theorem dX5_readDigits_52 : decode cX5_readDigits 52 = .ok (.aload_n 0, 1) := by decide +kernel
theorem dX5_readDigits_53 : decode cX5_readDigits 53 = .ok (.getfield 15, 3) := by decide +kernel
theorem dX5_readDigits_56 : decode cX5_readDigits 56 = .ok (.aload_n 0, 1) := by decide +kernel
theorem dX5_readDigits_57 : decode cX5_readDigits 57 = .ok (.getfield 42, 3) := by decide +kernel
theorem dX5_readDigits_60 : decode cX5_readDigits 60 = .ok (.baload, 1) := by decide +kernel
theorem dX5_readDigits_61 : decode cX5_readDigits 61 = .ok (.iadd, 1) := by decide +kernel
theorem dX5_readDigits_62 : decode cX5_readDigits 62 = .ok (.bipush 48, 2) := by decide +kernel
theorem dX5_readDigits_64 : decode cX5_readDigits 64 = .ok (.isub, 1) := by decide +kernel
theorem dX5_readDigits_65 : decode cX5_readDigits 65 = .ok (.putfield 80, 3) := by decide +kernel
theorem dX5_readDigits_68 : decode cX5_readDigits 68 = .ok (.aload_n 0, 1) := by decide +kernel
theorem dX5_readDigits_69 : decode cX5_readDigits 69 = .ok (.dup, 1) := by decide +kernel
theorem dX5_readDigits_70 : decode cX5_readDigits 70 = .ok (.getfield 42, 3) := by decide +kernel
theorem dX5_readDigits_73 : decode cX5_readDigits 73 = .ok (.iconst 1, 1) := by decide +kernel
theorem dX5_readDigits_74 : decode cX5_readDigits 74 = .ok (.iadd, 1) := by decide +kernel
theorem dX5_readDigits_75 : decode cX5_readDigits 75 = .ok (.putfield 42, 3) := by decide +kernel
theorem dX5_readDigits_78 : decode cX5_readDigits 78 = .ok (.goto (-73), 3) := by decide +kernel
theorem dX5_readDigits_81 : decode cX5_readDigits 81 = .ok (.aload_n 0, 1) := by decide +kernel
theorem dX5_readDigits_82 : decode cX5_readDigits 82 = .ok (.aload_n 0, 1) := by decide +kernel
theorem dX5_readDigits_83 : decode cX5_readDigits 83 = .ok (.getfield 42, 3) := by decide +kernel
theorem dX5_readDigits_86 : decode cX5_readDigits 86 = .ok (.aload_n 0, 1) := by decide +kernel
theorem dX5_readDigits_87 : decode cX5_readDigits 87 = .ok (.getfield 74, 3) := by decide +kernel
theorem dX5_readDigits_90 : decode cX5_readDigits 90 = .ok (.isub, 1) := by decide +kernel
theorem dX5_readDigits_91 : decode cX5_readDigits 91 = .ok (.iconst 3, 1) := by decide +kernel
theorem dX5_readDigits_92 : decode cX5_readDigits 92 = .ok (.if_icmp .le 7, 3) := by decide +kernel
theorem dX5_readDigits_95 : decode cX5_readDigits 95 = .ok (.iconst 1, 1) := by decide +kernel
theorem dX5_readDigits_96 : decode cX5_readDigits 96 = .ok (.goto 4, 3) := by decide +kernel
theorem dX5_readDigits_99 : decode cX5_readDigits 99 = .ok (.iconst 2, 1) := by decide +kernel
theorem dX5_readDigits_100 : decode cX5_readDigits 100 = .ok (.putfield 61, 3) := by decide +kernel
theorem dX5_readDigits_103 : decode cX5_readDigits 103 = .ok (.return_, 1) := by decide +kernel
theorem dX5_line_0 : decode cX5_line 0 = .ok (.aload_n 0, 1) := by decide +kernel
theorem dX5_line_1 : decode cX5_line 1 = .ok (.getfield 61, 3) := by decide +kernel
theorem dX5_line_4 : decode cX5_line 4 = .ok (.tableswitch 89 201 206 #[40, 47, 54, 75, 82, 82], 40) := by decide +kernel
theorem dX5_line_44 : decode cX5_line 44 = .ok (.aload_n 0, 1) := by decide +kernel
theorem dX5_line_45 : decode cX5_line 45 = .ok (.invokevirtual 106, 3) := by decide +kernel
theorem dX5_line_48 : decode cX5_line 48 = .ok (.goto 50, 3) := by decide +kernel
theorem dX5_line_51 : decode cX5_line 51 = .ok (.aload_n 0, 1) := by decide +kernel
theorem dX5_line_52 : decode cX5_line 52 = .ok (.invokevirtual 109, 3) := by decide +kernel
theorem dX5_line_55 : decode cX5_line 55 = .ok (.goto 43, 3) := by decide +kernel
theorem dX5_line_58 : decode cX5_line 58 = .ok (.aload_n 0, 1) := by decide +kernel
theorem dX5_line_59 : decode cX5_line 59 = .ok (.invokevirtual 51, 3) := by decide +kernel
theorem dX5_line_62 : decode cX5_line 62 = .ok (.aload_n 0, 1) := by decide +kernel
theorem dX5_line_63 : decode cX5_line 63 = .ok (.getfield 26, 3) := by decide +kernel
theorem dX5_line_66 : decode cX5_line 66 = .ok (.aload_n 0, 1) := by decide +kernel
theorem dX5_line_67 : decode cX5_line 67 = .ok (.iconst 0, 1) := by decide +kernel
theorem dX5_line_68 : decode cX5_line 68 = .ok (.bipush 9, 2) := by decide +kernel
theorem dX5_line_70 : decode cX5_line 70 = .ok (.invokevirtual 112, 3) := by decide +kernel
theorem dX5_line_73 : decode cX5_line 73 = .ok (.putfield 115, 3) := by decide +kernel
theorem dX5_line_76 : decode cX5_line 76 = .ok (.goto 22, 3) := by decide +kernel
theorem dX5_line_79 : decode cX5_line 79 = .ok (.aload_n 0, 1) := by decide +kernel
theorem dX5_line_80 : decode cX5_line 80 = .ok (.invokevirtual 118, 3) := by decide +kernel
theorem dX5_line_83 : decode cX5_line 83 = .ok (.goto 15, 3) := by decide +kernel
theorem dX5_line_86 : decode cX5_line 86 = .ok (.aload_n 0, 1) := by decide +kernel
theorem dX5_line_87 : decode cX5_line 87 = .ok (.invokevirtual 121, 3) := by decide +kernel
theorem dX5_line_90 : decode cX5_line 90 = .ok (.goto 8, 3) := by decide +kernel
theorem dX5_line_93 : decode cX5_line 93 = .ok (.aload_n 0, 1) := by decide +kernel
theorem dX5_line_94 : decode cX5_line 94 = .ok (.iconst 2, 1) := by decide +kernel
theorem dX5_line_95 : decode cX5_line 95 = .ok (.invokevirtual 77, 3) := by decide +kernel
theorem dX5_line_98 : decode cX5_line 98 = .ok (.aload_n 0, 1) := by decide +kernel
theorem dX5_line_99 : decode cX5_line 99 = .ok (.bipush 59, 2) := by decide +kernel
theorem dX5_line_101 : decode cX5_line 101 = .ok (.invokevirtual 54, 3) := by decide +kernel
theorem dX5_line_104 : decode cX5_line 104 = .ok (.aload_n 0, 1) := by decide +kernel
theorem dX5_line_105 : decode cX5_line 105 = .ok (.getfield 26, 3) := by decide +kernel
theorem dX5_line_108 : decode cX5_line 108 = .ok (.dup, 1) := by decide +kernel
theorem dX5_line_109 : decode cX5_line 109 = .ok (.getfield 58, 3) := by decide +kernel
theorem dX5_line_112 : decode cX5_line 112 = .ok (.iconst 1, 1) := by decide +kernel
theorem dX5_line_113 : decode cX5_line 113 = .ok (.iadd, 1) := by decide +kernel
theorem dX5_line_114 : decode cX5_line 114 = .ok (.putfield 58, 3) := by decide +kernel
theorem dX5_line_117 : decode cX5_line 117 = .ok (.return_, 1) := by decide +kernel
theorem dX5_factLine_0 : decode cX5_factLine 0 = .ok (.aload_n 0, 1) := by decide +kernel
theorem dX5_factLine_1 : decode cX5_factLine 1 = .ok (.getfield 26, 3) := by decide +kernel
theorem dX5_factLine_4 : decode cX5_factLine 4 = .ok (.getfield 124, 3) := by decide +kernel
theorem dX5_factLine_7 : decode cX5_factLine 7 = .ok (.iconst 4, 1) := by decide +kernel
theorem dX5_factLine_8 : decode cX5_factLine 8 = .ok (.if_icmp .lt 9, 3) := by decide +kernel
theorem dX5_factLine_11 : decode cX5_factLine 11 = .ok (.aload_n 0, 1) := by decide +kernel
theorem dX5_factLine_12 : decode cX5_factLine 12 = .ok (.iconst 4, 1) := by decide +kernel
theorem dX5_factLine_13 : decode cX5_factLine 13 = .ok (.invokevirtual 77, 3) := by decide +kernel
theorem dX5_factLine_16 : decode cX5_factLine 16 = .ok (.return_, 1) := by decide +kernel
theorem dX5_factLine_17 : decode cX5_factLine 17 = .ok (.aload_n 0, 1) := by decide +kernel
theorem dX5_factLine_18 : decode cX5_factLine 18 = .ok (.getfield 26, 3) := by decide +kernel
theorem dX5_factLine_21 : decode cX5_factLine 21 = .ok (.getfield 124, 3) := by decide +kernel
theorem dX5_factLine_24 : decode cX5_factLine 24 = .ok (.istore_n 1, 1) := by decide +kernel
theorem dX5_factLine_25 : decode cX5_factLine 25 = .ok (.aload_n 0, 1) := by decide +kernel
theorem dX5_factLine_26 : decode cX5_factLine 26 = .ok (.getfield 26, 3) := by decide +kernel
theorem dX5_factLine_29 : decode cX5_factLine 29 = .ok (.dup, 1) := by decide +kernel
theorem dX5_factLine_30 : decode cX5_factLine 30 = .ok (.getfield 124, 3) := by decide +kernel
theorem dX5_factLine_33 : decode cX5_factLine 33 = .ok (.iconst 1, 1) := by decide +kernel
theorem dX5_factLine_34 : decode cX5_factLine 34 = .ok (.iadd, 1) := by decide +kernel
theorem dX5_factLine_35 : decode cX5_factLine 35 = .ok (.putfield 124, 3) := by decide +kernel
theorem dX5_factLine_38 : decode cX5_factLine 38 = .ok (.aload_n 0, 1) := by decide +kernel
theorem dX5_factLine_39 : decode cX5_factLine 39 = .ok (.invokevirtual 51, 3) := by decide +kernel
theorem dX5_factLine_42 : decode cX5_factLine 42 = .ok (.iconst 0, 1) := by decide +kernel
theorem dX5_factLine_43 : decode cX5_factLine 43 = .ok (.istore_n 2, 1) := by decide +kernel
theorem dX5_factLine_44 : decode cX5_factLine 44 = .ok (.iload_n 2, 1) := by decide +kernel
theorem dX5_factLine_45 : decode cX5_factLine 45 = .ok (.aload_n 0, 1) := by decide +kernel
theorem dX5_factLine_46 : decode cX5_factLine 46 = .ok (.getfield 36, 3) := by decide +kernel
theorem dX5_factLine_49 : decode cX5_factLine 49 = .ok (.if_icmp .ge 38, 3) := by decide +kernel
theorem dX5_factLine_52 : decode cX5_factLine 52 = .ok (.aload_n 0, 1) := by decide +kernel
theorem dX5_factLine_53 : decode cX5_factLine 53 = .ok (.getfield 61, 3) := by decide +kernel
theorem dX5_factLine_56 : decode cX5_factLine 56 = .ok (.sipush 207, 3) := by decide +kernel
theorem dX5_factLine_59 : decode cX5_factLine 59 = .ok (.if_icmp .ne 28, 3) := by decide +kernel
theorem dX5_factLine_62 : decode cX5_factLine 62 = .ok (.aload_n 0, 1) := by decide +kernel
theorem dX5_factLine_63 : decode cX5_factLine 63 = .ok (.invokevirtual 51, 3) := by decide +kernel
theorem dX5_factLine_66 : decode cX5_factLine 66 = .ok (.aload_n 0, 1) := by decide +kernel
theorem dX5_factLine_67 : decode cX5_factLine 67 = .ok (.getfield 26, 3) := by decide +kernel
theorem dX5_factLine_70 : decode cX5_factLine 70 = .ok (.iload_n 1, 1) := by decide +kernel
theorem dX5_factLine_71 : decode cX5_factLine 71 = .ok (.aload_n 0, 1) := by decide +kernel
theorem dX5_factLine_72 : decode cX5_factLine 72 = .ok (.iconst 0, 1) := by decide +kernel
theorem dX5_factLine_73 : decode cX5_factLine 73 = .ok (.bipush 9, 2) := by decide +kernel
theorem dX5_factLine_75 : decode cX5_factLine 75 = .ok (.invokevirtual 112, 3) := by decide +kernel
theorem dX5_factLine_78 : decode cX5_factLine 78 = .ok (.invokevirtual 127, 3) := by decide +kernel
theorem dX5_factLine_81 : decode cX5_factLine 81 = .ok (.iinc 2 1, 3) := by decide +kernel
theorem dX5_factLine_84 : decode cX5_factLine 84 = .ok (.goto (-40), 3) := by decide +kernel
theorem dX5_factLine_87 : decode cX5_factLine 87 = .ok (.return_, 1) := by decide +kernel
theorem dX5_doingLine_0 : decode cX5_doingLine 0 = .ok (.aload_n 0, 1) := by decide +kernel
theorem dX5_doingLine_1 : decode cX5_doingLine 1 = .ok (.getfield 26, 3) := by decide +kernel
theorem dX5_doingLine_4 : decode cX5_doingLine 4 = .ok (.getfield 131, 3) := by decide +kernel
theorem dX5_doingLine_7 : decode cX5_doingLine 7 = .ok (.bipush 6, 2) := by decide +kernel
theorem dX5_doingLine_9 : decode cX5_doingLine 9 = .ok (.if_icmp .lt 9, 3) := by decide +kernel
theorem dX5_doingLine_12 : decode cX5_doingLine 12 = .ok (.aload_n 0, 1) := by decide +kernel
theorem dX5_doingLine_13 : decode cX5_doingLine 13 = .ok (.iconst 4, 1) := by decide +kernel
theorem dX5_doingLine_14 : decode cX5_doingLine 14 = .ok (.invokevirtual 77, 3) := by decide +kernel
theorem dX5_doingLine_17 : decode cX5_doingLine 17 = .ok (.return_, 1) := by decide +kernel
theorem dX5_doingLine_18 : decode cX5_doingLine 18 = .ok (.aload_n 0, 1) := by decide +kernel
theorem dX5_doingLine_19 : decode cX5_doingLine 19 = .ok (.getfield 26, 3) := by decide +kernel
theorem dX5_doingLine_22 : decode cX5_doingLine 22 = .ok (.getfield 131, 3) := by decide +kernel
theorem dX5_doingLine_25 : decode cX5_doingLine 25 = .ok (.istore_n 1, 1) := by decide +kernel
theorem dX5_doingLine_26 : decode cX5_doingLine 26 = .ok (.aload_n 0, 1) := by decide +kernel
theorem dX5_doingLine_27 : decode cX5_doingLine 27 = .ok (.getfield 26, 3) := by decide +kernel
theorem dX5_doingLine_30 : decode cX5_doingLine 30 = .ok (.dup, 1) := by decide +kernel
theorem dX5_doingLine_31 : decode cX5_doingLine 31 = .ok (.getfield 131, 3) := by decide +kernel
theorem dX5_doingLine_34 : decode cX5_doingLine 34 = .ok (.iconst 1, 1) := by decide +kernel
theorem dX5_doingLine_35 : decode cX5_doingLine 35 = .ok (.iadd, 1) := by decide +kernel
theorem dX5_doingLine_36 : decode cX5_doingLine 36 = .ok (.putfield 131, 3) := by decide +kernel
theorem dX5_doingLine_39 : decode cX5_doingLine 39 = .ok (.aload_n 0, 1) := by decide +kernel
theorem dX5_doingLine_40 : decode cX5_doingLine 40 = .ok (.invokevirtual 51, 3) := by decide +kernel
theorem dX5_doingLine_43 : decode cX5_doingLine 43 = .ok (.iconst 0, 1) := by decide +kernel
theorem dX5_doingLine_44 : decode cX5_doingLine 44 = .ok (.istore_n 2, 1) := by decide +kernel
theorem dX5_doingLine_45 : decode cX5_doingLine 45 = .ok (.iload_n 2, 1) := by decide +kernel
theorem dX5_doingLine_46 : decode cX5_doingLine 46 = .ok (.aload_n 0, 1) := by decide +kernel
theorem dX5_doingLine_47 : decode cX5_doingLine 47 = .ok (.getfield 36, 3) := by decide +kernel
theorem dX5_doingLine_50 : decode cX5_doingLine 50 = .ok (.if_icmp .ge 109, 3) := by decide +kernel
theorem dX5_doingLine_53 : decode cX5_doingLine 53 = .ok (.aload_n 0, 1) := by decide +kernel
theorem dX5_doingLine_54 : decode cX5_doingLine 54 = .ok (.getfield 61, 3) := by decide +kernel
theorem dX5_doingLine_57 : decode cX5_doingLine 57 = .ok (.sipush 208, 3) := by decide +kernel
theorem dX5_doingLine_60 : decode cX5_doingLine 60 = .ok (.if_icmp .eq 13, 3) := by decide +kernel
theorem dX5_doingLine_63 : decode cX5_doingLine 63 = .ok (.aload_n 0, 1) := by decide +kernel
theorem dX5_doingLine_64 : decode cX5_doingLine 64 = .ok (.getfield 61, 3) := by decide +kernel
theorem dX5_doingLine_67 : decode cX5_doingLine 67 = .ok (.sipush 210, 3) := by decide +kernel
theorem dX5_doingLine_70 : decode cX5_doingLine 70 = .ok (.if_icmp .ne 89, 3) := by decide +kernel
theorem dX5_doingLine_73 : decode cX5_doingLine 73 = .ok (.aload_n 0, 1) := by decide +kernel
theorem dX5_doingLine_74 : decode cX5_doingLine 74 = .ok (.getfield 61, 3) := by decide +kernel
theorem dX5_doingLine_77 : decode cX5_doingLine 77 = .ok (.sipush 208, 3) := by decide +kernel
theorem dX5_doingLine_80 : decode cX5_doingLine 80 = .ok (.if_icmp .ne 47, 3) := by decide +kernel
theorem dX5_doingLine_83 : decode cX5_doingLine 83 = .ok (.aload_n 0, 1) := by decide +kernel
theorem dX5_doingLine_84 : decode cX5_doingLine 84 = .ok (.invokevirtual 51, 3) := by decide +kernel
theorem dX5_doingLine_87 : decode cX5_doingLine 87 = .ok (.aload_n 0, 1) := by decide +kernel
theorem dX5_doingLine_88 : decode cX5_doingLine 88 = .ok (.iconst 0, 1) := by decide +kernel
theorem dX5_doingLine_89 : decode cX5_doingLine 89 = .ok (.aload_n 0, 1) := by decide +kernel
theorem dX5_doingLine_90 : decode cX5_doingLine 90 = .ok (.getfield 26, 3) := by decide +kernel
theorem dX5_doingLine_93 : decode cX5_doingLine 93 = .ok (.getfield 124, 3) := by decide +kernel
theorem dX5_doingLine_96 : decode cX5_doingLine 96 = .ok (.iconst 1, 1) := by decide +kernel
theorem dX5_doingLine_97 : decode cX5_doingLine 97 = .ok (.isub, 1) := by decide +kernel
theorem dX5_doingLine_98 : decode cX5_doingLine 98 = .ok (.invokevirtual 112, 3) := by decide +kernel
theorem dX5_doingLine_101 : decode cX5_doingLine 101 = .ok (.istore_n 3, 1) := by decide +kernel
theorem dX5_doingLine_102 : decode cX5_doingLine 102 = .ok (.aload_n 0, 1) := by decide +kernel
theorem dX5_doingLine_103 : decode cX5_doingLine 103 = .ok (.sipush 209, 3) := by decide +kernel
theorem dX5_doingLine_106 : decode cX5_doingLine 106 = .ok (.invokevirtual 54, 3) := by decide +kernel
theorem dX5_doingLine_109 : decode cX5_doingLine 109 = .ok (.aload_n 0, 1) := by decide +kernel
theorem dX5_doingLine_110 : decode cX5_doingLine 110 = .ok (.getfield 26, 3) := by decide +kernel
theorem dX5_doingLine_113 : decode cX5_doingLine 113 = .ok (.iload_n 1, 1) := by decide +kernel
theorem dX5_doingLine_114 : decode cX5_doingLine 114 = .ok (.iload_n 3, 1) := by decide +kernel
theorem dX5_doingLine_115 : decode cX5_doingLine 115 = .ok (.aload_n 0, 1) := by decide +kernel
theorem dX5_doingLine_116 : decode cX5_doingLine 116 = .ok (.iconst 1, 1) := by decide +kernel
theorem dX5_doingLine_117 : decode cX5_doingLine 117 = .ok (.iconst 3, 1) := by decide +kernel
theorem dX5_doingLine_118 : decode cX5_doingLine 118 = .ok (.invokevirtual 112, 3) := by decide +kernel
theorem dX5_doingLine_121 : decode cX5_doingLine 121 = .ok (.invokevirtual 134, 3) := by decide +kernel
theorem dX5_doingLine_124 : decode cX5_doingLine 124 = .ok (.goto 29, 3) := by decide +kernel
theorem dX5_doingLine_127 : decode cX5_doingLine 127 = .ok (.aload_n 0, 1) := by decide +kernel
theorem dX5_doingLine_128 : decode cX5_doingLine 128 = .ok (.invokevirtual 51, 3) := by decide +kernel
theorem dX5_doingLine_131 : decode cX5_doingLine 131 = .ok (.aload_n 0, 1) := by decide +kernel
theorem dX5_doingLine_132 : decode cX5_doingLine 132 = .ok (.getfield 26, 3) := by decide +kernel
theorem dX5_doingLine_135 : decode cX5_doingLine 135 = .ok (.iload_n 1, 1) := by decide +kernel
theorem dX5_doingLine_136 : decode cX5_doingLine 136 = .ok (.aload_n 0, 1) := by decide +kernel
theorem dX5_doingLine_137 : decode cX5_doingLine 137 = .ok (.iconst 0, 1) := by decide +kernel
theorem dX5_doingLine_138 : decode cX5_doingLine 138 = .ok (.aload_n 0, 1) := by decide +kernel
theorem dX5_doingLine_139 : decode cX5_doingLine 139 = .ok (.getfield 26, 3) := by decide +kernel
theorem dX5_doingLine_142 : decode cX5_doingLine 142 = .ok (.getfield 124, 3) := by decide +kernel
theorem dX5_doingLine_145 : decode cX5_doingLine 145 = .ok (.iconst 1, 1) := by decide +kernel
theorem dX5_doingLine_146 : decode cX5_doingLine 146 = .ok (.isub, 1) := by decide +kernel
theorem dX5_doingLine_147 : decode cX5_doingLine 147 = .ok (.invokevirtual 112, 3) := by decide +kernel
theorem dX5_doingLine_150 : decode cX5_doingLine 150 = .ok (.invokevirtual 138, 3) := by decide +kernel
theorem dX5_doingLine_153 : decode cX5_doingLine 153 = .ok (.iinc 2 1, 3) := by decide +kernel
theorem dX5_doingLine_156 : decode cX5_doingLine 156 = .ok (.goto (-111), 3) := by decide +kernel
theorem dX5_doingLine_159 : decode cX5_doingLine 159 = .ok (.return_, 1) := by decide +kernel
theorem dX5_knowsLine_0 : decode cX5_knowsLine 0 = .ok (.aload_n 0, 1) := by decide +kernel
theorem dX5_knowsLine_1 : decode cX5_knowsLine 1 = .ok (.invokevirtual 51, 3) := by decide +kernel
theorem dX5_knowsLine_4 : decode cX5_knowsLine 4 = .ok (.aload_n 0, 1) := by decide +kernel
theorem dX5_knowsLine_5 : decode cX5_knowsLine 5 = .ok (.iconst 0, 1) := by decide +kernel
theorem dX5_knowsLine_6 : decode cX5_knowsLine 6 = .ok (.iconst 1, 1) := by decide +kernel
theorem dX5_knowsLine_7 : decode cX5_knowsLine 7 = .ok (.invokevirtual 112, 3) := by decide +kernel
theorem dX5_knowsLine_10 : decode cX5_knowsLine 10 = .ok (.istore_n 1, 1) := by decide +kernel
theorem dX5_knowsLine_11 : decode cX5_knowsLine 11 = .ok (.aload_n 0, 1) := by decide +kernel
theorem dX5_knowsLine_12 : decode cX5_knowsLine 12 = .ok (.iconst 0, 1) := by decide +kernel
theorem dX5_knowsLine_13 : decode cX5_knowsLine 13 = .ok (.aload_n 0, 1) := by decide +kernel
theorem dX5_knowsLine_14 : decode cX5_knowsLine 14 = .ok (.getfield 26, 3) := by decide +kernel
theorem dX5_knowsLine_17 : decode cX5_knowsLine 17 = .ok (.getfield 124, 3) := by decide +kernel
theorem dX5_knowsLine_20 : decode cX5_knowsLine 20 = .ok (.iconst 1, 1) := by decide +kernel
theorem dX5_knowsLine_21 : decode cX5_knowsLine 21 = .ok (.isub, 1) := by decide +kernel
theorem dX5_knowsLine_22 : decode cX5_knowsLine 22 = .ok (.invokevirtual 112, 3) := by decide +kernel
theorem dX5_knowsLine_25 : decode cX5_knowsLine 25 = .ok (.istore_n 2, 1) := by decide +kernel
theorem dX5_knowsLine_26 : decode cX5_knowsLine 26 = .ok (.aload_n 0, 1) := by decide +kernel
theorem dX5_knowsLine_27 : decode cX5_knowsLine 27 = .ok (.iconst 0, 1) := by decide +kernel
theorem dX5_knowsLine_28 : decode cX5_knowsLine 28 = .ok (.iconst 3, 1) := by decide +kernel
theorem dX5_knowsLine_29 : decode cX5_knowsLine 29 = .ok (.invokevirtual 112, 3) := by decide +kernel
theorem dX5_knowsLine_32 : decode cX5_knowsLine 32 = .ok (.istore_n 3, 1) := by decide +kernel
theorem dX5_knowsLine_33 : decode cX5_knowsLine 33 = .ok (.aload_n 0, 1) := by decide +kernel
theorem dX5_knowsLine_34 : decode cX5_knowsLine 34 = .ok (.getfield 39, 3) := by decide +kernel
theorem dX5_knowsLine_37 : decode cX5_knowsLine 37 = .ok (.ifCond .ne 13, 3) := by decide +kernel
theorem dX5_knowsLine_40 : decode cX5_knowsLine 40 = .ok (.aload_n 0, 1) := by decide +kernel
theorem dX5_knowsLine_41 : decode cX5_knowsLine 41 = .ok (.getfield 26, 3) := by decide +kernel
theorem dX5_knowsLine_44 : decode cX5_knowsLine 44 = .ok (.iload_n 1, 1) := by decide +kernel
theorem dX5_knowsLine_45 : decode cX5_knowsLine 45 = .ok (.iload_n 2, 1) := by decide +kernel
theorem dX5_knowsLine_46 : decode cX5_knowsLine 46 = .ok (.iload_n 3, 1) := by decide +kernel
theorem dX5_knowsLine_47 : decode cX5_knowsLine 47 = .ok (.invokevirtual 141, 3) := by decide +kernel
theorem dX5_knowsLine_50 : decode cX5_knowsLine 50 = .ok (.return_, 1) := by decide +kernel
theorem dX5_lawLine_0 : decode cX5_lawLine 0 = .ok (.aload_n 0, 1) := by decide +kernel
theorem dX5_lawLine_1 : decode cX5_lawLine 1 = .ok (.aload_n 0, 1) := by decide +kernel
theorem dX5_lawLine_2 : decode cX5_lawLine 2 = .ok (.getfield 61, 3) := by decide +kernel
theorem dX5_lawLine_5 : decode cX5_lawLine 5 = .ok (.sipush 206, 3) := by decide +kernel
theorem dX5_lawLine_8 : decode cX5_lawLine 8 = .ok (.if_icmp .ne 7, 3) := by decide +kernel
theorem dX5_lawLine_11 : decode cX5_lawLine 11 = .ok (.iconst 1, 1) := by decide +kernel
theorem dX5_lawLine_12 : decode cX5_lawLine 12 = .ok (.goto 4, 3) := by decide +kernel
theorem dX5_lawLine_15 : decode cX5_lawLine 15 = .ok (.iconst 0, 1) := by decide +kernel
theorem dX5_lawLine_16 : decode cX5_lawLine 16 = .ok (.putfield 144, 3) := by decide +kernel
theorem dX5_lawLine_19 : decode cX5_lawLine 19 = .ok (.aload_n 0, 1) := by decide +kernel
theorem dX5_lawLine_20 : decode cX5_lawLine 20 = .ok (.invokevirtual 51, 3) := by decide +kernel
theorem dX5_lawLine_23 : decode cX5_lawLine 23 = .ok (.aload_n 0, 1) := by decide +kernel
theorem dX5_lawLine_24 : decode cX5_lawLine 24 = .ok (.bipush 58, 2) := by decide +kernel
theorem dX5_lawLine_26 : decode cX5_lawLine 26 = .ok (.invokevirtual 54, 3) := by decide +kernel
theorem dX5_lawLine_29 : decode cX5_lawLine 29 = .ok (.aload_n 0, 1) := by decide +kernel
theorem dX5_lawLine_30 : decode cX5_lawLine 30 = .ok (.getfield 22, 3) := by decide +kernel
theorem dX5_lawLine_33 : decode cX5_lawLine 33 = .ok (.getfield 148, 3) := by decide +kernel
theorem dX5_lawLine_36 : decode cX5_lawLine 36 = .ok (.istore_n 1, 1) := by decide +kernel
theorem dX5_lawLine_37 : decode cX5_lawLine 37 = .ok (.aload_n 0, 1) := by decide +kernel
theorem dX5_lawLine_38 : decode cX5_lawLine 38 = .ok (.getfield 144, 3) := by decide +kernel
theorem dX5_lawLine_41 : decode cX5_lawLine 41 = .ok (.ifCond .eq 19, 3) := by decide +kernel
theorem dX5_lawLine_44 : decode cX5_lawLine 44 = .ok (.aload_n 0, 1) := by decide +kernel
theorem dX5_lawLine_45 : decode cX5_lawLine 45 = .ok (.iconst 0, 1) := by decide +kernel
theorem dX5_lawLine_46 : decode cX5_lawLine 46 = .ok (.invokevirtual 151, 3) := by decide +kernel
theorem dX5_lawLine_49 : decode cX5_lawLine 49 = .ok (.aload_n 0, 1) := by decide +kernel
theorem dX5_lawLine_50 : decode cX5_lawLine 50 = .ok (.getfield 22, 3) := by decide +kernel
theorem dX5_lawLine_53 : decode cX5_lawLine 53 = .ok (.iload_n 1, 1) := by decide +kernel
theorem dX5_lawLine_54 : decode cX5_lawLine 54 = .ok (.invokevirtual 154, 3) := by decide +kernel
theorem dX5_lawLine_57 : decode cX5_lawLine 57 = .ok (.goto 16, 3) := by decide +kernel
theorem dX5_lawLine_60 : decode cX5_lawLine 60 = .ok (.aload_n 0, 1) := by decide +kernel
theorem dX5_lawLine_61 : decode cX5_lawLine 61 = .ok (.iconst 0, 1) := by decide +kernel
theorem dX5_lawLine_62 : decode cX5_lawLine 62 = .ok (.invokevirtual 157, 3) := by decide +kernel
theorem dX5_lawLine_65 : decode cX5_lawLine 65 = .ok (.aload_n 0, 1) := by decide +kernel
theorem dX5_lawLine_66 : decode cX5_lawLine 66 = .ok (.getfield 22, 3) := by decide +kernel
theorem dX5_lawLine_69 : decode cX5_lawLine 69 = .ok (.iload_n 1, 1) := by decide +kernel
theorem dX5_lawLine_70 : decode cX5_lawLine 70 = .ok (.invokevirtual 160, 3) := by decide +kernel
theorem dX5_lawLine_73 : decode cX5_lawLine 73 = .ok (.return_, 1) := by decide +kernel
theorem dX5_sum_0 : decode cX5_sum 0 = .ok (.aload_n 0, 1) := by decide +kernel
theorem dX5_sum_1 : decode cX5_sum 1 = .ok (.iload_n 1, 1) := by decide +kernel
theorem dX5_sum_2 : decode cX5_sum 2 = .ok (.invokevirtual 163, 3) := by decide +kernel
theorem dX5_sum_5 : decode cX5_sum 5 = .ok (.iconst 0, 1) := by decide +kernel
theorem dX5_sum_6 : decode cX5_sum 6 = .ok (.istore_n 2, 1) := by decide +kernel
theorem dX5_sum_7 : decode cX5_sum 7 = .ok (.iload_n 2, 1) := by decide +kernel
theorem dX5_sum_8 : decode cX5_sum 8 = .ok (.aload_n 0, 1) := by decide +kernel
theorem dX5_sum_9 : decode cX5_sum 9 = .ok (.getfield 36, 3) := by decide +kernel
theorem dX5_sum_12 : decode cX5_sum 12 = .ok (.if_icmp .ge 61, 3) := by decide +kernel
theorem dX5_sum_15 : decode cX5_sum 15 = .ok (.aload_n 0, 1) := by decide +kernel
theorem dX5_sum_16 : decode cX5_sum 16 = .ok (.getfield 61, 3) := by decide +kernel
theorem dX5_sum_19 : decode cX5_sum 19 = .ok (.bipush 43, 2) := by decide +kernel
theorem dX5_sum_21 : decode cX5_sum 21 = .ok (.if_icmp .eq 12, 3) := by decide +kernel
theorem dX5_sum_24 : decode cX5_sum 24 = .ok (.aload_n 0, 1) := by decide +kernel
theorem dX5_sum_25 : decode cX5_sum 25 = .ok (.getfield 61, 3) := by decide +kernel
theorem dX5_sum_28 : decode cX5_sum 28 = .ok (.bipush 45, 2) := by decide +kernel
theorem dX5_sum_30 : decode cX5_sum 30 = .ok (.if_icmp .ne 43, 3) := by decide +kernel
theorem dX5_sum_33 : decode cX5_sum 33 = .ok (.aload_n 0, 1) := by decide +kernel
theorem dX5_sum_34 : decode cX5_sum 34 = .ok (.getfield 61, 3) := by decide +kernel
theorem dX5_sum_37 : decode cX5_sum 37 = .ok (.bipush 43, 2) := by decide +kernel
theorem dX5_sum_39 : decode cX5_sum 39 = .ok (.if_icmp .ne 8, 3) := by decide +kernel
theorem dX5_sum_42 : decode cX5_sum 42 = .ok (.bipush 6, 2) := by decide +kernel
theorem dX5_sum_44 : decode cX5_sum 44 = .ok (.goto 5, 3) := by decide +kernel
theorem dX5_sum_47 : decode cX5_sum 47 = .ok (.bipush 7, 2) := by decide +kernel
theorem dX5_sum_49 : decode cX5_sum 49 = .ok (.istore_n 3, 1) := by decide +kernel
theorem dX5_sum_50 : decode cX5_sum 50 = .ok (.aload_n 0, 1) := by decide +kernel
theorem dX5_sum_51 : decode cX5_sum 51 = .ok (.invokevirtual 51, 3) := by decide +kernel
theorem dX5_sum_54 : decode cX5_sum 54 = .ok (.aload_n 0, 1) := by decide +kernel
theorem dX5_sum_55 : decode cX5_sum 55 = .ok (.iload_n 1, 1) := by decide +kernel
theorem dX5_sum_56 : decode cX5_sum 56 = .ok (.invokevirtual 163, 3) := by decide +kernel
theorem dX5_sum_59 : decode cX5_sum 59 = .ok (.aload_n 0, 1) := by decide +kernel
theorem dX5_sum_60 : decode cX5_sum 60 = .ok (.getfield 22, 3) := by decide +kernel
theorem dX5_sum_63 : decode cX5_sum 63 = .ok (.iload_n 3, 1) := by decide +kernel
theorem dX5_sum_64 : decode cX5_sum 64 = .ok (.invokevirtual 166, 3) := by decide +kernel
theorem dX5_sum_67 : decode cX5_sum 67 = .ok (.iinc 2 1, 3) := by decide +kernel
theorem dX5_sum_70 : decode cX5_sum 70 = .ok (.goto (-63), 3) := by decide +kernel
theorem dX5_sum_73 : decode cX5_sum 73 = .ok (.return_, 1) := by decide +kernel
theorem dX5_term_0 : decode cX5_term 0 = .ok (.aload_n 0, 1) := by decide +kernel
theorem dX5_term_1 : decode cX5_term 1 = .ok (.iload_n 1, 1) := by decide +kernel
theorem dX5_term_2 : decode cX5_term 2 = .ok (.invokevirtual 169, 3) := by decide +kernel
theorem dX5_term_5 : decode cX5_term 5 = .ok (.iconst 0, 1) := by decide +kernel
theorem dX5_term_6 : decode cX5_term 6 = .ok (.istore_n 2, 1) := by decide +kernel
theorem dX5_term_7 : decode cX5_term 7 = .ok (.iload_n 2, 1) := by decide +kernel
theorem dX5_term_8 : decode cX5_term 8 = .ok (.aload_n 0, 1) := by decide +kernel
theorem dX5_term_9 : decode cX5_term 9 = .ok (.getfield 36, 3) := by decide +kernel
theorem dX5_term_12 : decode cX5_term 12 = .ok (.if_icmp .ge 36, 3) := by decide +kernel
theorem dX5_term_15 : decode cX5_term 15 = .ok (.aload_n 0, 1) := by decide +kernel
theorem dX5_term_16 : decode cX5_term 16 = .ok (.getfield 61, 3) := by decide +kernel
theorem dX5_term_19 : decode cX5_term 19 = .ok (.bipush 42, 2) := by decide +kernel
theorem dX5_term_21 : decode cX5_term 21 = .ok (.if_icmp .ne 27, 3) := by decide +kernel
theorem dX5_term_24 : decode cX5_term 24 = .ok (.aload_n 0, 1) := by decide +kernel
theorem dX5_term_25 : decode cX5_term 25 = .ok (.invokevirtual 51, 3) := by decide +kernel
theorem dX5_term_28 : decode cX5_term 28 = .ok (.aload_n 0, 1) := by decide +kernel
theorem dX5_term_29 : decode cX5_term 29 = .ok (.iload_n 1, 1) := by decide +kernel
theorem dX5_term_30 : decode cX5_term 30 = .ok (.invokevirtual 169, 3) := by decide +kernel
theorem dX5_term_33 : decode cX5_term 33 = .ok (.aload_n 0, 1) := by decide +kernel
theorem dX5_term_34 : decode cX5_term 34 = .ok (.getfield 22, 3) := by decide +kernel
theorem dX5_term_37 : decode cX5_term 37 = .ok (.bipush 8, 2) := by decide +kernel
theorem dX5_term_39 : decode cX5_term 39 = .ok (.invokevirtual 166, 3) := by decide +kernel
theorem dX5_term_42 : decode cX5_term 42 = .ok (.iinc 2 1, 3) := by decide +kernel
theorem dX5_term_45 : decode cX5_term 45 = .ok (.goto (-38), 3) := by decide +kernel
theorem dX5_term_48 : decode cX5_term 48 = .ok (.return_, 1) := by decide +kernel
theorem dX5_atom_0 : decode cX5_atom 0 = .ok (.aload_n 0, 1) := by decide +kernel
theorem dX5_atom_1 : decode cX5_atom 1 = .ok (.getfield 61, 3) := by decide +kernel
theorem dX5_atom_4 : decode cX5_atom 4 = .ok (.bipush 40, 2) := by decide +kernel
theorem dX5_atom_6 : decode cX5_atom 6 = .ok (.if_icmp .ne 27, 3) := by decide +kernel
theorem dX5_atom_9 : decode cX5_atom 9 = .ok (.aload_n 0, 1) := by decide +kernel
theorem dX5_atom_10 : decode cX5_atom 10 = .ok (.iload_n 1, 1) := by decide +kernel
theorem dX5_atom_11 : decode cX5_atom 11 = .ok (.invokevirtual 172, 3) := by decide +kernel
theorem dX5_atom_14 : decode cX5_atom 14 = .ok (.ifCond .eq 76, 3) := by decide +kernel
theorem dX5_atom_17 : decode cX5_atom 17 = .ok (.aload_n 0, 1) := by decide +kernel
theorem dX5_atom_18 : decode cX5_atom 18 = .ok (.iload_n 1, 1) := by decide +kernel
theorem dX5_atom_19 : decode cX5_atom 19 = .ok (.iconst 1, 1) := by decide +kernel
theorem dX5_atom_20 : decode cX5_atom 20 = .ok (.iadd, 1) := by decide +kernel
theorem dX5_atom_21 : decode cX5_atom 21 = .ok (.invokevirtual 157, 3) := by decide +kernel
theorem dX5_atom_24 : decode cX5_atom 24 = .ok (.aload_n 0, 1) := by decide +kernel
theorem dX5_atom_25 : decode cX5_atom 25 = .ok (.bipush 41, 2) := by decide +kernel
theorem dX5_atom_27 : decode cX5_atom 27 = .ok (.invokevirtual 54, 3) := by decide +kernel
theorem dX5_atom_30 : decode cX5_atom 30 = .ok (.goto 60, 3) := by decide +kernel
theorem dX5_atom_33 : decode cX5_atom 33 = .ok (.aload_n 0, 1) := by decide +kernel
theorem dX5_atom_34 : decode cX5_atom 34 = .ok (.getfield 61, 3) := by decide +kernel
theorem dX5_atom_37 : decode cX5_atom 37 = .ok (.sipush 211, 3) := by decide +kernel
theorem dX5_atom_40 : decode cX5_atom 40 = .ok (.if_icmp .ne 21, 3) := by decide +kernel
theorem dX5_atom_43 : decode cX5_atom 43 = .ok (.aload_n 0, 1) := by decide +kernel
theorem dX5_atom_44 : decode cX5_atom 44 = .ok (.iload_n 1, 1) := by decide +kernel
theorem dX5_atom_45 : decode cX5_atom 45 = .ok (.invokevirtual 172, 3) := by decide +kernel
theorem dX5_atom_48 : decode cX5_atom 48 = .ok (.ifCond .eq 42, 3) := by decide +kernel
theorem dX5_atom_51 : decode cX5_atom 51 = .ok (.aload_n 0, 1) := by decide +kernel
theorem dX5_atom_52 : decode cX5_atom 52 = .ok (.iload_n 1, 1) := by decide +kernel
theorem dX5_atom_53 : decode cX5_atom 53 = .ok (.iconst 1, 1) := by decide +kernel
theorem dX5_atom_54 : decode cX5_atom 54 = .ok (.iadd, 1) := by decide +kernel
theorem dX5_atom_55 : decode cX5_atom 55 = .ok (.invokevirtual 176, 3) := by decide +kernel
theorem dX5_atom_58 : decode cX5_atom 58 = .ok (.goto 32, 3) := by decide +kernel
theorem dX5_atom_61 : decode cX5_atom 61 = .ok (.aload_n 0, 1) := by decide +kernel
theorem dX5_atom_62 : decode cX5_atom 62 = .ok (.invokevirtual 179, 3) := by decide +kernel
theorem dX5_atom_65 : decode cX5_atom 65 = .ok (.istore_n 2, 1) := by decide +kernel
theorem dX5_atom_66 : decode cX5_atom 66 = .ok (.iload_n 2, 1) := by decide +kernel
theorem dX5_atom_67 : decode cX5_atom 67 = .ok (.ifCond .ge 11, 3) := by decide +kernel
theorem dX5_atom_70 : decode cX5_atom 70 = .ok (.aload_n 0, 1) := by decide +kernel
theorem dX5_atom_71 : decode cX5_atom 71 = .ok (.iconst 2, 1) := by decide +kernel
theorem dX5_atom_72 : decode cX5_atom 72 = .ok (.invokevirtual 77, 3) := by decide +kernel
theorem dX5_atom_75 : decode cX5_atom 75 = .ok (.goto 15, 3) := by decide +kernel
theorem dX5_atom_78 : decode cX5_atom 78 = .ok (.aload_n 0, 1) := by decide +kernel
theorem dX5_atom_79 : decode cX5_atom 79 = .ok (.getfield 22, 3) := by decide +kernel
theorem dX5_atom_82 : decode cX5_atom 82 = .ok (.iload_n 2, 1) := by decide +kernel
theorem dX5_atom_83 : decode cX5_atom 83 = .ok (.invokevirtual 166, 3) := by decide +kernel
theorem dX5_atom_86 : decode cX5_atom 86 = .ok (.aload_n 0, 1) := by decide +kernel
theorem dX5_atom_87 : decode cX5_atom 87 = .ok (.invokevirtual 51, 3) := by decide +kernel
theorem dX5_atom_90 : decode cX5_atom 90 = .ok (.return_, 1) := by decide +kernel
theorem dX5_stepOfToken_0 : decode cX5_stepOfToken 0 = .ok (.aload_n 0, 1) := by decide +kernel
theorem dX5_stepOfToken_1 : decode cX5_stepOfToken 1 = .ok (.getfield 61, 3) := by decide +kernel
theorem dX5_stepOfToken_4 : decode cX5_stepOfToken 4 = .ok (.lookupswitch 99 #[(2, 68), (201, 78), (203, 86), (207, 80), (215, 76), (216, 82), (217, 84)], 68) := by decide +kernel
theorem dX5_stepOfToken_72 : decode cX5_stepOfToken 72 = .ok (.bipush 100, 2) := by decide +kernel
theorem dX5_stepOfToken_74 : decode cX5_stepOfToken 74 = .ok (.aload_n 0, 1) := by decide +kernel
theorem dX5_stepOfToken_75 : decode cX5_stepOfToken 75 = .ok (.getfield 80, 3) := by decide +kernel
theorem dX5_stepOfToken_78 : decode cX5_stepOfToken 78 = .ok (.iadd, 1) := by decide +kernel
theorem dX5_stepOfToken_79 : decode cX5_stepOfToken 79 = .ok (.ireturn, 1) := by decide +kernel
theorem dX5_stepOfToken_80 : decode cX5_stepOfToken 80 = .ok (.iconst 0, 1) := by decide +kernel
theorem dX5_stepOfToken_81 : decode cX5_stepOfToken 81 = .ok (.ireturn, 1) := by decide +kernel
theorem dX5_stepOfToken_82 : decode cX5_stepOfToken 82 = .ok (.iconst 1, 1) := by decide +kernel
theorem dX5_stepOfToken_83 : decode cX5_stepOfToken 83 = .ok (.ireturn, 1) := by decide +kernel
theorem dX5_stepOfToken_84 : decode cX5_stepOfToken 84 = .ok (.iconst 2, 1) := by decide +kernel
theorem dX5_stepOfToken_85 : decode cX5_stepOfToken 85 = .ok (.ireturn, 1) := by decide +kernel
theorem dX5_stepOfToken_86 : decode cX5_stepOfToken 86 = .ok (.iconst 3, 1) := by decide +kernel
theorem dX5_stepOfToken_87 : decode cX5_stepOfToken 87 = .ok (.ireturn, 1) := by decide +kernel
theorem dX5_stepOfToken_88 : decode cX5_stepOfToken 88 = .ok (.iconst 4, 1) := by decide +kernel
theorem dX5_stepOfToken_89 : decode cX5_stepOfToken 89 = .ok (.ireturn, 1) := by decide +kernel
theorem dX5_stepOfToken_90 : decode cX5_stepOfToken 90 = .ok (.aload_n 0, 1) := by decide +kernel
theorem dX5_stepOfToken_91 : decode cX5_stepOfToken 91 = .ok (.getfield 144, 3) := by decide +kernel
theorem dX5_stepOfToken_94 : decode cX5_stepOfToken 94 = .ok (.ifCond .eq 7, 3) := by decide +kernel
theorem dX5_stepOfToken_97 : decode cX5_stepOfToken 97 = .ok (.iconst (-1), 1) := by decide +kernel
theorem dX5_stepOfToken_98 : decode cX5_stepOfToken 98 = .ok (.goto 4, 3) := by decide +kernel
theorem dX5_stepOfToken_101 : decode cX5_stepOfToken 101 = .ok (.iconst 5, 1) := by decide +kernel
theorem dX5_stepOfToken_102 : decode cX5_stepOfToken 102 = .ok (.ireturn, 1) := by decide +kernel
theorem dX5_stepOfToken_103 : decode cX5_stepOfToken 103 = .ok (.iconst (-1), 1) := by decide +kernel
theorem dX5_stepOfToken_104 : decode cX5_stepOfToken 104 = .ok (.ireturn, 1) := by decide +kernel
theorem dX5_opens_0 : decode cX5_opens 0 = .ok (.iload_n 1, 1) := by decide +kernel
theorem dX5_opens_1 : decode cX5_opens 1 = .ok (.bipush 6, 2) := by decide +kernel
theorem dX5_opens_3 : decode cX5_opens 3 = .ok (.if_icmp .lt 10, 3) := by decide +kernel
theorem dX5_opens_6 : decode cX5_opens 6 = .ok (.aload_n 0, 1) := by decide +kernel
theorem dX5_opens_7 : decode cX5_opens 7 = .ok (.iconst 4, 1) := by decide +kernel
theorem dX5_opens_8 : decode cX5_opens 8 = .ok (.invokevirtual 77, 3) := by decide +kernel
theorem dX5_opens_11 : decode cX5_opens 11 = .ok (.iconst 0, 1) := by decide +kernel
theorem dX5_opens_12 : decode cX5_opens 12 = .ok (.ireturn, 1) := by decide +kernel
theorem dX5_opens_13 : decode cX5_opens 13 = .ok (.aload_n 0, 1) := by decide +kernel
theorem dX5_opens_14 : decode cX5_opens 14 = .ok (.invokevirtual 51, 3) := by decide +kernel
theorem dX5_opens_17 : decode cX5_opens 17 = .ok (.iconst 1, 1) := by decide +kernel
theorem dX5_opens_18 : decode cX5_opens 18 = .ok (.ireturn, 1) := by decide +kernel
theorem dX5_choice_0 : decode cX5_choice 0 = .ok (.aload_n 0, 1) := by decide +kernel
theorem dX5_choice_1 : decode cX5_choice 1 = .ok (.iload_n 1, 1) := by decide +kernel
theorem dX5_choice_2 : decode cX5_choice 2 = .ok (.invokevirtual 151, 3) := by decide +kernel
theorem dX5_choice_5 : decode cX5_choice 5 = .ok (.aload_n 0, 1) := by decide +kernel
theorem dX5_choice_6 : decode cX5_choice 6 = .ok (.sipush 212, 3) := by decide +kernel
theorem dX5_choice_9 : decode cX5_choice 9 = .ok (.invokevirtual 54, 3) := by decide +kernel
theorem dX5_choice_12 : decode cX5_choice 12 = .ok (.aload_n 0, 1) := by decide +kernel
theorem dX5_choice_13 : decode cX5_choice 13 = .ok (.iload_n 1, 1) := by decide +kernel
theorem dX5_choice_14 : decode cX5_choice 14 = .ok (.invokevirtual 157, 3) := by decide +kernel
theorem dX5_choice_17 : decode cX5_choice 17 = .ok (.aload_n 0, 1) := by decide +kernel
theorem dX5_choice_18 : decode cX5_choice 18 = .ok (.sipush 213, 3) := by decide +kernel
theorem dX5_choice_21 : decode cX5_choice 21 = .ok (.invokevirtual 54, 3) := by decide +kernel
theorem dX5_choice_24 : decode cX5_choice 24 = .ok (.aload_n 0, 1) := by decide +kernel
theorem dX5_choice_25 : decode cX5_choice 25 = .ok (.iload_n 1, 1) := by decide +kernel
theorem dX5_choice_26 : decode cX5_choice 26 = .ok (.invokevirtual 157, 3) := by decide +kernel
theorem dX5_choice_29 : decode cX5_choice 29 = .ok (.aload_n 0, 1) := by decide +kernel
theorem dX5_choice_30 : decode cX5_choice 30 = .ok (.sipush 214, 3) := by decide +kernel
theorem dX5_choice_33 : decode cX5_choice 33 = .ok (.invokevirtual 54, 3) := by decide +kernel
theorem dX5_choice_36 : decode cX5_choice 36 = .ok (.aload_n 0, 1) := by decide +kernel
theorem dX5_choice_37 : decode cX5_choice 37 = .ok (.getfield 22, 3) := by decide +kernel
theorem dX5_choice_40 : decode cX5_choice 40 = .ok (.bipush 15, 2) := by decide +kernel
theorem dX5_choice_42 : decode cX5_choice 42 = .ok (.invokevirtual 166, 3) := by decide +kernel
theorem dX5_choice_45 : decode cX5_choice 45 = .ok (.return_, 1) := by decide +kernel
theorem dX5_truth_0 : decode cX5_truth 0 = .ok (.aload_n 0, 1) := by decide +kernel
theorem dX5_truth_1 : decode cX5_truth 1 = .ok (.iload_n 1, 1) := by decide +kernel
theorem dX5_truth_2 : decode cX5_truth 2 = .ok (.invokevirtual 182, 3) := by decide +kernel
theorem dX5_truth_5 : decode cX5_truth 5 = .ok (.iconst 0, 1) := by decide +kernel
theorem dX5_truth_6 : decode cX5_truth 6 = .ok (.istore_n 2, 1) := by decide +kernel
theorem dX5_truth_7 : decode cX5_truth 7 = .ok (.iload_n 2, 1) := by decide +kernel
theorem dX5_truth_8 : decode cX5_truth 8 = .ok (.aload_n 0, 1) := by decide +kernel
theorem dX5_truth_9 : decode cX5_truth 9 = .ok (.getfield 36, 3) := by decide +kernel
theorem dX5_truth_12 : decode cX5_truth 12 = .ok (.if_icmp .ge 37, 3) := by decide +kernel
theorem dX5_truth_15 : decode cX5_truth 15 = .ok (.aload_n 0, 1) := by decide +kernel
theorem dX5_truth_16 : decode cX5_truth 16 = .ok (.getfield 61, 3) := by decide +kernel
theorem dX5_truth_19 : decode cX5_truth 19 = .ok (.sipush 218, 3) := by decide +kernel
theorem dX5_truth_22 : decode cX5_truth 22 = .ok (.if_icmp .ne 27, 3) := by decide +kernel
theorem dX5_truth_25 : decode cX5_truth 25 = .ok (.aload_n 0, 1) := by decide +kernel
theorem dX5_truth_26 : decode cX5_truth 26 = .ok (.invokevirtual 51, 3) := by decide +kernel
theorem dX5_truth_29 : decode cX5_truth 29 = .ok (.aload_n 0, 1) := by decide +kernel
theorem dX5_truth_30 : decode cX5_truth 30 = .ok (.iload_n 1, 1) := by decide +kernel
theorem dX5_truth_31 : decode cX5_truth 31 = .ok (.invokevirtual 182, 3) := by decide +kernel
theorem dX5_truth_34 : decode cX5_truth 34 = .ok (.aload_n 0, 1) := by decide +kernel
theorem dX5_truth_35 : decode cX5_truth 35 = .ok (.getfield 22, 3) := by decide +kernel
theorem dX5_truth_38 : decode cX5_truth 38 = .ok (.bipush 13, 2) := by decide +kernel
theorem dX5_truth_40 : decode cX5_truth 40 = .ok (.invokevirtual 166, 3) := by decide +kernel
theorem dX5_truth_43 : decode cX5_truth 43 = .ok (.iinc 2 1, 3) := by decide +kernel
theorem dX5_truth_46 : decode cX5_truth 46 = .ok (.goto (-39), 3) := by decide +kernel
theorem dX5_truth_49 : decode cX5_truth 49 = .ok (.return_, 1) := by decide +kernel
theorem dX5_both_0 : decode cX5_both 0 = .ok (.aload_n 0, 1) := by decide +kernel
theorem dX5_both_1 : decode cX5_both 1 = .ok (.iload_n 1, 1) := by decide +kernel
theorem dX5_both_2 : decode cX5_both 2 = .ok (.invokevirtual 185, 3) := by decide +kernel
theorem dX5_both_5 : decode cX5_both 5 = .ok (.iconst 0, 1) := by decide +kernel
theorem dX5_both_6 : decode cX5_both 6 = .ok (.istore_n 2, 1) := by decide +kernel
theorem dX5_both_7 : decode cX5_both 7 = .ok (.iload_n 2, 1) := by decide +kernel
theorem dX5_both_8 : decode cX5_both 8 = .ok (.aload_n 0, 1) := by decide +kernel
theorem dX5_both_9 : decode cX5_both 9 = .ok (.getfield 36, 3) := by decide +kernel
theorem dX5_both_12 : decode cX5_both 12 = .ok (.if_icmp .ge 37, 3) := by decide +kernel
theorem dX5_both_15 : decode cX5_both 15 = .ok (.aload_n 0, 1) := by decide +kernel
theorem dX5_both_16 : decode cX5_both 16 = .ok (.getfield 61, 3) := by decide +kernel
theorem dX5_both_19 : decode cX5_both 19 = .ok (.sipush 219, 3) := by decide +kernel
theorem dX5_both_22 : decode cX5_both 22 = .ok (.if_icmp .ne 27, 3) := by decide +kernel
theorem dX5_both_25 : decode cX5_both 25 = .ok (.aload_n 0, 1) := by decide +kernel
theorem dX5_both_26 : decode cX5_both 26 = .ok (.invokevirtual 51, 3) := by decide +kernel
theorem dX5_both_29 : decode cX5_both 29 = .ok (.aload_n 0, 1) := by decide +kernel
theorem dX5_both_30 : decode cX5_both 30 = .ok (.iload_n 1, 1) := by decide +kernel
theorem dX5_both_31 : decode cX5_both 31 = .ok (.invokevirtual 185, 3) := by decide +kernel
theorem dX5_both_34 : decode cX5_both 34 = .ok (.aload_n 0, 1) := by decide +kernel
theorem dX5_both_35 : decode cX5_both 35 = .ok (.getfield 22, 3) := by decide +kernel
theorem dX5_both_38 : decode cX5_both 38 = .ok (.bipush 12, 2) := by decide +kernel
theorem dX5_both_40 : decode cX5_both 40 = .ok (.invokevirtual 166, 3) := by decide +kernel
theorem dX5_both_43 : decode cX5_both 43 = .ok (.iinc 2 1, 3) := by decide +kernel
theorem dX5_both_46 : decode cX5_both 46 = .ok (.goto (-39), 3) := by decide +kernel
theorem dX5_both_49 : decode cX5_both 49 = .ok (.return_, 1) := by decide +kernel
theorem dX5_unit_0 : decode cX5_unit 0 = .ok (.aload_n 0, 1) := by decide +kernel
theorem dX5_unit_1 : decode cX5_unit 1 = .ok (.getfield 61, 3) := by decide +kernel
theorem dX5_unit_4 : decode cX5_unit 4 = .ok (.sipush 220, 3) := by decide +kernel
theorem dX5_unit_7 : decode cX5_unit 7 = .ok (.if_icmp .ne 30, 3) := by decide +kernel
theorem dX5_unit_10 : decode cX5_unit 10 = .ok (.aload_n 0, 1) := by decide +kernel
theorem dX5_unit_11 : decode cX5_unit 11 = .ok (.iload_n 1, 1) := by decide +kernel
theorem dX5_unit_12 : decode cX5_unit 12 = .ok (.invokevirtual 172, 3) := by decide +kernel
theorem dX5_unit_15 : decode cX5_unit 15 = .ok (.ifCond .eq 60, 3) := by decide +kernel
theorem dX5_unit_18 : decode cX5_unit 18 = .ok (.aload_n 0, 1) := by decide +kernel
theorem dX5_unit_19 : decode cX5_unit 19 = .ok (.iload_n 1, 1) := by decide +kernel
theorem dX5_unit_20 : decode cX5_unit 20 = .ok (.iconst 1, 1) := by decide +kernel
theorem dX5_unit_21 : decode cX5_unit 21 = .ok (.iadd, 1) := by decide +kernel
theorem dX5_unit_22 : decode cX5_unit 22 = .ok (.invokevirtual 185, 3) := by decide +kernel
theorem dX5_unit_25 : decode cX5_unit 25 = .ok (.aload_n 0, 1) := by decide +kernel
theorem dX5_unit_26 : decode cX5_unit 26 = .ok (.getfield 22, 3) := by decide +kernel
theorem dX5_unit_29 : decode cX5_unit 29 = .ok (.bipush 14, 2) := by decide +kernel
theorem dX5_unit_31 : decode cX5_unit 31 = .ok (.invokevirtual 166, 3) := by decide +kernel
theorem dX5_unit_34 : decode cX5_unit 34 = .ok (.goto 41, 3) := by decide +kernel
theorem dX5_unit_37 : decode cX5_unit 37 = .ok (.aload_n 0, 1) := by decide +kernel
theorem dX5_unit_38 : decode cX5_unit 38 = .ok (.getfield 61, 3) := by decide +kernel
theorem dX5_unit_41 : decode cX5_unit 41 = .ok (.bipush 91, 2) := by decide +kernel
theorem dX5_unit_43 : decode cX5_unit 43 = .ok (.if_icmp .ne 27, 3) := by decide +kernel
theorem dX5_unit_46 : decode cX5_unit 46 = .ok (.aload_n 0, 1) := by decide +kernel
theorem dX5_unit_47 : decode cX5_unit 47 = .ok (.iload_n 1, 1) := by decide +kernel
theorem dX5_unit_48 : decode cX5_unit 48 = .ok (.invokevirtual 172, 3) := by decide +kernel
theorem dX5_unit_51 : decode cX5_unit 51 = .ok (.ifCond .eq 24, 3) := by decide +kernel
theorem dX5_unit_54 : decode cX5_unit 54 = .ok (.aload_n 0, 1) := by decide +kernel
theorem dX5_unit_55 : decode cX5_unit 55 = .ok (.iload_n 1, 1) := by decide +kernel
theorem dX5_unit_56 : decode cX5_unit 56 = .ok (.iconst 1, 1) := by decide +kernel
theorem dX5_unit_57 : decode cX5_unit 57 = .ok (.iadd, 1) := by decide +kernel
theorem dX5_unit_58 : decode cX5_unit 58 = .ok (.invokevirtual 151, 3) := by decide +kernel
theorem dX5_unit_61 : decode cX5_unit 61 = .ok (.aload_n 0, 1) := by decide +kernel
theorem dX5_unit_62 : decode cX5_unit 62 = .ok (.bipush 93, 2) := by decide +kernel
theorem dX5_unit_64 : decode cX5_unit 64 = .ok (.invokevirtual 54, 3) := by decide +kernel
theorem dX5_unit_67 : decode cX5_unit 67 = .ok (.goto 8, 3) := by decide +kernel
theorem dX5_unit_70 : decode cX5_unit 70 = .ok (.aload_n 0, 1) := by decide +kernel
theorem dX5_unit_71 : decode cX5_unit 71 = .ok (.iload_n 1, 1) := by decide +kernel
theorem dX5_unit_72 : decode cX5_unit 72 = .ok (.invokevirtual 188, 3) := by decide +kernel
theorem dX5_unit_75 : decode cX5_unit 75 = .ok (.return_, 1) := by decide +kernel
theorem dX5_comparison_0 : decode cX5_comparison 0 = .ok (.aload_n 0, 1) := by decide +kernel
theorem dX5_comparison_1 : decode cX5_comparison 1 = .ok (.iload_n 1, 1) := by decide +kernel
theorem dX5_comparison_2 : decode cX5_comparison 2 = .ok (.invokevirtual 157, 3) := by decide +kernel
theorem dX5_comparison_5 : decode cX5_comparison 5 = .ok (.aload_n 0, 1) := by decide +kernel
theorem dX5_comparison_6 : decode cX5_comparison 6 = .ok (.getfield 61, 3) := by decide +kernel
theorem dX5_comparison_9 : decode cX5_comparison 9 = .ok (.bipush 61, 2) := by decide +kernel
theorem dX5_comparison_11 : decode cX5_comparison 11 = .ok (.if_icmp .ne 8, 3) := by decide +kernel
theorem dX5_comparison_14 : decode cX5_comparison 14 = .ok (.bipush 9, 2) := by decide +kernel
theorem dX5_comparison_16 : decode cX5_comparison 16 = .ok (.goto 19, 3) := by decide +kernel
theorem dX5_comparison_19 : decode cX5_comparison 19 = .ok (.aload_n 0, 1) := by decide +kernel
theorem dX5_comparison_20 : decode cX5_comparison 20 = .ok (.getfield 61, 3) := by decide +kernel
theorem dX5_comparison_23 : decode cX5_comparison 23 = .ok (.bipush 60, 2) := by decide +kernel
theorem dX5_comparison_25 : decode cX5_comparison 25 = .ok (.if_icmp .ne 8, 3) := by decide +kernel
theorem dX5_comparison_28 : decode cX5_comparison 28 = .ok (.bipush 10, 2) := by decide +kernel
theorem dX5_comparison_30 : decode cX5_comparison 30 = .ok (.goto 5, 3) := by decide +kernel
theorem dX5_comparison_33 : decode cX5_comparison 33 = .ok (.bipush 11, 2) := by decide +kernel
theorem dX5_comparison_35 : decode cX5_comparison 35 = .ok (.istore_n 2, 1) := by decide +kernel
theorem dX5_comparison_36 : decode cX5_comparison 36 = .ok (.aload_n 0, 1) := by decide +kernel
theorem dX5_comparison_37 : decode cX5_comparison 37 = .ok (.getfield 61, 3) := by decide +kernel
theorem dX5_comparison_40 : decode cX5_comparison 40 = .ok (.bipush 61, 2) := by decide +kernel
theorem dX5_comparison_42 : decode cX5_comparison 42 = .ok (.if_icmp .eq 21, 3) := by decide +kernel
theorem dX5_comparison_45 : decode cX5_comparison 45 = .ok (.aload_n 0, 1) := by decide +kernel
theorem dX5_comparison_46 : decode cX5_comparison 46 = .ok (.getfield 61, 3) := by decide +kernel
theorem dX5_comparison_49 : decode cX5_comparison 49 = .ok (.bipush 60, 2) := by decide +kernel
theorem dX5_comparison_51 : decode cX5_comparison 51 = .ok (.if_icmp .eq 12, 3) := by decide +kernel
theorem dX5_comparison_54 : decode cX5_comparison 54 = .ok (.aload_n 0, 1) := by decide +kernel
theorem dX5_comparison_55 : decode cX5_comparison 55 = .ok (.getfield 61, 3) := by decide +kernel
theorem dX5_comparison_58 : decode cX5_comparison 58 = .ok (.bipush 62, 2) := by decide +kernel
theorem dX5_comparison_60 : decode cX5_comparison 60 = .ok (.if_icmp .ne 23, 3) := by decide +kernel
theorem dX5_comparison_63 : decode cX5_comparison 63 = .ok (.aload_n 0, 1) := by decide +kernel
theorem dX5_comparison_64 : decode cX5_comparison 64 = .ok (.invokevirtual 51, 3) := by decide +kernel
theorem dX5_comparison_67 : decode cX5_comparison 67 = .ok (.aload_n 0, 1) := by decide +kernel
theorem dX5_comparison_68 : decode cX5_comparison 68 = .ok (.iload_n 1, 1) := by decide +kernel
theorem dX5_comparison_69 : decode cX5_comparison 69 = .ok (.invokevirtual 157, 3) := by decide +kernel
theorem dX5_comparison_72 : decode cX5_comparison 72 = .ok (.aload_n 0, 1) := by decide +kernel
theorem dX5_comparison_73 : decode cX5_comparison 73 = .ok (.getfield 22, 3) := by decide +kernel
theorem dX5_comparison_76 : decode cX5_comparison 76 = .ok (.iload_n 2, 1) := by decide +kernel
theorem dX5_comparison_77 : decode cX5_comparison 77 = .ok (.invokevirtual 166, 3) := by decide +kernel
theorem dX5_comparison_80 : decode cX5_comparison 80 = .ok (.goto 8, 3) := by decide +kernel
theorem dX5_comparison_83 : decode cX5_comparison 83 = .ok (.aload_n 0, 1) := by decide +kernel
theorem dX5_comparison_84 : decode cX5_comparison 84 = .ok (.iconst 2, 1) := by decide +kernel
theorem dX5_comparison_85 : decode cX5_comparison 85 = .ok (.invokevirtual 77, 3) := by decide +kernel
theorem dX5_comparison_88 : decode cX5_comparison 88 = .ok (.return_, 1) := by decide +kernel
theorem dX6_init_0 : decode cX6_init 0 = .ok (.aload_n 0, 1) := by decide +kernel
theorem dX6_init_1 : decode cX6_init 1 = .ok (.invokespecial 3, 3) := by decide +kernel
theorem dX6_init_4 : decode cX6_init 4 = .ok (.aload_n 0, 1) := by decide +kernel
theorem dX6_init_5 : decode cX6_init 5 = .ok (.iconst 1, 1) := by decide +kernel
theorem dX6_init_6 : decode cX6_init 6 = .ok (.newarray .long, 2) := by decide +kernel
theorem dX6_init_8 : decode cX6_init 8 = .ok (.putfield 9, 3) := by decide +kernel
theorem dX6_init_11 : decode cX6_init 11 = .ok (.aload_n 0, 1) := by decide +kernel
theorem dX6_init_12 : decode cX6_init 12 = .ok (.aload_n 1, 1) := by decide +kernel
theorem dX6_init_13 : decode cX6_init 13 = .ok (.putfield 15, 3) := by decide +kernel
theorem dX6_init_16 : decode cX6_init 16 = .ok (.return_, 1) := by decide +kernel
theorem dX6_begin_0 : decode cX6_begin 0 = .ok (.aload_n 0, 1) := by decide +kernel
theorem dX6_begin_1 : decode cX6_begin 1 = .ok (.aload_n 1, 1) := by decide +kernel
theorem dX6_begin_2 : decode cX6_begin 2 = .ok (.putfield 15, 3) := by decide +kernel
theorem dX6_begin_5 : decode cX6_begin 5 = .ok (.aload_n 0, 1) := by decide +kernel
theorem dX6_begin_6 : decode cX6_begin 6 = .ok (.aload_n 2, 1) := by decide +kernel
theorem dX6_begin_7 : decode cX6_begin 7 = .ok (.getfield 19, 3) := by decide +kernel
theorem dX6_begin_10 : decode cX6_begin 10 = .ok (.putfield 25, 3) := by decide +kernel
theorem dX6_begin_13 : decode cX6_begin 13 = .ok (.aload_n 0, 1) := by decide +kernel
theorem dX6_begin_14 : decode cX6_begin 14 = .ok (.getfield 9, 3) := by decide +kernel
theorem dX6_begin_17 : decode cX6_begin 17 = .ok (.arraylength, 1) := by decide +kernel
theorem dX6_begin_18 : decode cX6_begin 18 = .ok (.aload_n 1, 1) := by decide +kernel
theorem dX6_begin_19 : decode cX6_begin 19 = .ok (.invokevirtual 26, 3) := by decide +kernel
theorem dX6_begin_22 : decode cX6_begin 22 = .ok (.if_icmp .ge 13, 3) := by decide +kernel
theorem dX6_begin_25 : decode cX6_begin 25 = .ok (.aload_n 0, 1) := by decide +kernel
theorem dX6_begin_26 : decode cX6_begin 26 = .ok (.aload_n 1, 1) := by decide +kernel
theorem dX6_begin_27 : decode cX6_begin 27 = .ok (.invokevirtual 26, 3) := by decide +kernel
theorem dX6_begin_30 : decode cX6_begin 30 = .ok (.newarray .long, 2) := by decide +kernel
theorem dX6_begin_32 : decode cX6_begin 32 = .ok (.putfield 9, 3) := by decide +kernel
theorem dX6_begin_35 : decode cX6_begin 35 = .ok (.aload_n 0, 1) := by decide +kernel
theorem dX6_begin_36 : decode cX6_begin 36 = .ok (.getfield 9, 3) := by decide +kernel
theorem dX6_begin_39 : decode cX6_begin 39 = .ok (.lconst 0, 1) := by decide +kernel
theorem dX6_begin_40 : decode cX6_begin 40 = .ok (.invokestatic 32, 3) := by decide +kernel
theorem dX6_begin_43 : decode cX6_begin 43 = .ok (.aload_n 0, 1) := by decide +kernel
theorem dX6_begin_44 : decode cX6_begin 44 = .ok (.aload_n 2, 1) := by decide +kernel
theorem dX6_begin_45 : decode cX6_begin 45 = .ok (.getfield 38, 3) := by decide +kernel
theorem dX6_begin_48 : decode cX6_begin 48 = .ok (.putfield 41, 3) := by decide +kernel
theorem dX6_begin_51 : decode cX6_begin 51 = .ok (.aload_n 0, 1) := by decide +kernel
theorem dX6_begin_52 : decode cX6_begin 52 = .ok (.aload_n 2, 1) := by decide +kernel
theorem dX6_begin_53 : decode cX6_begin 53 = .ok (.getfield 38, 3) := by decide +kernel
theorem dX6_begin_56 : decode cX6_begin 56 = .ok (.putfield 44, 3) := by decide +kernel
theorem dX6_begin_59 : decode cX6_begin 59 = .ok (.aload_n 0, 1) := by decide +kernel
theorem dX6_begin_60 : decode cX6_begin 60 = .ok (.aload_n 2, 1) := by decide +kernel
theorem dX6_begin_61 : decode cX6_begin 61 = .ok (.getfield 38, 3) := by decide +kernel
theorem dX6_begin_64 : decode cX6_begin 64 = .ok (.lconst 1, 1) := by decide +kernel
theorem dX6_begin_65 : decode cX6_begin 65 = .ok (.invokevirtual 47, 3) := by decide +kernel
theorem dX6_begin_68 : decode cX6_begin 68 = .ok (.return_, 1) := by decide +kernel
theorem dX6_add_0 : decode cX6_add 0 = .ok (.iload_n 1, 1) := by decide +kernel
theorem dX6_add_1 : decode cX6_add 1 = .ok (.ifCond .lt 34, 3) := by decide +kernel
theorem dX6_add_4 : decode cX6_add 4 = .ok (.iload_n 1, 1) := by decide +kernel
theorem dX6_add_5 : decode cX6_add 5 = .ok (.aload_n 0, 1) := by decide +kernel
theorem dX6_add_6 : decode cX6_add 6 = .ok (.getfield 9, 3) := by decide +kernel
theorem dX6_add_9 : decode cX6_add 9 = .ok (.arraylength, 1) := by decide +kernel
theorem dX6_add_10 : decode cX6_add 10 = .ok (.if_icmp .ge 25, 3) := by decide +kernel
theorem dX6_add_13 : decode cX6_add 13 = .ok (.aload_n 0, 1) := by decide +kernel
theorem dX6_add_14 : decode cX6_add 14 = .ok (.getfield 9, 3) := by decide +kernel
theorem dX6_add_17 : decode cX6_add 17 = .ok (.iload_n 1, 1) := by decide +kernel
theorem dX6_add_18 : decode cX6_add 18 = .ok (.dup2, 1) := by decide +kernel
theorem dX6_add_19 : decode cX6_add 19 = .ok (.laload, 1) := by decide +kernel
theorem dX6_add_20 : decode cX6_add 20 = .ok (.lload_n 2, 1) := by decide +kernel
theorem dX6_add_21 : decode cX6_add 21 = .ok (.ladd, 1) := by decide +kernel
theorem dX6_add_22 : decode cX6_add 22 = .ok (.lastore, 1) := by decide +kernel
theorem dX6_add_23 : decode cX6_add 23 = .ok (.aload_n 0, 1) := by decide +kernel
theorem dX6_add_24 : decode cX6_add 24 = .ok (.aload_n 0, 1) := by decide +kernel
theorem dX6_add_25 : decode cX6_add 25 = .ok (.getfield 44, 3) := by decide +kernel
theorem dX6_add_28 : decode cX6_add 28 = .ok (.iload_n 1, 1) := by decide +kernel
theorem dX6_add_29 : decode cX6_add 29 = .ok (.invokestatic 51, 3) := by decide +kernel
theorem dX6_add_32 : decode cX6_add 32 = .ok (.putfield 44, 3) := by decide +kernel
theorem dX6_add_35 : decode cX6_add 35 = .ok (.return_, 1) := by decide +kernel
theorem dX6_lengthen_0 : decode cX6_lengthen 0 = .ok (.aload_n 0, 1) := by decide +kernel
theorem dX6_lengthen_1 : decode cX6_lengthen 1 = .ok (.getfield 44, 3) := by decide +kernel
theorem dX6_lengthen_4 : decode cX6_lengthen 4 = .ok (.istore_n 1, 1) := by decide +kernel
theorem dX6_lengthen_5 : decode cX6_lengthen 5 = .ok (.iload_n 1, 1) := by decide +kernel
theorem dX6_lengthen_6 : decode cX6_lengthen 6 = .ok (.aload_n 0, 1) := by decide +kernel
theorem dX6_lengthen_7 : decode cX6_lengthen 7 = .ok (.getfield 41, 3) := by decide +kernel
theorem dX6_lengthen_10 : decode cX6_lengthen 10 = .ok (.if_icmp .lt 48, 3) := by decide +kernel
theorem dX6_lengthen_13 : decode cX6_lengthen 13 = .ok (.iload_n 1, 1) := by decide +kernel
theorem dX6_lengthen_14 : decode cX6_lengthen 14 = .ok (.ifCond .lt 44, 3) := by decide +kernel
theorem dX6_lengthen_17 : decode cX6_lengthen 17 = .ok (.iload_n 1, 1) := by decide +kernel
theorem dX6_lengthen_18 : decode cX6_lengthen 18 = .ok (.aload_n 0, 1) := by decide +kernel
theorem dX6_lengthen_19 : decode cX6_lengthen 19 = .ok (.getfield 9, 3) := by decide +kernel
theorem dX6_lengthen_22 : decode cX6_lengthen 22 = .ok (.arraylength, 1) := by decide +kernel
theorem dX6_lengthen_23 : decode cX6_lengthen 23 = .ok (.if_icmp .ge 35, 3) := by decide +kernel
theorem dX6_lengthen_26 : decode cX6_lengthen 26 = .ok (.aload_n 0, 1) := by decide +kernel
theorem dX6_lengthen_27 : decode cX6_lengthen 27 = .ok (.getfield 9, 3) := by decide +kernel
theorem dX6_lengthen_30 : decode cX6_lengthen 30 = .ok (.iload_n 1, 1) := by decide +kernel
theorem dX6_lengthen_31 : decode cX6_lengthen 31 = .ok (.laload, 1) := by decide +kernel
theorem dX6_lengthen_32 : decode cX6_lengthen 32 = .ok (.lstore_n 2, 1) := by decide +kernel
theorem dX6_lengthen_33 : decode cX6_lengthen 33 = .ok (.lload_n 2, 1) := by decide +kernel
theorem dX6_lengthen_34 : decode cX6_lengthen 34 = .ok (.lconst 0, 1) := by decide +kernel
theorem dX6_lengthen_35 : decode cX6_lengthen 35 = .ok (.lcmp, 1) := by decide +kernel
theorem dX6_lengthen_36 : decode cX6_lengthen 36 = .ok (.ifCond .eq 16, 3) := by decide +kernel
theorem dX6_lengthen_39 : decode cX6_lengthen 39 = .ok (.aload_n 0, 1) := by decide +kernel
theorem dX6_lengthen_40 : decode cX6_lengthen 40 = .ok (.getfield 9, 3) := by decide +kernel
theorem dX6_lengthen_43 : decode cX6_lengthen 43 = .ok (.iload_n 1, 1) := by decide +kernel
theorem dX6_lengthen_44 : decode cX6_lengthen 44 = .ok (.lconst 0, 1) := by decide +kernel
theorem dX6_lengthen_45 : decode cX6_lengthen 45 = .ok (.lastore, 1) := by decide +kernel
theorem dX6_lengthen_46 : decode cX6_lengthen 46 = .ok (.aload_n 0, 1) := by decide +kernel
theorem dX6_lengthen_47 : decode cX6_lengthen 47 = .ok (.iload_n 1, 1) := by decide +kernel
theorem dX6_lengthen_48 : decode cX6_lengthen 48 = .ok (.lload_n 2, 1) := by decide +kernel
theorem dX6_lengthen_49 : decode cX6_lengthen 49 = .ok (.invokevirtual 57, 3) := by decide +kernel
theorem dX6_lengthen_52 : decode cX6_lengthen 52 = .ok (.iinc 1 (-1), 3) := by decide +kernel
theorem dX6_lengthen_55 : decode cX6_lengthen 55 = .ok (.goto (-50), 3) := by decide +kernel
theorem dX6_lengthen_58 : decode cX6_lengthen 58 = .ok (.return_, 1) := by decide +kernel
theorem dX6_spread_0 : decode cX6_spread 0 = .ok (.iconst 0, 1) := by decide +kernel
theorem dX6_spread_1 : decode cX6_spread 1 = .ok (.istore 4, 2) := by decide +kernel
theorem dX6_spread_3 : decode cX6_spread 3 = .ok (.iload 4, 2) := by decide +kernel
theorem dX6_spread_5 : decode cX6_spread 5 = .ok (.iconst 2, 1) := by decide +kernel
theorem dX6_spread_6 : decode cX6_spread 6 = .ok (.if_icmp .ge 65, 3) := by decide +kernel
theorem dX6_spread_9 : decode cX6_spread 9 = .ok (.aload_n 0, 1) := by decide +kernel
theorem dX6_spread_10 : decode cX6_spread 10 = .ok (.getfield 15, 3) := by decide +kernel
theorem dX6_spread_13 : decode cX6_spread 13 = .ok (.iload_n 1, 1) := by decide +kernel
theorem dX6_spread_14 : decode cX6_spread 14 = .ok (.aload_n 0, 1) := by decide +kernel
theorem dX6_spread_15 : decode cX6_spread 15 = .ok (.getfield 25, 3) := by decide +kernel
theorem dX6_spread_18 : decode cX6_spread 18 = .ok (.iload 4, 2) := by decide +kernel
theorem dX6_spread_20 : decode cX6_spread 20 = .ok (.invokevirtual 60, 3) := by decide +kernel
theorem dX6_spread_23 : decode cX6_spread 23 = .ok (.istore 5, 2) := by decide +kernel
theorem dX6_spread_25 : decode cX6_spread 25 = .ok (.iconst 0, 1) := by decide +kernel
theorem dX6_spread_26 : decode cX6_spread 26 = .ok (.istore 6, 2) := by decide +kernel
theorem dX6_spread_28 : decode cX6_spread 28 = .ok (.iload 6, 2) := by decide +kernel
theorem dX6_spread_30 : decode cX6_spread 30 = .ok (.aload_n 0, 1) := by decide +kernel
theorem dX6_spread_31 : decode cX6_spread 31 = .ok (.getfield 15, 3) := by decide +kernel
theorem dX6_spread_34 : decode cX6_spread 34 = .ok (.getfield 64, 3) := by decide +kernel
theorem dX6_spread_37 : decode cX6_spread 37 = .ok (.if_icmp .ge 28, 3) := by decide +kernel
theorem dX6_spread_40 : decode cX6_spread 40 = .ok (.aload_n 0, 1) := by decide +kernel
theorem dX6_spread_41 : decode cX6_spread 41 = .ok (.aload_n 0, 1) := by decide +kernel
theorem dX6_spread_42 : decode cX6_spread 42 = .ok (.getfield 15, 3) := by decide +kernel
theorem dX6_spread_45 : decode cX6_spread 45 = .ok (.iload_n 1, 1) := by decide +kernel
theorem dX6_spread_46 : decode cX6_spread 46 = .ok (.iload 5, 2) := by decide +kernel
theorem dX6_spread_48 : decode cX6_spread 48 = .ok (.iload 4, 2) := by decide +kernel
theorem dX6_spread_50 : decode cX6_spread 50 = .ok (.iload 6, 2) := by decide +kernel
theorem dX6_spread_52 : decode cX6_spread 52 = .ok (.invokevirtual 67, 3) := by decide +kernel
theorem dX6_spread_55 : decode cX6_spread 55 = .ok (.lload_n 2, 1) := by decide +kernel
theorem dX6_spread_56 : decode cX6_spread 56 = .ok (.invokevirtual 47, 3) := by decide +kernel
theorem dX6_spread_59 : decode cX6_spread 59 = .ok (.iinc 6 1, 3) := by decide +kernel
theorem dX6_spread_62 : decode cX6_spread 62 = .ok (.goto (-34), 3) := by decide +kernel
theorem dX6_spread_65 : decode cX6_spread 65 = .ok (.iinc 4 1, 3) := by decide +kernel
theorem dX6_spread_68 : decode cX6_spread 68 = .ok (.goto (-65), 3) := by decide +kernel
theorem dX6_spread_71 : decode cX6_spread 71 = .ok (.aload_n 0, 1) := by decide +kernel
theorem dX6_spread_72 : decode cX6_spread 72 = .ok (.iload_n 1, 1) := by decide +kernel
theorem dX6_spread_73 : decode cX6_spread 73 = .ok (.invokestatic 71, 3) := by decide +kernel
theorem dX6_spread_76 : decode cX6_spread 76 = .ok (.lload_n 2, 1) := by decide +kernel
theorem dX6_spread_77 : decode cX6_spread 77 = .ok (.invokevirtual 47, 3) := by decide +kernel
theorem dX6_spread_80 : decode cX6_spread 80 = .ok (.return_, 1) := by decide +kernel
theorem dX6_atGoal_0 : decode cX6_atGoal 0 = .ok (.lconst 0, 1) := by decide +kernel
theorem dX6_atGoal_1 : decode cX6_atGoal 1 = .ok (.lstore_n 3, 1) := by decide +kernel
theorem dX6_atGoal_2 : decode cX6_atGoal 2 = .ok (.iconst 0, 1) := by decide +kernel
theorem dX6_atGoal_3 : decode cX6_atGoal 3 = .ok (.aload_n 0, 1) := by decide +kernel
theorem dX6_atGoal_4 : decode cX6_atGoal 4 = .ok (.getfield 41, 3) := by decide +kernel
theorem dX6_atGoal_7 : decode cX6_atGoal 7 = .ok (.invokestatic 51, 3) := by decide +kernel
theorem dX6_atGoal_10 : decode cX6_atGoal 10 = .ok (.istore 5, 2) := by decide +kernel
theorem dX6_atGoal_12 : decode cX6_atGoal 12 = .ok (.iload 5, 2) := by decide +kernel
theorem dX6_atGoal_14 : decode cX6_atGoal 14 = .ok (.aload_n 0, 1) := by decide +kernel
theorem dX6_atGoal_15 : decode cX6_atGoal 15 = .ok (.getfield 44, 3) := by decide +kernel
theorem dX6_atGoal_18 : decode cX6_atGoal 18 = .ok (.if_icmp .gt 55, 3) := by decide +kernel
theorem dX6_atGoal_21 : decode cX6_atGoal 21 = .ok (.iload 5, 2) := by decide +kernel
theorem dX6_atGoal_23 : decode cX6_atGoal 23 = .ok (.aload_n 0, 1) := by decide +kernel
theorem dX6_atGoal_24 : decode cX6_atGoal 24 = .ok (.getfield 9, 3) := by decide +kernel
theorem dX6_atGoal_27 : decode cX6_atGoal 27 = .ok (.arraylength, 1) := by decide +kernel
theorem dX6_atGoal_28 : decode cX6_atGoal 28 = .ok (.if_icmp .ge 45, 3) := by decide +kernel
theorem dX6_atGoal_31 : decode cX6_atGoal 31 = .ok (.aload_n 0, 1) := by decide +kernel
theorem dX6_atGoal_32 : decode cX6_atGoal 32 = .ok (.getfield 9, 3) := by decide +kernel
theorem dX6_atGoal_35 : decode cX6_atGoal 35 = .ok (.iload 5, 2) := by decide +kernel
theorem dX6_atGoal_37 : decode cX6_atGoal 37 = .ok (.laload, 1) := by decide +kernel
theorem dX6_atGoal_38 : decode cX6_atGoal 38 = .ok (.lconst 0, 1) := by decide +kernel
theorem dX6_atGoal_39 : decode cX6_atGoal 39 = .ok (.lcmp, 1) := by decide +kernel
theorem dX6_atGoal_40 : decode cX6_atGoal 40 = .ok (.ifCond .eq 27, 3) := by decide +kernel
theorem dX6_atGoal_43 : decode cX6_atGoal 43 = .ok (.aload_n 0, 1) := by decide +kernel
theorem dX6_atGoal_44 : decode cX6_atGoal 44 = .ok (.getfield 15, 3) := by decide +kernel
theorem dX6_atGoal_47 : decode cX6_atGoal 47 = .ok (.iload 5, 2) := by decide +kernel
theorem dX6_atGoal_49 : decode cX6_atGoal 49 = .ok (.iload_n 1, 1) := by decide +kernel
theorem dX6_atGoal_50 : decode cX6_atGoal 50 = .ok (.iload_n 2, 1) := by decide +kernel
theorem dX6_atGoal_51 : decode cX6_atGoal 51 = .ok (.invokevirtual 75, 3) := by decide +kernel
theorem dX6_atGoal_54 : decode cX6_atGoal 54 = .ok (.ifCond .eq 13, 3) := by decide +kernel
theorem dX6_atGoal_57 : decode cX6_atGoal 57 = .ok (.lload_n 3, 1) := by decide +kernel
theorem dX6_atGoal_58 : decode cX6_atGoal 58 = .ok (.aload_n 0, 1) := by decide +kernel
theorem dX6_atGoal_59 : decode cX6_atGoal 59 = .ok (.getfield 9, 3) := by decide +kernel
theorem dX6_atGoal_62 : decode cX6_atGoal 62 = .ok (.iload 5, 2) := by decide +kernel
theorem dX6_atGoal_64 : decode cX6_atGoal 64 = .ok (.laload, 1) := by decide +kernel
theorem dX6_atGoal_65 : decode cX6_atGoal 65 = .ok (.ladd, 1) := by decide +kernel
theorem dX6_atGoal_66 : decode cX6_atGoal 66 = .ok (.lstore_n 3, 1) := by decide +kernel
theorem dX6_atGoal_67 : decode cX6_atGoal 67 = .ok (.iinc 5 1, 3) := by decide +kernel
theorem dX6_atGoal_70 : decode cX6_atGoal 70 = .ok (.goto (-58), 3) := by decide +kernel
theorem dX6_atGoal_73 : decode cX6_atGoal 73 = .ok (.lload_n 3, 1) := by decide +kernel
theorem dX6_atGoal_74 : decode cX6_atGoal 74 = .ok (.lreturn, 1) := by decide +kernel
theorem dX7_init_0 : decode cX7_init 0 = .ok (.aload_n 0, 1) := by decide +kernel
theorem dX7_init_1 : decode cX7_init 1 = .ok (.invokespecial 3, 3) := by decide +kernel
theorem dX7_init_4 : decode cX7_init 4 = .ok (.aload_n 0, 1) := by decide +kernel
theorem dX7_init_5 : decode cX7_init 5 = .ok (.iconst 1, 1) := by decide +kernel
theorem dX7_init_6 : decode cX7_init 6 = .ok (.newarray .int, 2) := by decide +kernel
theorem dX7_init_8 : decode cX7_init 8 = .ok (.putfield 9, 3) := by decide +kernel
theorem dX7_init_11 : decode cX7_init 11 = .ok (.aload_n 0, 1) := by decide +kernel
theorem dX7_init_12 : decode cX7_init 12 = .ok (.iconst 1, 1) := by decide +kernel
theorem dX7_init_13 : decode cX7_init 13 = .ok (.newarray .int, 2) := by decide +kernel
theorem dX7_init_15 : decode cX7_init 15 = .ok (.putfield 15, 3) := by decide +kernel
theorem dX7_init_18 : decode cX7_init 18 = .ok (.aload_n 0, 1) := by decide +kernel
theorem dX7_init_19 : decode cX7_init 19 = .ok (.aload_n 1, 1) := by decide +kernel
theorem dX7_init_20 : decode cX7_init 20 = .ok (.putfield 18, 3) := by decide +kernel
theorem dX7_init_23 : decode cX7_init 23 = .ok (.return_, 1) := by decide +kernel
theorem dX7_drop_0 : decode cX7_drop 0 = .ok (.aload_n 0, 1) := by decide +kernel
theorem dX7_drop_1 : decode cX7_drop 1 = .ok (.getfield 15, 3) := by decide +kernel
theorem dX7_drop_4 : decode cX7_drop 4 = .ok (.iconst 0, 1) := by decide +kernel
theorem dX7_drop_5 : decode cX7_drop 5 = .ok (.invokestatic 22, 3) := by decide +kernel
theorem dX7_drop_8 : decode cX7_drop 8 = .ok (.aload_n 0, 1) := by decide +kernel
theorem dX7_drop_9 : decode cX7_drop 9 = .ok (.iconst 0, 1) := by decide +kernel
theorem dX7_drop_10 : decode cX7_drop 10 = .ok (.putfield 28, 3) := by decide +kernel
theorem dX7_drop_13 : decode cX7_drop 13 = .ok (.aload_n 0, 1) := by decide +kernel
theorem dX7_drop_14 : decode cX7_drop 14 = .ok (.iconst 0, 1) := by decide +kernel
theorem dX7_drop_15 : decode cX7_drop 15 = .ok (.putfield 32, 3) := by decide +kernel
theorem dX7_drop_18 : decode cX7_drop 18 = .ok (.return_, 1) := by decide +kernel
theorem dX7_begin_0 : decode cX7_begin 0 = .ok (.aload_n 0, 1) := by decide +kernel
theorem dX7_begin_1 : decode cX7_begin 1 = .ok (.getfield 28, 3) := by decide +kernel
theorem dX7_begin_4 : decode cX7_begin 4 = .ok (.ifCond .le 51, 3) := by decide +kernel
theorem dX7_begin_7 : decode cX7_begin 7 = .ok (.aload_n 0, 1) := by decide +kernel
theorem dX7_begin_8 : decode cX7_begin 8 = .ok (.getfield 18, 3) := by decide +kernel
theorem dX7_begin_11 : decode cX7_begin 11 = .ok (.aload_n 1, 1) := by decide +kernel
theorem dX7_begin_12 : decode cX7_begin 12 = .ok (.if_acmp .ne 43, 3) := by decide +kernel
theorem dX7_begin_15 : decode cX7_begin 15 = .ok (.aload_n 0, 1) := by decide +kernel
theorem dX7_begin_16 : decode cX7_begin 16 = .ok (.getfield 35, 3) := by decide +kernel
theorem dX7_begin_19 : decode cX7_begin 19 = .ok (.aload_n 2, 1) := by decide +kernel
theorem dX7_begin_20 : decode cX7_begin 20 = .ok (.getfield 38, 3) := by decide +kernel
theorem dX7_begin_23 : decode cX7_begin 23 = .ok (.if_icmp .ne 32, 3) := by decide +kernel
theorem dX7_begin_26 : decode cX7_begin 26 = .ok (.aload_n 0, 1) := by decide +kernel
theorem dX7_begin_27 : decode cX7_begin 27 = .ok (.getfield 43, 3) := by decide +kernel
theorem dX7_begin_30 : decode cX7_begin 30 = .ok (.aload_n 2, 1) := by decide +kernel
theorem dX7_begin_31 : decode cX7_begin 31 = .ok (.getfield 46, 3) := by decide +kernel
theorem dX7_begin_34 : decode cX7_begin 34 = .ok (.if_icmp .ne 21, 3) := by decide +kernel
theorem dX7_begin_37 : decode cX7_begin 37 = .ok (.aload_n 0, 1) := by decide +kernel
theorem dX7_begin_38 : decode cX7_begin 38 = .ok (.getfield 47, 3) := by decide +kernel
theorem dX7_begin_41 : decode cX7_begin 41 = .ok (.iload_n 3, 1) := by decide +kernel
theorem dX7_begin_42 : decode cX7_begin 42 = .ok (.if_icmp .ne 13, 3) := by decide +kernel
theorem dX7_begin_45 : decode cX7_begin 45 = .ok (.aload_n 0, 1) := by decide +kernel
theorem dX7_begin_46 : decode cX7_begin 46 = .ok (.getfield 50, 3) := by decide +kernel
theorem dX7_begin_49 : decode cX7_begin 49 = .ok (.iload 4, 2) := by decide +kernel
theorem dX7_begin_51 : decode cX7_begin 51 = .ok (.if_icmp .ne 4, 3) := by decide +kernel
theorem dX7_begin_54 : decode cX7_begin 54 = .ok (.return_, 1) := by decide +kernel
theorem dX7_begin_55 : decode cX7_begin 55 = .ok (.aload_n 0, 1) := by decide +kernel
theorem dX7_begin_56 : decode cX7_begin 56 = .ok (.iload_n 3, 1) := by decide +kernel
theorem dX7_begin_57 : decode cX7_begin 57 = .ok (.putfield 47, 3) := by decide +kernel
theorem dX7_begin_60 : decode cX7_begin 60 = .ok (.aload_n 0, 1) := by decide +kernel
theorem dX7_begin_61 : decode cX7_begin 61 = .ok (.iload 4, 2) := by decide +kernel
theorem dX7_begin_63 : decode cX7_begin 63 = .ok (.putfield 50, 3) := by decide +kernel
theorem dX7_begin_66 : decode cX7_begin 66 = .ok (.aload_n 0, 1) := by decide +kernel
theorem dX7_begin_67 : decode cX7_begin 67 = .ok (.aload_n 1, 1) := by decide +kernel
theorem dX7_begin_68 : decode cX7_begin 68 = .ok (.aload_n 2, 1) := by decide +kernel
theorem dX7_begin_69 : decode cX7_begin 69 = .ok (.invokevirtual 53, 3) := by decide +kernel
theorem dX7_begin_72 : decode cX7_begin 72 = .ok (.aload_n 0, 1) := by decide +kernel
theorem dX7_begin_73 : decode cX7_begin 73 = .ok (.iconst 0, 1) := by decide +kernel
theorem dX7_begin_74 : decode cX7_begin 74 = .ok (.aload_n 0, 1) := by decide +kernel
theorem dX7_begin_75 : decode cX7_begin 75 = .ok (.getfield 35, 3) := by decide +kernel
theorem dX7_begin_78 : decode cX7_begin 78 = .ok (.invokevirtual 57, 3) := by decide +kernel
theorem dX7_begin_81 : decode cX7_begin 81 = .ok (.return_, 1) := by decide +kernel
theorem dX7_settle_0 : decode cX7_settle 0 = .ok (.aload_n 0, 1) := by decide +kernel
theorem dX7_settle_1 : decode cX7_settle 1 = .ok (.invokevirtual 61, 3) := by decide +kernel
theorem dX7_settle_4 : decode cX7_settle 4 = .ok (.aload_n 0, 1) := by decide +kernel
theorem dX7_settle_5 : decode cX7_settle 5 = .ok (.aload_n 1, 1) := by decide +kernel
theorem dX7_settle_6 : decode cX7_settle 6 = .ok (.putfield 18, 3) := by decide +kernel
theorem dX7_settle_9 : decode cX7_settle 9 = .ok (.aload_n 0, 1) := by decide +kernel
theorem dX7_settle_10 : decode cX7_settle 10 = .ok (.aload_n 2, 1) := by decide +kernel
theorem dX7_settle_11 : decode cX7_settle 11 = .ok (.getfield 38, 3) := by decide +kernel
theorem dX7_settle_14 : decode cX7_settle 14 = .ok (.putfield 35, 3) := by decide +kernel
theorem dX7_settle_17 : decode cX7_settle 17 = .ok (.aload_n 0, 1) := by decide +kernel
theorem dX7_settle_18 : decode cX7_settle 18 = .ok (.aload_n 2, 1) := by decide +kernel
theorem dX7_settle_19 : decode cX7_settle 19 = .ok (.getfield 46, 3) := by decide +kernel
theorem dX7_settle_22 : decode cX7_settle 22 = .ok (.putfield 43, 3) := by decide +kernel
theorem dX7_settle_25 : decode cX7_settle 25 = .ok (.aload_n 1, 1) := by decide +kernel
theorem dX7_settle_26 : decode cX7_settle 26 = .ok (.invokevirtual 64, 3) := by decide +kernel
theorem dX7_settle_29 : decode cX7_settle 29 = .ok (.istore_n 3, 1) := by decide +kernel
theorem dX7_settle_30 : decode cX7_settle 30 = .ok (.aload_n 0, 1) := by decide +kernel
theorem dX7_settle_31 : decode cX7_settle 31 = .ok (.getfield 9, 3) := by decide +kernel
theorem dX7_settle_34 : decode cX7_settle 34 = .ok (.arraylength, 1) := by decide +kernel
theorem dX7_settle_35 : decode cX7_settle 35 = .ok (.iload_n 3, 1) := by decide +kernel
theorem dX7_settle_36 : decode cX7_settle 36 = .ok (.if_icmp .ge 21, 3) := by decide +kernel
theorem dX7_settle_39 : decode cX7_settle 39 = .ok (.aload_n 0, 1) := by decide +kernel
theorem dX7_settle_40 : decode cX7_settle 40 = .ok (.iload_n 3, 1) := by decide +kernel
theorem dX7_settle_41 : decode cX7_settle 41 = .ok (.newarray .int, 2) := by decide +kernel
theorem dX7_settle_43 : decode cX7_settle 43 = .ok (.putfield 9, 3) := by decide +kernel
theorem dX7_settle_46 : decode cX7_settle 46 = .ok (.aload_n 0, 1) := by decide +kernel
theorem dX7_settle_47 : decode cX7_settle 47 = .ok (.iload_n 3, 1) := by decide +kernel
theorem dX7_settle_48 : decode cX7_settle 48 = .ok (.iconst 5, 1) := by decide +kernel
theorem dX7_settle_49 : decode cX7_settle 49 = .ok (.ishr, 1) := by decide +kernel
theorem dX7_settle_50 : decode cX7_settle 50 = .ok (.iconst 1, 1) := by decide +kernel
theorem dX7_settle_51 : decode cX7_settle 51 = .ok (.iadd, 1) := by decide +kernel
theorem dX7_settle_52 : decode cX7_settle 52 = .ok (.newarray .int, 2) := by decide +kernel
theorem dX7_settle_54 : decode cX7_settle 54 = .ok (.putfield 15, 3) := by decide +kernel
theorem dX7_settle_57 : decode cX7_settle 57 = .ok (.return_, 1) := by decide +kernel
theorem dX7_add_0 : decode cX7_add 0 = .ok (.iload_n 2, 1) := by decide +kernel
theorem dX7_add_1 : decode cX7_add 1 = .ok (.iconst 5, 1) := by decide +kernel
theorem dX7_add_2 : decode cX7_add 2 = .ok (.ishr, 1) := by decide +kernel
theorem dX7_add_3 : decode cX7_add 3 = .ok (.istore_n 3, 1) := by decide +kernel
theorem dX7_add_4 : decode cX7_add 4 = .ok (.iload_n 2, 1) := by decide +kernel
theorem dX7_add_5 : decode cX7_add 5 = .ok (.ifCond .lt 24, 3) := by decide +kernel
theorem dX7_add_8 : decode cX7_add 8 = .ok (.iload_n 3, 1) := by decide +kernel
theorem dX7_add_9 : decode cX7_add 9 = .ok (.aload_n 0, 1) := by decide +kernel
theorem dX7_add_10 : decode cX7_add 10 = .ok (.getfield 15, 3) := by decide +kernel
theorem dX7_add_13 : decode cX7_add 13 = .ok (.arraylength, 1) := by decide +kernel
theorem dX7_add_14 : decode cX7_add 14 = .ok (.if_icmp .ge 15, 3) := by decide +kernel
theorem dX7_add_17 : decode cX7_add 17 = .ok (.aload_n 0, 1) := by decide +kernel
theorem dX7_add_18 : decode cX7_add 18 = .ok (.getfield 28, 3) := by decide +kernel
theorem dX7_add_21 : decode cX7_add 21 = .ok (.aload_n 0, 1) := by decide +kernel
theorem dX7_add_22 : decode cX7_add 22 = .ok (.getfield 9, 3) := by decide +kernel
theorem dX7_add_25 : decode cX7_add 25 = .ok (.arraylength, 1) := by decide +kernel
theorem dX7_add_26 : decode cX7_add 26 = .ok (.if_icmp .lt 4, 3) := by decide +kernel
theorem dX7_add_29 : decode cX7_add 29 = .ok (.return_, 1) := by decide +kernel
theorem dX7_add_30 : decode cX7_add 30 = .ok (.iconst 1, 1) := by decide +kernel
theorem dX7_add_31 : decode cX7_add 31 = .ok (.iload_n 2, 1) := by decide +kernel
theorem dX7_add_32 : decode cX7_add 32 = .ok (.bipush 31, 2) := by decide +kernel
theorem dX7_add_34 : decode cX7_add 34 = .ok (.iand, 1) := by decide +kernel
theorem dX7_add_35 : decode cX7_add 35 = .ok (.ishl, 1) := by decide +kernel
theorem dX7_add_36 : decode cX7_add 36 = .ok (.istore 4, 2) := by decide +kernel
theorem dX7_add_38 : decode cX7_add 38 = .ok (.aload_n 0, 1) := by decide +kernel
theorem dX7_add_39 : decode cX7_add 39 = .ok (.getfield 15, 3) := by decide +kernel
theorem dX7_add_42 : decode cX7_add 42 = .ok (.iload_n 3, 1) := by decide +kernel
theorem dX7_add_43 : decode cX7_add 43 = .ok (.iaload, 1) := by decide +kernel
theorem dX7_add_44 : decode cX7_add 44 = .ok (.iload 4, 2) := by decide +kernel
theorem dX7_add_46 : decode cX7_add 46 = .ok (.iand, 1) := by decide +kernel
theorem dX7_add_47 : decode cX7_add 47 = .ok (.ifCond .ne 39, 3) := by decide +kernel
theorem dX7_add_50 : decode cX7_add 50 = .ok (.aload_n 0, 1) := by decide +kernel
theorem dX7_add_51 : decode cX7_add 51 = .ok (.getfield 15, 3) := by decide +kernel
theorem dX7_add_54 : decode cX7_add 54 = .ok (.iload_n 3, 1) := by decide +kernel
theorem dX7_add_55 : decode cX7_add 55 = .ok (.dup2, 1) := by decide +kernel
theorem dX7_add_56 : decode cX7_add 56 = .ok (.iaload, 1) := by decide +kernel
theorem dX7_add_57 : decode cX7_add 57 = .ok (.iload 4, 2) := by decide +kernel
theorem dX7_add_59 : decode cX7_add 59 = .ok (.ior, 1) := by decide +kernel
theorem dX7_add_60 : decode cX7_add 60 = .ok (.iastore, 1) := by decide +kernel
theorem dX7_add_61 : decode cX7_add 61 = .ok (.aload_n 0, 1) := by decide +kernel
theorem dX7_add_62 : decode cX7_add 62 = .ok (.getfield 9, 3) := by decide +kernel
theorem dX7_add_65 : decode cX7_add 65 = .ok (.aload_n 0, 1) := by decide +kernel
theorem dX7_add_66 : decode cX7_add 66 = .ok (.getfield 28, 3) := by decide +kernel
theorem dX7_add_69 : decode cX7_add 69 = .ok (.iload_n 1, 1) := by decide +kernel
theorem dX7_add_70 : decode cX7_add 70 = .ok (.bipush 16, 2) := by decide +kernel
theorem dX7_add_72 : decode cX7_add 72 = .ok (.ishl, 1) := by decide +kernel
theorem dX7_add_73 : decode cX7_add 73 = .ok (.iload_n 2, 1) := by decide +kernel
theorem dX7_add_74 : decode cX7_add 74 = .ok (.ior, 1) := by decide +kernel
theorem dX7_add_75 : decode cX7_add 75 = .ok (.iastore, 1) := by decide +kernel
theorem dX7_add_76 : decode cX7_add 76 = .ok (.aload_n 0, 1) := by decide +kernel
theorem dX7_add_77 : decode cX7_add 77 = .ok (.dup, 1) := by decide +kernel
theorem dX7_add_78 : decode cX7_add 78 = .ok (.getfield 28, 3) := by decide +kernel
theorem dX7_add_81 : decode cX7_add 81 = .ok (.iconst 1, 1) := by decide +kernel
theorem dX7_add_82 : decode cX7_add 82 = .ok (.iadd, 1) := by decide +kernel
theorem dX7_add_83 : decode cX7_add 83 = .ok (.putfield 28, 3) := by decide +kernel
theorem dX7_add_86 : decode cX7_add 86 = .ok (.return_, 1) := by decide +kernel
theorem dX7_open_0 : decode cX7_open 0 = .ok (.aload_n 0, 1) := by decide +kernel
theorem dX7_open_1 : decode cX7_open 1 = .ok (.iload_n 1, 1) := by decide +kernel
theorem dX7_open_2 : decode cX7_open 2 = .ok (.invokevirtual 70, 3) := by decide +kernel
theorem dX7_open_5 : decode cX7_open 5 = .ok (.istore_n 2, 1) := by decide +kernel
theorem dX7_open_6 : decode cX7_open 6 = .ok (.iconst 0, 1) := by decide +kernel
theorem dX7_open_7 : decode cX7_open 7 = .ok (.istore_n 3, 1) := by decide +kernel
theorem dX7_open_8 : decode cX7_open 8 = .ok (.iload_n 3, 1) := by decide +kernel
theorem dX7_open_9 : decode cX7_open 9 = .ok (.iconst 2, 1) := by decide +kernel
theorem dX7_open_10 : decode cX7_open 10 = .ok (.if_icmp .ge 80, 3) := by decide +kernel
theorem dX7_open_13 : decode cX7_open 13 = .ok (.aload_n 0, 1) := by decide +kernel
theorem dX7_open_14 : decode cX7_open 14 = .ok (.getfield 18, 3) := by decide +kernel
theorem dX7_open_17 : decode cX7_open 17 = .ok (.iload_n 2, 1) := by decide +kernel
theorem dX7_open_18 : decode cX7_open 18 = .ok (.aload_n 0, 1) := by decide +kernel
theorem dX7_open_19 : decode cX7_open 19 = .ok (.getfield 43, 3) := by decide +kernel
theorem dX7_open_22 : decode cX7_open 22 = .ok (.iload_n 3, 1) := by decide +kernel
theorem dX7_open_23 : decode cX7_open 23 = .ok (.invokevirtual 74, 3) := by decide +kernel
theorem dX7_open_26 : decode cX7_open 26 = .ok (.istore 4, 2) := by decide +kernel
theorem dX7_open_28 : decode cX7_open 28 = .ok (.iconst 0, 1) := by decide +kernel
theorem dX7_open_29 : decode cX7_open 29 = .ok (.istore 5, 2) := by decide +kernel
theorem dX7_open_31 : decode cX7_open 31 = .ok (.iload 5, 2) := by decide +kernel
theorem dX7_open_33 : decode cX7_open 33 = .ok (.aload_n 0, 1) := by decide +kernel
theorem dX7_open_34 : decode cX7_open 34 = .ok (.getfield 18, 3) := by decide +kernel
theorem dX7_open_37 : decode cX7_open 37 = .ok (.getfield 78, 3) := by decide +kernel
theorem dX7_open_40 : decode cX7_open 40 = .ok (.if_icmp .ge 44, 3) := by decide +kernel
theorem dX7_open_43 : decode cX7_open 43 = .ok (.iload_n 3, 1) := by decide +kernel
theorem dX7_open_44 : decode cX7_open 44 = .ok (.aload_n 0, 1) := by decide +kernel
theorem dX7_open_45 : decode cX7_open 45 = .ok (.getfield 47, 3) := by decide +kernel
theorem dX7_open_48 : decode cX7_open 48 = .ok (.if_icmp .eq 36, 3) := by decide +kernel
theorem dX7_open_51 : decode cX7_open 51 = .ok (.iload 5, 2) := by decide +kernel
theorem dX7_open_53 : decode cX7_open 53 = .ok (.aload_n 0, 1) := by decide +kernel
theorem dX7_open_54 : decode cX7_open 54 = .ok (.getfield 50, 3) := by decide +kernel
theorem dX7_open_57 : decode cX7_open 57 = .ok (.if_icmp .eq 21, 3) := by decide +kernel
theorem dX7_open_60 : decode cX7_open 60 = .ok (.aload_n 0, 1) := by decide +kernel
theorem dX7_open_61 : decode cX7_open 61 = .ok (.iload_n 1, 1) := by decide +kernel
theorem dX7_open_62 : decode cX7_open 62 = .ok (.aload_n 0, 1) := by decide +kernel
theorem dX7_open_63 : decode cX7_open 63 = .ok (.getfield 18, 3) := by decide +kernel
theorem dX7_open_66 : decode cX7_open 66 = .ok (.iload_n 2, 1) := by decide +kernel
theorem dX7_open_67 : decode cX7_open 67 = .ok (.iload 4, 2) := by decide +kernel
theorem dX7_open_69 : decode cX7_open 69 = .ok (.iload_n 3, 1) := by decide +kernel
theorem dX7_open_70 : decode cX7_open 70 = .ok (.iload 5, 2) := by decide +kernel
theorem dX7_open_72 : decode cX7_open 72 = .ok (.invokevirtual 81, 3) := by decide +kernel
theorem dX7_open_75 : decode cX7_open 75 = .ok (.invokevirtual 57, 3) := by decide +kernel
theorem dX7_open_78 : decode cX7_open 78 = .ok (.iinc 5 1, 3) := by decide +kernel
theorem dX7_open_81 : decode cX7_open 81 = .ok (.goto (-50), 3) := by decide +kernel
theorem dX7_open_84 : decode cX7_open 84 = .ok (.iinc 3 1, 3) := by decide +kernel
theorem dX7_open_87 : decode cX7_open 87 = .ok (.goto (-79), 3) := by decide +kernel
theorem dX7_open_90 : decode cX7_open 90 = .ok (.aload_n 0, 1) := by decide +kernel
theorem dX7_open_91 : decode cX7_open 91 = .ok (.iload_n 1, 1) := by decide +kernel
theorem dX7_open_92 : decode cX7_open 92 = .ok (.iload_n 2, 1) := by decide +kernel
theorem dX7_open_93 : decode cX7_open 93 = .ok (.invokestatic 85, 3) := by decide +kernel
theorem dX7_open_96 : decode cX7_open 96 = .ok (.invokevirtual 57, 3) := by decide +kernel
theorem dX7_open_99 : decode cX7_open 99 = .ok (.return_, 1) := by decide +kernel
theorem dX7_finds_0 : decode cX7_finds 0 = .ok (.aload_n 0, 1) := by decide +kernel
theorem dX7_finds_1 : decode cX7_finds 1 = .ok (.getfield 32, 3) := by decide +kernel
theorem dX7_finds_4 : decode cX7_finds 4 = .ok (.aload_n 0, 1) := by decide +kernel
theorem dX7_finds_5 : decode cX7_finds 5 = .ok (.getfield 9, 3) := by decide +kernel
theorem dX7_finds_8 : decode cX7_finds 8 = .ok (.arraylength, 1) := by decide +kernel
theorem dX7_finds_9 : decode cX7_finds 9 = .ok (.if_icmp .ge 43, 3) := by decide +kernel
theorem dX7_finds_12 : decode cX7_finds 12 = .ok (.aload_n 0, 1) := by decide +kernel
theorem dX7_finds_13 : decode cX7_finds 13 = .ok (.getfield 32, 3) := by decide +kernel
theorem dX7_finds_16 : decode cX7_finds 16 = .ok (.aload_n 0, 1) := by decide +kernel
theorem dX7_finds_17 : decode cX7_finds 17 = .ok (.getfield 28, 3) := by decide +kernel
theorem dX7_finds_20 : decode cX7_finds 20 = .ok (.if_icmp .ge 32, 3) := by decide +kernel
theorem dX7_finds_23 : decode cX7_finds 23 = .ok (.aload_n 0, 1) := by decide +kernel
theorem dX7_finds_24 : decode cX7_finds 24 = .ok (.getfield 28, 3) := by decide +kernel
theorem dX7_finds_27 : decode cX7_finds 27 = .ok (.iload_n 1, 1) := by decide +kernel
theorem dX7_finds_28 : decode cX7_finds 28 = .ok (.if_icmp .gt 24, 3) := by decide +kernel
theorem dX7_finds_31 : decode cX7_finds 31 = .ok (.aload_n 0, 1) := by decide +kernel
theorem dX7_finds_32 : decode cX7_finds 32 = .ok (.aload_n 0, 1) := by decide +kernel
theorem dX7_finds_33 : decode cX7_finds 33 = .ok (.getfield 32, 3) := by decide +kernel
theorem dX7_finds_36 : decode cX7_finds 36 = .ok (.invokevirtual 88, 3) := by decide +kernel
theorem dX7_finds_39 : decode cX7_finds 39 = .ok (.aload_n 0, 1) := by decide +kernel
theorem dX7_finds_40 : decode cX7_finds 40 = .ok (.dup, 1) := by decide +kernel
theorem dX7_finds_41 : decode cX7_finds 41 = .ok (.getfield 32, 3) := by decide +kernel
theorem dX7_finds_44 : decode cX7_finds 44 = .ok (.iconst 1, 1) := by decide +kernel
theorem dX7_finds_45 : decode cX7_finds 45 = .ok (.iadd, 1) := by decide +kernel
theorem dX7_finds_46 : decode cX7_finds 46 = .ok (.putfield 32, 3) := by decide +kernel
theorem dX7_finds_49 : decode cX7_finds 49 = .ok (.goto (-49), 3) := by decide +kernel
theorem dX7_finds_52 : decode cX7_finds 52 = .ok (.iload_n 1, 1) := by decide +kernel
theorem dX7_finds_53 : decode cX7_finds 53 = .ok (.aload_n 0, 1) := by decide +kernel
theorem dX7_finds_54 : decode cX7_finds 54 = .ok (.getfield 28, 3) := by decide +kernel
theorem dX7_finds_57 : decode cX7_finds 57 = .ok (.if_icmp .ge 7, 3) := by decide +kernel
theorem dX7_finds_60 : decode cX7_finds 60 = .ok (.iconst 1, 1) := by decide +kernel
theorem dX7_finds_61 : decode cX7_finds 61 = .ok (.goto 4, 3) := by decide +kernel
theorem dX7_finds_64 : decode cX7_finds 64 = .ok (.iconst 0, 1) := by decide +kernel
theorem dX7_finds_65 : decode cX7_finds 65 = .ok (.ireturn, 1) := by decide +kernel
theorem dX7_findAll_0 : decode cX7_findAll 0 = .ok (.aload_n 0, 1) := by decide +kernel
theorem dX7_findAll_1 : decode cX7_findAll 1 = .ok (.aload_n 0, 1) := by decide +kernel
theorem dX7_findAll_2 : decode cX7_findAll 2 = .ok (.getfield 9, 3) := by decide +kernel
theorem dX7_findAll_5 : decode cX7_findAll 5 = .ok (.arraylength, 1) := by decide +kernel
theorem dX7_findAll_6 : decode cX7_findAll 6 = .ok (.invokevirtual 92, 3) := by decide +kernel
theorem dX7_findAll_9 : decode cX7_findAll 9 = .ok (.pop, 1) := by decide +kernel
theorem dX7_findAll_10 : decode cX7_findAll 10 = .ok (.aload_n 0, 1) := by decide +kernel
theorem dX7_findAll_11 : decode cX7_findAll 11 = .ok (.getfield 28, 3) := by decide +kernel
theorem dX7_findAll_14 : decode cX7_findAll 14 = .ok (.ireturn, 1) := by decide +kernel
theorem dX7_agesOf_0 : decode cX7_agesOf 0 = .ok (.iload_n 1, 1) := by decide +kernel
theorem dX7_agesOf_1 : decode cX7_agesOf 1 = .ok (.ifCond .lt 32, 3) := by decide +kernel
theorem dX7_agesOf_4 : decode cX7_agesOf 4 = .ok (.iload_n 1, 1) := by decide +kernel
theorem dX7_agesOf_5 : decode cX7_agesOf 5 = .ok (.aload_n 0, 1) := by decide +kernel
theorem dX7_agesOf_6 : decode cX7_agesOf 6 = .ok (.getfield 28, 3) := by decide +kernel
theorem dX7_agesOf_9 : decode cX7_agesOf 9 = .ok (.if_icmp .ge 24, 3) := by decide +kernel
theorem dX7_agesOf_12 : decode cX7_agesOf 12 = .ok (.iload_n 1, 1) := by decide +kernel
theorem dX7_agesOf_13 : decode cX7_agesOf 13 = .ok (.aload_n 0, 1) := by decide +kernel
theorem dX7_agesOf_14 : decode cX7_agesOf 14 = .ok (.getfield 9, 3) := by decide +kernel
theorem dX7_agesOf_17 : decode cX7_agesOf 17 = .ok (.arraylength, 1) := by decide +kernel
theorem dX7_agesOf_18 : decode cX7_agesOf 18 = .ok (.if_icmp .ge 15, 3) := by decide +kernel
theorem dX7_agesOf_21 : decode cX7_agesOf 21 = .ok (.aload_n 0, 1) := by decide +kernel
theorem dX7_agesOf_22 : decode cX7_agesOf 22 = .ok (.getfield 9, 3) := by decide +kernel
theorem dX7_agesOf_25 : decode cX7_agesOf 25 = .ok (.iload_n 1, 1) := by decide +kernel
theorem dX7_agesOf_26 : decode cX7_agesOf 26 = .ok (.iaload, 1) := by decide +kernel
theorem dX7_agesOf_27 : decode cX7_agesOf 27 = .ok (.ldc 96, 2) := by decide +kernel
theorem dX7_agesOf_29 : decode cX7_agesOf 29 = .ok (.iand, 1) := by decide +kernel
theorem dX7_agesOf_30 : decode cX7_agesOf 30 = .ok (.goto 4, 3) := by decide +kernel
theorem dX7_agesOf_33 : decode cX7_agesOf 33 = .ok (.iconst 0, 1) := by decide +kernel
theorem dX7_agesOf_34 : decode cX7_agesOf 34 = .ok (.ireturn, 1) := by decide +kernel
theorem dX7_placeAhead_0 : decode cX7_placeAhead 0 = .ok (.iload_n 1, 1) := by decide +kernel
theorem dX7_placeAhead_1 : decode cX7_placeAhead 1 = .ok (.ifCond .lt 32, 3) := by decide +kernel
theorem dX7_placeAhead_4 : decode cX7_placeAhead 4 = .ok (.iload_n 1, 1) := by decide +kernel
theorem dX7_placeAhead_5 : decode cX7_placeAhead 5 = .ok (.aload_n 0, 1) := by decide +kernel
theorem dX7_placeAhead_6 : decode cX7_placeAhead 6 = .ok (.getfield 28, 3) := by decide +kernel
theorem dX7_placeAhead_9 : decode cX7_placeAhead 9 = .ok (.if_icmp .ge 24, 3) := by decide +kernel
theorem dX7_placeAhead_12 : decode cX7_placeAhead 12 = .ok (.iload_n 1, 1) := by decide +kernel
theorem dX7_placeAhead_13 : decode cX7_placeAhead 13 = .ok (.aload_n 0, 1) := by decide +kernel
theorem dX7_placeAhead_14 : decode cX7_placeAhead 14 = .ok (.getfield 9, 3) := by decide +kernel
theorem dX7_placeAhead_17 : decode cX7_placeAhead 17 = .ok (.arraylength, 1) := by decide +kernel
theorem dX7_placeAhead_18 : decode cX7_placeAhead 18 = .ok (.if_icmp .ge 15, 3) := by decide +kernel
theorem dX7_placeAhead_21 : decode cX7_placeAhead 21 = .ok (.aload_n 0, 1) := by decide +kernel
theorem dX7_placeAhead_22 : decode cX7_placeAhead 22 = .ok (.getfield 9, 3) := by decide +kernel
theorem dX7_placeAhead_25 : decode cX7_placeAhead 25 = .ok (.iload_n 1, 1) := by decide +kernel
theorem dX7_placeAhead_26 : decode cX7_placeAhead 26 = .ok (.iaload, 1) := by decide +kernel
theorem dX7_placeAhead_27 : decode cX7_placeAhead 27 = .ok (.bipush 16, 2) := by decide +kernel
theorem dX7_placeAhead_29 : decode cX7_placeAhead 29 = .ok (.iushr, 1) := by decide +kernel
theorem dX7_placeAhead_30 : decode cX7_placeAhead 30 = .ok (.goto 4, 3) := by decide +kernel
theorem dX7_placeAhead_33 : decode cX7_placeAhead 33 = .ok (.iconst 0, 1) := by decide +kernel
theorem dX7_placeAhead_34 : decode cX7_placeAhead 34 = .ok (.ireturn, 1) := by decide +kernel
theorem dX7_firstAtGoal_0 : decode cX7_firstAtGoal 0 = .ok (.iconst 0, 1) := by decide +kernel
theorem dX7_firstAtGoal_1 : decode cX7_firstAtGoal 1 = .ok (.istore_n 3, 1) := by decide +kernel
theorem dX7_firstAtGoal_2 : decode cX7_firstAtGoal 2 = .ok (.iload_n 3, 1) := by decide +kernel
theorem dX7_firstAtGoal_3 : decode cX7_firstAtGoal 3 = .ok (.aload_n 0, 1) := by decide +kernel
theorem dX7_firstAtGoal_4 : decode cX7_firstAtGoal 4 = .ok (.getfield 9, 3) := by decide +kernel
theorem dX7_firstAtGoal_7 : decode cX7_firstAtGoal 7 = .ok (.arraylength, 1) := by decide +kernel
theorem dX7_firstAtGoal_8 : decode cX7_firstAtGoal 8 = .ok (.if_icmp .ge 36, 3) := by decide +kernel
theorem dX7_firstAtGoal_11 : decode cX7_firstAtGoal 11 = .ok (.aload_n 0, 1) := by decide +kernel
theorem dX7_firstAtGoal_12 : decode cX7_firstAtGoal 12 = .ok (.iload_n 3, 1) := by decide +kernel
theorem dX7_firstAtGoal_13 : decode cX7_firstAtGoal 13 = .ok (.invokevirtual 92, 3) := by decide +kernel
theorem dX7_firstAtGoal_16 : decode cX7_firstAtGoal 16 = .ok (.ifCond .eq 28, 3) := by decide +kernel
theorem dX7_firstAtGoal_19 : decode cX7_firstAtGoal 19 = .ok (.aload_n 0, 1) := by decide +kernel
theorem dX7_firstAtGoal_20 : decode cX7_firstAtGoal 20 = .ok (.getfield 18, 3) := by decide +kernel
theorem dX7_firstAtGoal_23 : decode cX7_firstAtGoal 23 = .ok (.aload_n 0, 1) := by decide +kernel
theorem dX7_firstAtGoal_24 : decode cX7_firstAtGoal 24 = .ok (.iload_n 3, 1) := by decide +kernel
theorem dX7_firstAtGoal_25 : decode cX7_firstAtGoal 25 = .ok (.invokevirtual 70, 3) := by decide +kernel
theorem dX7_firstAtGoal_28 : decode cX7_firstAtGoal 28 = .ok (.iload_n 1, 1) := by decide +kernel
theorem dX7_firstAtGoal_29 : decode cX7_firstAtGoal 29 = .ok (.iload_n 2, 1) := by decide +kernel
theorem dX7_firstAtGoal_30 : decode cX7_firstAtGoal 30 = .ok (.invokevirtual 97, 3) := by decide +kernel
theorem dX7_firstAtGoal_33 : decode cX7_firstAtGoal 33 = .ok (.ifCond .eq 5, 3) := by decide +kernel
theorem dX7_firstAtGoal_36 : decode cX7_firstAtGoal 36 = .ok (.iload_n 3, 1) := by decide +kernel
theorem dX7_firstAtGoal_37 : decode cX7_firstAtGoal 37 = .ok (.ireturn, 1) := by decide +kernel
theorem dX7_firstAtGoal_38 : decode cX7_firstAtGoal 38 = .ok (.iinc 3 1, 3) := by decide +kernel
theorem dX7_firstAtGoal_41 : decode cX7_firstAtGoal 41 = .ok (.goto (-39), 3) := by decide +kernel
theorem dX7_firstAtGoal_44 : decode cX7_firstAtGoal 44 = .ok (.iconst (-1), 1) := by decide +kernel
theorem dX7_firstAtGoal_45 : decode cX7_firstAtGoal 45 = .ok (.ireturn, 1) := by decide +kernel
theorem dX7_firstAlone_0 : decode cX7_firstAlone 0 = .ok (.iconst 0, 1) := by decide +kernel
theorem dX7_firstAlone_1 : decode cX7_firstAlone 1 = .ok (.istore_n 3, 1) := by decide +kernel
theorem dX7_firstAlone_2 : decode cX7_firstAlone 2 = .ok (.iload_n 3, 1) := by decide +kernel
theorem dX7_firstAlone_3 : decode cX7_firstAlone 3 = .ok (.aload_n 0, 1) := by decide +kernel
theorem dX7_firstAlone_4 : decode cX7_firstAlone 4 = .ok (.getfield 9, 3) := by decide +kernel
theorem dX7_firstAlone_7 : decode cX7_firstAlone 7 = .ok (.arraylength, 1) := by decide +kernel
theorem dX7_firstAlone_8 : decode cX7_firstAlone 8 = .ok (.if_icmp .ge 62, 3) := by decide +kernel
theorem dX7_firstAlone_11 : decode cX7_firstAlone 11 = .ok (.aload_n 0, 1) := by decide +kernel
theorem dX7_firstAlone_12 : decode cX7_firstAlone 12 = .ok (.iload_n 3, 1) := by decide +kernel
theorem dX7_firstAlone_13 : decode cX7_firstAlone 13 = .ok (.invokevirtual 92, 3) := by decide +kernel
theorem dX7_firstAlone_16 : decode cX7_firstAlone 16 = .ok (.ifCond .eq 54, 3) := by decide +kernel
theorem dX7_firstAlone_19 : decode cX7_firstAlone 19 = .ok (.aload_n 0, 1) := by decide +kernel
theorem dX7_firstAlone_20 : decode cX7_firstAlone 20 = .ok (.iload_n 3, 1) := by decide +kernel
theorem dX7_firstAlone_21 : decode cX7_firstAlone 21 = .ok (.invokevirtual 70, 3) := by decide +kernel
theorem dX7_firstAlone_24 : decode cX7_firstAlone 24 = .ok (.istore 4, 2) := by decide +kernel
theorem dX7_firstAlone_26 : decode cX7_firstAlone 26 = .ok (.aload_n 0, 1) := by decide +kernel
theorem dX7_firstAlone_27 : decode cX7_firstAlone 27 = .ok (.getfield 18, 3) := by decide +kernel
theorem dX7_firstAlone_30 : decode cX7_firstAlone 30 = .ok (.iload 4, 2) := by decide +kernel
theorem dX7_firstAlone_32 : decode cX7_firstAlone 32 = .ok (.iload_n 1, 1) := by decide +kernel
theorem dX7_firstAlone_33 : decode cX7_firstAlone 33 = .ok (.invokevirtual 101, 3) := by decide +kernel
theorem dX7_firstAlone_36 : decode cX7_firstAlone 36 = .ok (.aload_n 0, 1) := by decide +kernel
theorem dX7_firstAlone_37 : decode cX7_firstAlone 37 = .ok (.getfield 18, 3) := by decide +kernel
theorem dX7_firstAlone_40 : decode cX7_firstAlone 40 = .ok (.iload 4, 2) := by decide +kernel
theorem dX7_firstAlone_42 : decode cX7_firstAlone 42 = .ok (.iconst 1, 1) := by decide +kernel
theorem dX7_firstAlone_43 : decode cX7_firstAlone 43 = .ok (.iload_n 1, 1) := by decide +kernel
theorem dX7_firstAlone_44 : decode cX7_firstAlone 44 = .ok (.isub, 1) := by decide +kernel
theorem dX7_firstAlone_45 : decode cX7_firstAlone 45 = .ok (.invokevirtual 101, 3) := by decide +kernel
theorem dX7_firstAlone_48 : decode cX7_firstAlone 48 = .ok (.iconst (-1), 1) := by decide +kernel
theorem dX7_firstAlone_49 : decode cX7_firstAlone 49 = .ok (.ixor, 1) := by decide +kernel
theorem dX7_firstAlone_50 : decode cX7_firstAlone 50 = .ok (.iand, 1) := by decide +kernel
theorem dX7_firstAlone_51 : decode cX7_firstAlone 51 = .ok (.istore 5, 2) := by decide +kernel
theorem dX7_firstAlone_53 : decode cX7_firstAlone 53 = .ok (.iload 5, 2) := by decide +kernel
theorem dX7_firstAlone_55 : decode cX7_firstAlone 55 = .ok (.iload_n 2, 1) := by decide +kernel
theorem dX7_firstAlone_56 : decode cX7_firstAlone 56 = .ok (.ishr, 1) := by decide +kernel
theorem dX7_firstAlone_57 : decode cX7_firstAlone 57 = .ok (.iconst 1, 1) := by decide +kernel
theorem dX7_firstAlone_58 : decode cX7_firstAlone 58 = .ok (.iand, 1) := by decide +kernel
theorem dX7_firstAlone_59 : decode cX7_firstAlone 59 = .ok (.ifCond .eq 5, 3) := by decide +kernel
theorem dX7_firstAlone_62 : decode cX7_firstAlone 62 = .ok (.iload_n 3, 1) := by decide +kernel
theorem dX7_firstAlone_63 : decode cX7_firstAlone 63 = .ok (.ireturn, 1) := by decide +kernel
theorem dX7_firstAlone_64 : decode cX7_firstAlone 64 = .ok (.iinc 3 1, 3) := by decide +kernel
theorem dX7_firstAlone_67 : decode cX7_firstAlone 67 = .ok (.goto (-65), 3) := by decide +kernel
theorem dX7_firstAlone_70 : decode cX7_firstAlone 70 = .ok (.iconst (-1), 1) := by decide +kernel
theorem dX7_firstAlone_71 : decode cX7_firstAlone 71 = .ok (.ireturn, 1) := by decide +kernel
theorem dX7_stepsTo_0 : decode cX7_stepsTo 0 = .ok (.iconst 0, 1) := by decide +kernel
theorem dX7_stepsTo_1 : decode cX7_stepsTo 1 = .ok (.istore_n 2, 1) := by decide +kernel
theorem dX7_stepsTo_2 : decode cX7_stepsTo 2 = .ok (.iload_n 1, 1) := by decide +kernel
theorem dX7_stepsTo_3 : decode cX7_stepsTo 3 = .ok (.istore_n 3, 1) := by decide +kernel
theorem dX7_stepsTo_4 : decode cX7_stepsTo 4 = .ok (.iload_n 2, 1) := by decide +kernel
theorem dX7_stepsTo_5 : decode cX7_stepsTo 5 = .ok (.bipush 24, 2) := by decide +kernel
theorem dX7_stepsTo_7 : decode cX7_stepsTo 7 = .ok (.if_icmp .ge 19, 3) := by decide +kernel
theorem dX7_stepsTo_10 : decode cX7_stepsTo 10 = .ok (.iload_n 3, 1) := by decide +kernel
theorem dX7_stepsTo_11 : decode cX7_stepsTo 11 = .ok (.ifCond .le 15, 3) := by decide +kernel
theorem dX7_stepsTo_14 : decode cX7_stepsTo 14 = .ok (.aload_n 0, 1) := by decide +kernel
theorem dX7_stepsTo_15 : decode cX7_stepsTo 15 = .ok (.iload_n 3, 1) := by decide +kernel
theorem dX7_stepsTo_16 : decode cX7_stepsTo 16 = .ok (.invokevirtual 105, 3) := by decide +kernel
theorem dX7_stepsTo_19 : decode cX7_stepsTo 19 = .ok (.istore_n 3, 1) := by decide +kernel
theorem dX7_stepsTo_20 : decode cX7_stepsTo 20 = .ok (.iinc 2 1, 3) := by decide +kernel
theorem dX7_stepsTo_23 : decode cX7_stepsTo 23 = .ok (.goto (-19), 3) := by decide +kernel
theorem dX7_stepsTo_26 : decode cX7_stepsTo 26 = .ok (.iload_n 2, 1) := by decide +kernel
theorem dX7_stepsTo_27 : decode cX7_stepsTo 27 = .ok (.ireturn, 1) := by decide +kernel
theorem dX7_stepAt_0 : decode cX7_stepAt 0 = .ok (.iload_n 1, 1) := by decide +kernel
theorem dX7_stepAt_1 : decode cX7_stepAt 1 = .ok (.istore_n 3, 1) := by decide +kernel
theorem dX7_stepAt_2 : decode cX7_stepAt 2 = .ok (.aload_n 0, 1) := by decide +kernel
theorem dX7_stepAt_3 : decode cX7_stepAt 3 = .ok (.iload_n 1, 1) := by decide +kernel
theorem dX7_stepAt_4 : decode cX7_stepAt 4 = .ok (.invokevirtual 108, 3) := by decide +kernel
theorem dX7_stepAt_7 : decode cX7_stepAt 7 = .ok (.iconst 1, 1) := by decide +kernel
theorem dX7_stepAt_8 : decode cX7_stepAt 8 = .ok (.isub, 1) := by decide +kernel
theorem dX7_stepAt_9 : decode cX7_stepAt 9 = .ok (.istore 4, 2) := by decide +kernel
theorem dX7_stepAt_11 : decode cX7_stepAt 11 = .ok (.iload 4, 2) := by decide +kernel
theorem dX7_stepAt_13 : decode cX7_stepAt 13 = .ok (.iload_n 2, 1) := by decide +kernel
theorem dX7_stepAt_14 : decode cX7_stepAt 14 = .ok (.if_icmp .le 15, 3) := by decide +kernel
theorem dX7_stepAt_17 : decode cX7_stepAt 17 = .ok (.aload_n 0, 1) := by decide +kernel
theorem dX7_stepAt_18 : decode cX7_stepAt 18 = .ok (.iload_n 3, 1) := by decide +kernel
theorem dX7_stepAt_19 : decode cX7_stepAt 19 = .ok (.invokevirtual 105, 3) := by decide +kernel
theorem dX7_stepAt_22 : decode cX7_stepAt 22 = .ok (.istore_n 3, 1) := by decide +kernel
theorem dX7_stepAt_23 : decode cX7_stepAt 23 = .ok (.iinc 4 (-1), 3) := by decide +kernel
theorem dX7_stepAt_26 : decode cX7_stepAt 26 = .ok (.goto (-15), 3) := by decide +kernel
theorem dX7_stepAt_29 : decode cX7_stepAt 29 = .ok (.aload_n 0, 1) := by decide +kernel
theorem dX7_stepAt_30 : decode cX7_stepAt 30 = .ok (.aload_n 0, 1) := by decide +kernel
theorem dX7_stepAt_31 : decode cX7_stepAt 31 = .ok (.aload_n 0, 1) := by decide +kernel
theorem dX7_stepAt_32 : decode cX7_stepAt 32 = .ok (.iload_n 3, 1) := by decide +kernel
theorem dX7_stepAt_33 : decode cX7_stepAt 33 = .ok (.invokevirtual 105, 3) := by decide +kernel
theorem dX7_stepAt_36 : decode cX7_stepAt 36 = .ok (.invokevirtual 70, 3) := by decide +kernel
theorem dX7_stepAt_39 : decode cX7_stepAt 39 = .ok (.aload_n 0, 1) := by decide +kernel
theorem dX7_stepAt_40 : decode cX7_stepAt 40 = .ok (.iload_n 3, 1) := by decide +kernel
theorem dX7_stepAt_41 : decode cX7_stepAt 41 = .ok (.invokevirtual 70, 3) := by decide +kernel
theorem dX7_stepAt_44 : decode cX7_stepAt 44 = .ok (.invokevirtual 111, 3) := by decide +kernel
theorem dX7_stepAt_47 : decode cX7_stepAt 47 = .ok (.ireturn, 1) := by decide +kernel
theorem dX7_moveBetween_0 : decode cX7_moveBetween 0 = .ok (.iconst 0, 1) := by decide +kernel
theorem dX7_moveBetween_1 : decode cX7_moveBetween 1 = .ok (.istore_n 3, 1) := by decide +kernel
theorem dX7_moveBetween_2 : decode cX7_moveBetween 2 = .ok (.iload_n 3, 1) := by decide +kernel
theorem dX7_moveBetween_3 : decode cX7_moveBetween 3 = .ok (.iconst 2, 1) := by decide +kernel
theorem dX7_moveBetween_4 : decode cX7_moveBetween 4 = .ok (.if_icmp .ge 57, 3) := by decide +kernel
theorem dX7_moveBetween_7 : decode cX7_moveBetween 7 = .ok (.iconst 0, 1) := by decide +kernel
theorem dX7_moveBetween_8 : decode cX7_moveBetween 8 = .ok (.istore 4, 2) := by decide +kernel
theorem dX7_moveBetween_10 : decode cX7_moveBetween 10 = .ok (.iload 4, 2) := by decide +kernel
theorem dX7_moveBetween_12 : decode cX7_moveBetween 12 = .ok (.aload_n 0, 1) := by decide +kernel
theorem dX7_moveBetween_13 : decode cX7_moveBetween 13 = .ok (.getfield 18, 3) := by decide +kernel
theorem dX7_moveBetween_16 : decode cX7_moveBetween 16 = .ok (.getfield 78, 3) := by decide +kernel
theorem dX7_moveBetween_19 : decode cX7_moveBetween 19 = .ok (.if_icmp .ge 36, 3) := by decide +kernel
theorem dX7_moveBetween_22 : decode cX7_moveBetween 22 = .ok (.aload_n 0, 1) := by decide +kernel
theorem dX7_moveBetween_23 : decode cX7_moveBetween 23 = .ok (.getfield 18, 3) := by decide +kernel
theorem dX7_moveBetween_26 : decode cX7_moveBetween 26 = .ok (.iload_n 1, 1) := by decide +kernel
theorem dX7_moveBetween_27 : decode cX7_moveBetween 27 = .ok (.aload_n 0, 1) := by decide +kernel
theorem dX7_moveBetween_28 : decode cX7_moveBetween 28 = .ok (.getfield 43, 3) := by decide +kernel
theorem dX7_moveBetween_31 : decode cX7_moveBetween 31 = .ok (.iload_n 3, 1) := by decide +kernel
theorem dX7_moveBetween_32 : decode cX7_moveBetween 32 = .ok (.iload 4, 2) := by decide +kernel
theorem dX7_moveBetween_34 : decode cX7_moveBetween 34 = .ok (.invokevirtual 114, 3) := by decide +kernel
theorem dX7_moveBetween_37 : decode cX7_moveBetween 37 = .ok (.iload_n 2, 1) := by decide +kernel
theorem dX7_moveBetween_38 : decode cX7_moveBetween 38 = .ok (.if_icmp .ne 11, 3) := by decide +kernel
theorem dX7_moveBetween_41 : decode cX7_moveBetween 41 = .ok (.bipush 10, 2) := by decide +kernel
theorem dX7_moveBetween_43 : decode cX7_moveBetween 43 = .ok (.iload_n 3, 1) := by decide +kernel
theorem dX7_moveBetween_44 : decode cX7_moveBetween 44 = .ok (.imul, 1) := by decide +kernel
theorem dX7_moveBetween_45 : decode cX7_moveBetween 45 = .ok (.iload 4, 2) := by decide +kernel
theorem dX7_moveBetween_47 : decode cX7_moveBetween 47 = .ok (.iadd, 1) := by decide +kernel
theorem dX7_moveBetween_48 : decode cX7_moveBetween 48 = .ok (.ireturn, 1) := by decide +kernel
theorem dX7_moveBetween_49 : decode cX7_moveBetween 49 = .ok (.iinc 4 1, 3) := by decide +kernel
theorem dX7_moveBetween_52 : decode cX7_moveBetween 52 = .ok (.goto (-42), 3) := by decide +kernel
theorem dX7_moveBetween_55 : decode cX7_moveBetween 55 = .ok (.iinc 3 1, 3) := by decide +kernel
theorem dX7_moveBetween_58 : decode cX7_moveBetween 58 = .ok (.goto (-56), 3) := by decide +kernel
theorem dX7_moveBetween_61 : decode cX7_moveBetween 61 = .ok (.bipush 20, 2) := by decide +kernel
theorem dX7_moveBetween_63 : decode cX7_moveBetween 63 = .ok (.ireturn, 1) := by decide +kernel
theorem dX7_fewestTellings_0 : decode cX7_fewestTellings 0 = .ok (.aload_n 0, 1) := by decide +kernel
theorem dX7_fewestTellings_1 : decode cX7_fewestTellings 1 = .ok (.aload_n 1, 1) := by decide +kernel
theorem dX7_fewestTellings_2 : decode cX7_fewestTellings 2 = .ok (.aload_n 2, 1) := by decide +kernel
theorem dX7_fewestTellings_3 : decode cX7_fewestTellings 3 = .ok (.invokevirtual 53, 3) := by decide +kernel
theorem dX7_fewestTellings_6 : decode cX7_fewestTellings 6 = .ok (.aload_n 0, 1) := by decide +kernel
theorem dX7_fewestTellings_7 : decode cX7_fewestTellings 7 = .ok (.aload_n 0, 1) := by decide +kernel
theorem dX7_fewestTellings_8 : decode cX7_fewestTellings 8 = .ok (.getfield 35, 3) := by decide +kernel
theorem dX7_fewestTellings_11 : decode cX7_fewestTellings 11 = .ok (.invokevirtual 117, 3) := by decide +kernel
theorem dX7_fewestTellings_14 : decode cX7_fewestTellings 14 = .ok (.iconst 0, 1) := by decide +kernel
theorem dX7_fewestTellings_15 : decode cX7_fewestTellings 15 = .ok (.istore 5, 2) := by decide +kernel
theorem dX7_fewestTellings_17 : decode cX7_fewestTellings 17 = .ok (.iconst 0, 1) := by decide +kernel
theorem dX7_fewestTellings_18 : decode cX7_fewestTellings 18 = .ok (.istore 6, 2) := by decide +kernel
theorem dX7_fewestTellings_20 : decode cX7_fewestTellings 20 = .ok (.iload 6, 2) := by decide +kernel
theorem dX7_fewestTellings_22 : decode cX7_fewestTellings 22 = .ok (.aload_n 0, 1) := by decide +kernel
theorem dX7_fewestTellings_23 : decode cX7_fewestTellings 23 = .ok (.getfield 9, 3) := by decide +kernel
theorem dX7_fewestTellings_26 : decode cX7_fewestTellings 26 = .ok (.arraylength, 1) := by decide +kernel
theorem dX7_fewestTellings_27 : decode cX7_fewestTellings 27 = .ok (.if_icmp .ge 77, 3) := by decide +kernel
theorem dX7_fewestTellings_30 : decode cX7_fewestTellings 30 = .ok (.iload 5, 2) := by decide +kernel
theorem dX7_fewestTellings_32 : decode cX7_fewestTellings 32 = .ok (.aload_n 0, 1) := by decide +kernel
theorem dX7_fewestTellings_33 : decode cX7_fewestTellings 33 = .ok (.getfield 28, 3) := by decide +kernel
theorem dX7_fewestTellings_36 : decode cX7_fewestTellings 36 = .ok (.if_icmp .ge 68, 3) := by decide +kernel
theorem dX7_fewestTellings_39 : decode cX7_fewestTellings 39 = .ok (.aload_n 0, 1) := by decide +kernel
theorem dX7_fewestTellings_40 : decode cX7_fewestTellings 40 = .ok (.getfield 28, 3) := by decide +kernel
theorem dX7_fewestTellings_43 : decode cX7_fewestTellings 43 = .ok (.istore 7, 2) := by decide +kernel
theorem dX7_fewestTellings_45 : decode cX7_fewestTellings 45 = .ok (.iload 5, 2) := by decide +kernel
theorem dX7_fewestTellings_47 : decode cX7_fewestTellings 47 = .ok (.istore 8, 2) := by decide +kernel
theorem dX7_fewestTellings_49 : decode cX7_fewestTellings 49 = .ok (.iload 8, 2) := by decide +kernel
theorem dX7_fewestTellings_51 : decode cX7_fewestTellings 51 = .ok (.iload 7, 2) := by decide +kernel
theorem dX7_fewestTellings_53 : decode cX7_fewestTellings 53 = .ok (.if_icmp .ge 41, 3) := by decide +kernel
theorem dX7_fewestTellings_56 : decode cX7_fewestTellings 56 = .ok (.aload_n 0, 1) := by decide +kernel
theorem dX7_fewestTellings_57 : decode cX7_fewestTellings 57 = .ok (.getfield 18, 3) := by decide +kernel
theorem dX7_fewestTellings_60 : decode cX7_fewestTellings 60 = .ok (.aload_n 0, 1) := by decide +kernel
theorem dX7_fewestTellings_61 : decode cX7_fewestTellings 61 = .ok (.iload 8, 2) := by decide +kernel
theorem dX7_fewestTellings_63 : decode cX7_fewestTellings 63 = .ok (.invokevirtual 70, 3) := by decide +kernel
theorem dX7_fewestTellings_66 : decode cX7_fewestTellings 66 = .ok (.iload_n 3, 1) := by decide +kernel
theorem dX7_fewestTellings_67 : decode cX7_fewestTellings 67 = .ok (.iload 4, 2) := by decide +kernel
theorem dX7_fewestTellings_69 : decode cX7_fewestTellings 69 = .ok (.invokevirtual 97, 3) := by decide +kernel
theorem dX7_fewestTellings_72 : decode cX7_fewestTellings 72 = .ok (.ifCond .eq 6, 3) := by decide +kernel
theorem dX7_fewestTellings_75 : decode cX7_fewestTellings 75 = .ok (.iload 6, 2) := by decide +kernel
theorem dX7_fewestTellings_77 : decode cX7_fewestTellings 77 = .ok (.ireturn, 1) := by decide +kernel
theorem dX7_fewestTellings_78 : decode cX7_fewestTellings 78 = .ok (.aload_n 0, 1) := by decide +kernel
theorem dX7_fewestTellings_79 : decode cX7_fewestTellings 79 = .ok (.aload_n 0, 1) := by decide +kernel
theorem dX7_fewestTellings_80 : decode cX7_fewestTellings 80 = .ok (.iload 8, 2) := by decide +kernel
theorem dX7_fewestTellings_82 : decode cX7_fewestTellings 82 = .ok (.invokevirtual 70, 3) := by decide +kernel
theorem dX7_fewestTellings_85 : decode cX7_fewestTellings 85 = .ok (.invokevirtual 120, 3) := by decide +kernel
theorem dX7_fewestTellings_88 : decode cX7_fewestTellings 88 = .ok (.iinc 8 1, 3) := by decide +kernel
theorem dX7_fewestTellings_91 : decode cX7_fewestTellings 91 = .ok (.goto (-42), 3) := by decide +kernel
theorem dX7_fewestTellings_94 : decode cX7_fewestTellings 94 = .ok (.iload 7, 2) := by decide +kernel
theorem dX7_fewestTellings_96 : decode cX7_fewestTellings 96 = .ok (.istore 5, 2) := by decide +kernel
theorem dX7_fewestTellings_98 : decode cX7_fewestTellings 98 = .ok (.iinc 6 1, 3) := by decide +kernel
theorem dX7_fewestTellings_101 : decode cX7_fewestTellings 101 = .ok (.goto (-81), 3) := by decide +kernel
theorem dX7_fewestTellings_104 : decode cX7_fewestTellings 104 = .ok (.iconst (-1), 1) := by decide +kernel
theorem dX7_fewestTellings_105 : decode cX7_fewestTellings 105 = .ok (.ireturn, 1) := by decide +kernel
theorem dX7_openTellings_0 : decode cX7_openTellings 0 = .ok (.iconst 0, 1) := by decide +kernel
theorem dX7_openTellings_1 : decode cX7_openTellings 1 = .ok (.istore_n 2, 1) := by decide +kernel
theorem dX7_openTellings_2 : decode cX7_openTellings 2 = .ok (.iload_n 2, 1) := by decide +kernel
theorem dX7_openTellings_3 : decode cX7_openTellings 3 = .ok (.iconst 2, 1) := by decide +kernel
theorem dX7_openTellings_4 : decode cX7_openTellings 4 = .ok (.if_icmp .ge 60, 3) := by decide +kernel
theorem dX7_openTellings_7 : decode cX7_openTellings 7 = .ok (.aload_n 0, 1) := by decide +kernel
theorem dX7_openTellings_8 : decode cX7_openTellings 8 = .ok (.getfield 18, 3) := by decide +kernel
theorem dX7_openTellings_11 : decode cX7_openTellings 11 = .ok (.iload_n 1, 1) := by decide +kernel
theorem dX7_openTellings_12 : decode cX7_openTellings 12 = .ok (.aload_n 0, 1) := by decide +kernel
theorem dX7_openTellings_13 : decode cX7_openTellings 13 = .ok (.getfield 43, 3) := by decide +kernel
theorem dX7_openTellings_16 : decode cX7_openTellings 16 = .ok (.iload_n 2, 1) := by decide +kernel
theorem dX7_openTellings_17 : decode cX7_openTellings 17 = .ok (.invokevirtual 74, 3) := by decide +kernel
theorem dX7_openTellings_20 : decode cX7_openTellings 20 = .ok (.istore_n 3, 1) := by decide +kernel
theorem dX7_openTellings_21 : decode cX7_openTellings 21 = .ok (.iconst 0, 1) := by decide +kernel
theorem dX7_openTellings_22 : decode cX7_openTellings 22 = .ok (.istore 4, 2) := by decide +kernel
theorem dX7_openTellings_24 : decode cX7_openTellings 24 = .ok (.iload 4, 2) := by decide +kernel
theorem dX7_openTellings_26 : decode cX7_openTellings 26 = .ok (.aload_n 0, 1) := by decide +kernel
theorem dX7_openTellings_27 : decode cX7_openTellings 27 = .ok (.getfield 18, 3) := by decide +kernel
theorem dX7_openTellings_30 : decode cX7_openTellings 30 = .ok (.getfield 78, 3) := by decide +kernel
theorem dX7_openTellings_33 : decode cX7_openTellings 33 = .ok (.if_icmp .ge 25, 3) := by decide +kernel
theorem dX7_openTellings_36 : decode cX7_openTellings 36 = .ok (.aload_n 0, 1) := by decide +kernel
theorem dX7_openTellings_37 : decode cX7_openTellings 37 = .ok (.aload_n 0, 1) := by decide +kernel
theorem dX7_openTellings_38 : decode cX7_openTellings 38 = .ok (.getfield 18, 3) := by decide +kernel
theorem dX7_openTellings_41 : decode cX7_openTellings 41 = .ok (.iload_n 1, 1) := by decide +kernel
theorem dX7_openTellings_42 : decode cX7_openTellings 42 = .ok (.iload_n 3, 1) := by decide +kernel
theorem dX7_openTellings_43 : decode cX7_openTellings 43 = .ok (.iload_n 2, 1) := by decide +kernel
theorem dX7_openTellings_44 : decode cX7_openTellings 44 = .ok (.iload 4, 2) := by decide +kernel
theorem dX7_openTellings_46 : decode cX7_openTellings 46 = .ok (.invokevirtual 81, 3) := by decide +kernel
theorem dX7_openTellings_49 : decode cX7_openTellings 49 = .ok (.invokevirtual 117, 3) := by decide +kernel
theorem dX7_openTellings_52 : decode cX7_openTellings 52 = .ok (.iinc 4 1, 3) := by decide +kernel
theorem dX7_openTellings_55 : decode cX7_openTellings 55 = .ok (.goto (-31), 3) := by decide +kernel
theorem dX7_openTellings_58 : decode cX7_openTellings 58 = .ok (.iinc 2 1, 3) := by decide +kernel
theorem dX7_openTellings_61 : decode cX7_openTellings 61 = .ok (.goto (-59), 3) := by decide +kernel
theorem dX7_openTellings_64 : decode cX7_openTellings 64 = .ok (.return_, 1) := by decide +kernel
theorem dX7_addWithDays_0 : decode cX7_addWithDays 0 = .ok (.iload_n 1, 1) := by decide +kernel
theorem dX7_addWithDays_1 : decode cX7_addWithDays 1 = .ok (.istore_n 2, 1) := by decide +kernel
theorem dX7_addWithDays_2 : decode cX7_addWithDays 2 = .ok (.iconst 0, 1) := by decide +kernel
theorem dX7_addWithDays_3 : decode cX7_addWithDays 3 = .ok (.istore_n 3, 1) := by decide +kernel
theorem dX7_addWithDays_4 : decode cX7_addWithDays 4 = .ok (.iload_n 3, 1) := by decide +kernel
theorem dX7_addWithDays_5 : decode cX7_addWithDays 5 = .ok (.iconst 3, 1) := by decide +kernel
theorem dX7_addWithDays_6 : decode cX7_addWithDays 6 = .ok (.if_icmp .ge 24, 3) := by decide +kernel
theorem dX7_addWithDays_9 : decode cX7_addWithDays 9 = .ok (.iload_n 2, 1) := by decide +kernel
theorem dX7_addWithDays_10 : decode cX7_addWithDays 10 = .ok (.ifCond .lt 20, 3) := by decide +kernel
theorem dX7_addWithDays_13 : decode cX7_addWithDays 13 = .ok (.aload_n 0, 1) := by decide +kernel
theorem dX7_addWithDays_14 : decode cX7_addWithDays 14 = .ok (.iconst 0, 1) := by decide +kernel
theorem dX7_addWithDays_15 : decode cX7_addWithDays 15 = .ok (.iload_n 2, 1) := by decide +kernel
theorem dX7_addWithDays_16 : decode cX7_addWithDays 16 = .ok (.invokevirtual 57, 3) := by decide +kernel
theorem dX7_addWithDays_19 : decode cX7_addWithDays 19 = .ok (.iload_n 2, 1) := by decide +kernel
theorem dX7_addWithDays_20 : decode cX7_addWithDays 20 = .ok (.invokestatic 85, 3) := by decide +kernel
theorem dX7_addWithDays_23 : decode cX7_addWithDays 23 = .ok (.istore_n 2, 1) := by decide +kernel
theorem dX7_addWithDays_24 : decode cX7_addWithDays 24 = .ok (.iinc 3 1, 3) := by decide +kernel
theorem dX7_addWithDays_27 : decode cX7_addWithDays 27 = .ok (.goto (-23), 3) := by decide +kernel
theorem dX7_addWithDays_30 : decode cX7_addWithDays 30 = .ok (.return_, 1) := by decide +kernel
theorem dX8_init_0 : decode cX8_init 0 = .ok (.aload_n 0, 1) := by decide +kernel
theorem dX8_init_1 : decode cX8_init 1 = .ok (.invokespecial 3, 3) := by decide +kernel
theorem dX8_init_4 : decode cX8_init 4 = .ok (.return_, 1) := by decide +kernel
theorem dX8_copy_0 : decode cX8_copy 0 = .ok (.aload_n 0, 1) := by decide +kernel
theorem dX8_copy_1 : decode cX8_copy 1 = .ok (.aload_n 1, 1) := by decide +kernel
theorem dX8_copy_2 : decode cX8_copy 2 = .ok (.getfield 9, 3) := by decide +kernel
theorem dX8_copy_5 : decode cX8_copy 5 = .ok (.putfield 9, 3) := by decide +kernel
theorem dX8_copy_8 : decode cX8_copy 8 = .ok (.aload_n 0, 1) := by decide +kernel
theorem dX8_copy_9 : decode cX8_copy 9 = .ok (.aload_n 1, 1) := by decide +kernel
theorem dX8_copy_10 : decode cX8_copy 10 = .ok (.getfield 15, 3) := by decide +kernel
theorem dX8_copy_13 : decode cX8_copy 13 = .ok (.putfield 15, 3) := by decide +kernel
theorem dX8_copy_16 : decode cX8_copy 16 = .ok (.return_, 1) := by decide +kernel
theorem dX8_isThere_0 : decode cX8_isThere 0 = .ok (.iload_n 1, 1) := by decide +kernel
theorem dX8_isThere_1 : decode cX8_isThere 1 = .ok (.ifCond .lt 24, 3) := by decide +kernel
theorem dX8_isThere_4 : decode cX8_isThere 4 = .ok (.iload_n 1, 1) := by decide +kernel
theorem dX8_isThere_5 : decode cX8_isThere 5 = .ok (.iconst 2, 1) := by decide +kernel
theorem dX8_isThere_6 : decode cX8_isThere 6 = .ok (.if_icmp .ge 19, 3) := by decide +kernel
theorem dX8_isThere_9 : decode cX8_isThere 9 = .ok (.iload_n 2, 1) := by decide +kernel
theorem dX8_isThere_10 : decode cX8_isThere 10 = .ok (.ifCond .lt 15, 3) := by decide +kernel
theorem dX8_isThere_13 : decode cX8_isThere 13 = .ok (.iload_n 2, 1) := by decide +kernel
theorem dX8_isThere_14 : decode cX8_isThere 14 = .ok (.aload_n 0, 1) := by decide +kernel
theorem dX8_isThere_15 : decode cX8_isThere 15 = .ok (.getfield 18, 3) := by decide +kernel
theorem dX8_isThere_18 : decode cX8_isThere 18 = .ok (.if_icmp .ge 7, 3) := by decide +kernel
theorem dX8_isThere_21 : decode cX8_isThere 21 = .ok (.iconst 1, 1) := by decide +kernel
theorem dX8_isThere_22 : decode cX8_isThere 22 = .ok (.goto 4, 3) := by decide +kernel
theorem dX8_isThere_25 : decode cX8_isThere 25 = .ok (.iconst 0, 1) := by decide +kernel
theorem dX8_isThere_26 : decode cX8_isThere 26 = .ok (.ireturn, 1) := by decide +kernel
theorem dX8_telling_0 : decode cX8_telling 0 = .ok (.aload_n 1, 1) := by decide +kernel
theorem dX8_telling_1 : decode cX8_telling 1 = .ok (.iload_n 2, 1) := by decide +kernel
theorem dX8_telling_2 : decode cX8_telling 2 = .ok (.iload_n 3, 1) := by decide +kernel
theorem dX8_telling_3 : decode cX8_telling 3 = .ok (.invokestatic 23, 3) := by decide +kernel
theorem dX8_telling_6 : decode cX8_telling 6 = .ok (.ifCond .ne 5, 3) := by decide +kernel
theorem dX8_telling_9 : decode cX8_telling 9 = .ok (.iconst 1, 1) := by decide +kernel
theorem dX8_telling_10 : decode cX8_telling 10 = .ok (.ireturn, 1) := by decide +kernel
theorem dX8_telling_11 : decode cX8_telling 11 = .ok (.aload_n 1, 1) := by decide +kernel
theorem dX8_telling_12 : decode cX8_telling 12 = .ok (.aload_n 0, 1) := by decide +kernel
theorem dX8_telling_13 : decode cX8_telling 13 = .ok (.getfield 9, 3) := by decide +kernel
theorem dX8_telling_16 : decode cX8_telling 16 = .ok (.aload_n 0, 1) := by decide +kernel
theorem dX8_telling_17 : decode cX8_telling 17 = .ok (.getfield 15, 3) := by decide +kernel
theorem dX8_telling_20 : decode cX8_telling 20 = .ok (.iload_n 2, 1) := by decide +kernel
theorem dX8_telling_21 : decode cX8_telling 21 = .ok (.iload_n 3, 1) := by decide +kernel
theorem dX8_telling_22 : decode cX8_telling 22 = .ok (.invokevirtual 27, 3) := by decide +kernel
theorem dX8_telling_25 : decode cX8_telling 25 = .ok (.istore 4, 2) := by decide +kernel
theorem dX8_telling_27 : decode cX8_telling 27 = .ok (.iload 4, 2) := by decide +kernel
theorem dX8_telling_29 : decode cX8_telling 29 = .ok (.ifCond .ge 5, 3) := by decide +kernel
theorem dX8_telling_32 : decode cX8_telling 32 = .ok (.iconst 3, 1) := by decide +kernel
theorem dX8_telling_33 : decode cX8_telling 33 = .ok (.ireturn, 1) := by decide +kernel
theorem dX8_telling_34 : decode cX8_telling 34 = .ok (.aload_n 0, 1) := by decide +kernel
theorem dX8_telling_35 : decode cX8_telling 35 = .ok (.iload 4, 2) := by decide +kernel
theorem dX8_telling_37 : decode cX8_telling 37 = .ok (.putfield 9, 3) := by decide +kernel
theorem dX8_telling_40 : decode cX8_telling 40 = .ok (.iconst 0, 1) := by decide +kernel
theorem dX8_telling_41 : decode cX8_telling 41 = .ok (.ireturn, 1) := by decide +kernel
theorem dX8_forgetting_0 : decode cX8_forgetting 0 = .ok (.aload_n 1, 1) := by decide +kernel
theorem dX8_forgetting_1 : decode cX8_forgetting 1 = .ok (.iload_n 2, 1) := by decide +kernel
theorem dX8_forgetting_2 : decode cX8_forgetting 2 = .ok (.iload_n 3, 1) := by decide +kernel
theorem dX8_forgetting_3 : decode cX8_forgetting 3 = .ok (.invokestatic 23, 3) := by decide +kernel
theorem dX8_forgetting_6 : decode cX8_forgetting 6 = .ok (.ifCond .ne 5, 3) := by decide +kernel
theorem dX8_forgetting_9 : decode cX8_forgetting 9 = .ok (.iconst 1, 1) := by decide +kernel
theorem dX8_forgetting_10 : decode cX8_forgetting 10 = .ok (.ireturn, 1) := by decide +kernel
theorem dX8_forgetting_11 : decode cX8_forgetting 11 = .ok (.aload_n 0, 1) := by decide +kernel
theorem dX8_forgetting_12 : decode cX8_forgetting 12 = .ok (.getfield 9, 3) := by decide +kernel
theorem dX8_forgetting_15 : decode cX8_forgetting 15 = .ok (.iload_n 2, 1) := by decide +kernel
theorem dX8_forgetting_16 : decode cX8_forgetting 16 = .ok (.iload_n 3, 1) := by decide +kernel
theorem dX8_forgetting_17 : decode cX8_forgetting 17 = .ok (.invokestatic 31, 3) := by decide +kernel
theorem dX8_forgetting_20 : decode cX8_forgetting 20 = .ok (.ifCond .ne 5, 3) := by decide +kernel
theorem dX8_forgetting_23 : decode cX8_forgetting 23 = .ok (.iconst 2, 1) := by decide +kernel
theorem dX8_forgetting_24 : decode cX8_forgetting 24 = .ok (.ireturn, 1) := by decide +kernel
theorem dX8_forgetting_25 : decode cX8_forgetting 25 = .ok (.aload_n 0, 1) := by decide +kernel
theorem dX8_forgetting_26 : decode cX8_forgetting 26 = .ok (.dup, 1) := by decide +kernel
theorem dX8_forgetting_27 : decode cX8_forgetting 27 = .ok (.getfield 9, 3) := by decide +kernel
theorem dX8_forgetting_30 : decode cX8_forgetting 30 = .ok (.iconst 3, 1) := by decide +kernel
theorem dX8_forgetting_31 : decode cX8_forgetting 31 = .ok (.iconst 4, 1) := by decide +kernel
theorem dX8_forgetting_32 : decode cX8_forgetting 32 = .ok (.iload_n 3, 1) := by decide +kernel
theorem dX8_forgetting_33 : decode cX8_forgetting 33 = .ok (.imul, 1) := by decide +kernel
theorem dX8_forgetting_34 : decode cX8_forgetting 34 = .ok (.iconst 2, 1) := by decide +kernel
theorem dX8_forgetting_35 : decode cX8_forgetting 35 = .ok (.iload_n 2, 1) := by decide +kernel
theorem dX8_forgetting_36 : decode cX8_forgetting 36 = .ok (.imul, 1) := by decide +kernel
theorem dX8_forgetting_37 : decode cX8_forgetting 37 = .ok (.iadd, 1) := by decide +kernel
theorem dX8_forgetting_38 : decode cX8_forgetting 38 = .ok (.ishl, 1) := by decide +kernel
theorem dX8_forgetting_39 : decode cX8_forgetting 39 = .ok (.iconst (-1), 1) := by decide +kernel
theorem dX8_forgetting_40 : decode cX8_forgetting 40 = .ok (.ixor, 1) := by decide +kernel
theorem dX8_forgetting_41 : decode cX8_forgetting 41 = .ok (.iand, 1) := by decide +kernel
theorem dX8_forgetting_42 : decode cX8_forgetting 42 = .ok (.putfield 9, 3) := by decide +kernel
theorem dX8_forgetting_45 : decode cX8_forgetting 45 = .ok (.iconst 0, 1) := by decide +kernel
theorem dX8_forgetting_46 : decode cX8_forgetting 46 = .ok (.ireturn, 1) := by decide +kernel
theorem dX8_bonding_0 : decode cX8_bonding 0 = .ok (.iload_n 1, 1) := by decide +kernel
theorem dX8_bonding_1 : decode cX8_bonding 1 = .ok (.ifCond .lt 9, 3) := by decide +kernel
theorem dX8_bonding_4 : decode cX8_bonding 4 = .ok (.iload_n 1, 1) := by decide +kernel
theorem dX8_bonding_5 : decode cX8_bonding 5 = .ok (.bipush 10, 2) := by decide +kernel
theorem dX8_bonding_7 : decode cX8_bonding 7 = .ok (.if_icmp .lt 5, 3) := by decide +kernel
theorem dX8_bonding_10 : decode cX8_bonding 10 = .ok (.iconst 1, 1) := by decide +kernel
theorem dX8_bonding_11 : decode cX8_bonding 11 = .ok (.ireturn, 1) := by decide +kernel
theorem dX8_bonding_12 : decode cX8_bonding 12 = .ok (.aload_n 0, 1) := by decide +kernel
theorem dX8_bonding_13 : decode cX8_bonding 13 = .ok (.iload_n 1, 1) := by decide +kernel
theorem dX8_bonding_14 : decode cX8_bonding 14 = .ok (.putfield 15, 3) := by decide +kernel
theorem dX8_bonding_17 : decode cX8_bonding 17 = .ok (.iconst 0, 1) := by decide +kernel
theorem dX8_bonding_18 : decode cX8_bonding 18 = .ok (.ireturn, 1) := by decide +kernel
theorem dX8_deed_0 : decode cX8_deed 0 = .ok (.lload_n 2, 1) := by decide +kernel
theorem dX8_deed_1 : decode cX8_deed 1 = .ok (.ldc2_w 35, 3) := by decide +kernel
theorem dX8_deed_4 : decode cX8_deed 4 = .ok (.lcmp, 1) := by decide +kernel
theorem dX8_deed_5 : decode cX8_deed 5 = .ok (.ifCond .ne 16, 3) := by decide +kernel
theorem dX8_deed_8 : decode cX8_deed 8 = .ok (.aload_n 0, 1) := by decide +kernel
theorem dX8_deed_9 : decode cX8_deed 9 = .ok (.aload_n 0, 1) := by decide +kernel
theorem dX8_deed_10 : decode cX8_deed 10 = .ok (.getfield 9, 3) := by decide +kernel
theorem dX8_deed_13 : decode cX8_deed 13 = .ok (.invokestatic 37, 3) := by decide +kernel
theorem dX8_deed_16 : decode cX8_deed 16 = .ok (.putfield 9, 3) := by decide +kernel
theorem dX8_deed_19 : decode cX8_deed 19 = .ok (.iconst 0, 1) := by decide +kernel
theorem dX8_deed_20 : decode cX8_deed 20 = .ok (.ireturn, 1) := by decide +kernel
theorem dX8_deed_21 : decode cX8_deed 21 = .ok (.lload_n 2, 1) := by decide +kernel
theorem dX8_deed_22 : decode cX8_deed 22 = .ok (.lconst 0, 1) := by decide +kernel
theorem dX8_deed_23 : decode cX8_deed 23 = .ok (.lcmp, 1) := by decide +kernel
theorem dX8_deed_24 : decode cX8_deed 24 = .ok (.ifCond .lt 27, 3) := by decide +kernel
theorem dX8_deed_27 : decode cX8_deed 27 = .ok (.lload_n 2, 1) := by decide +kernel
theorem dX8_deed_28 : decode cX8_deed 28 = .ok (.ldc2_w 41, 3) := by decide +kernel
theorem dX8_deed_31 : decode cX8_deed 31 = .ok (.lcmp, 1) := by decide +kernel
theorem dX8_deed_32 : decode cX8_deed 32 = .ok (.ifCond .ge 19, 3) := by decide +kernel
theorem dX8_deed_35 : decode cX8_deed 35 = .ok (.aload_n 0, 1) := by decide +kernel
theorem dX8_deed_36 : decode cX8_deed 36 = .ok (.aload_n 1, 1) := by decide +kernel
theorem dX8_deed_37 : decode cX8_deed 37 = .ok (.lload_n 2, 1) := by decide +kernel
theorem dX8_deed_38 : decode cX8_deed 38 = .ok (.l2i, 1) := by decide +kernel
theorem dX8_deed_39 : decode cX8_deed 39 = .ok (.bipush 10, 2) := by decide +kernel
theorem dX8_deed_41 : decode cX8_deed 41 = .ok (.idiv, 1) := by decide +kernel
theorem dX8_deed_42 : decode cX8_deed 42 = .ok (.lload_n 2, 1) := by decide +kernel
theorem dX8_deed_43 : decode cX8_deed 43 = .ok (.l2i, 1) := by decide +kernel
theorem dX8_deed_44 : decode cX8_deed 44 = .ok (.bipush 10, 2) := by decide +kernel
theorem dX8_deed_46 : decode cX8_deed 46 = .ok (.irem, 1) := by decide +kernel
theorem dX8_deed_47 : decode cX8_deed 47 = .ok (.invokevirtual 43, 3) := by decide +kernel
theorem dX8_deed_50 : decode cX8_deed 50 = .ok (.ireturn, 1) := by decide +kernel
theorem dX8_deed_51 : decode cX8_deed 51 = .ok (.lload_n 2, 1) := by decide +kernel
theorem dX8_deed_52 : decode cX8_deed 52 = .ok (.ldc2_w 47, 3) := by decide +kernel
theorem dX8_deed_55 : decode cX8_deed 55 = .ok (.lcmp, 1) := by decide +kernel
theorem dX8_deed_56 : decode cX8_deed 56 = .ok (.ifCond .lt 30, 3) := by decide +kernel
theorem dX8_deed_59 : decode cX8_deed 59 = .ok (.lload_n 2, 1) := by decide +kernel
theorem dX8_deed_60 : decode cX8_deed 60 = .ok (.ldc2_w 49, 3) := by decide +kernel
theorem dX8_deed_63 : decode cX8_deed 63 = .ok (.lcmp, 1) := by decide +kernel
theorem dX8_deed_64 : decode cX8_deed 64 = .ok (.ifCond .ge 22, 3) := by decide +kernel
theorem dX8_deed_67 : decode cX8_deed 67 = .ok (.aload_n 0, 1) := by decide +kernel
theorem dX8_deed_68 : decode cX8_deed 68 = .ok (.aload_n 1, 1) := by decide +kernel
theorem dX8_deed_69 : decode cX8_deed 69 = .ok (.lload_n 2, 1) := by decide +kernel
theorem dX8_deed_70 : decode cX8_deed 70 = .ok (.l2i, 1) := by decide +kernel
theorem dX8_deed_71 : decode cX8_deed 71 = .ok (.bipush 10, 2) := by decide +kernel
theorem dX8_deed_73 : decode cX8_deed 73 = .ok (.idiv, 1) := by decide +kernel
theorem dX8_deed_74 : decode cX8_deed 74 = .ok (.bipush 10, 2) := by decide +kernel
theorem dX8_deed_76 : decode cX8_deed 76 = .ok (.isub, 1) := by decide +kernel
theorem dX8_deed_77 : decode cX8_deed 77 = .ok (.lload_n 2, 1) := by decide +kernel
theorem dX8_deed_78 : decode cX8_deed 78 = .ok (.l2i, 1) := by decide +kernel
theorem dX8_deed_79 : decode cX8_deed 79 = .ok (.bipush 10, 2) := by decide +kernel
theorem dX8_deed_81 : decode cX8_deed 81 = .ok (.irem, 1) := by decide +kernel
theorem dX8_deed_82 : decode cX8_deed 82 = .ok (.invokevirtual 51, 3) := by decide +kernel
theorem dX8_deed_85 : decode cX8_deed 85 = .ok (.ireturn, 1) := by decide +kernel
theorem dX8_deed_86 : decode cX8_deed 86 = .ok (.lload_n 2, 1) := by decide +kernel
theorem dX8_deed_87 : decode cX8_deed 87 = .ok (.ldc2_w 54, 3) := by decide +kernel
theorem dX8_deed_90 : decode cX8_deed 90 = .ok (.lcmp, 1) := by decide +kernel
theorem dX8_deed_91 : decode cX8_deed 91 = .ok (.ifCond .lt 24, 3) := by decide +kernel
theorem dX8_deed_94 : decode cX8_deed 94 = .ok (.lload_n 2, 1) := by decide +kernel
theorem dX8_deed_95 : decode cX8_deed 95 = .ok (.ldc2_w 56, 3) := by decide +kernel
theorem dX8_deed_98 : decode cX8_deed 98 = .ok (.lcmp, 1) := by decide +kernel
theorem dX8_deed_99 : decode cX8_deed 99 = .ok (.ifCond .ge 16, 3) := by decide +kernel
theorem dX8_deed_102 : decode cX8_deed 102 = .ok (.aload_n 0, 1) := by decide +kernel
theorem dX8_deed_103 : decode cX8_deed 103 = .ok (.lload_n 2, 1) := by decide +kernel
theorem dX8_deed_104 : decode cX8_deed 104 = .ok (.l2i, 1) := by decide +kernel
theorem dX8_deed_105 : decode cX8_deed 105 = .ok (.sipush 200, 3) := by decide +kernel
theorem dX8_deed_108 : decode cX8_deed 108 = .ok (.isub, 1) := by decide +kernel
theorem dX8_deed_109 : decode cX8_deed 109 = .ok (.invokevirtual 58, 3) := by decide +kernel
theorem dX8_deed_112 : decode cX8_deed 112 = .ok (.goto 4, 3) := by decide +kernel
theorem dX8_deed_115 : decode cX8_deed 115 = .ok (.iconst 1, 1) := by decide +kernel
theorem dX8_deed_116 : decode cX8_deed 116 = .ok (.ireturn, 1) := by decide +kernel
theorem dX8_deeds_0 : decode cX8_deeds 0 = .ok (.aload_n 0, 1) := by decide +kernel
theorem dX8_deeds_1 : decode cX8_deeds 1 = .ok (.iconst 0, 1) := by decide +kernel
theorem dX8_deeds_2 : decode cX8_deeds 2 = .ok (.putfield 61, 3) := by decide +kernel
theorem dX8_deeds_5 : decode cX8_deeds 5 = .ok (.iconst 0, 1) := by decide +kernel
theorem dX8_deeds_6 : decode cX8_deeds 6 = .ok (.istore_n 3, 1) := by decide +kernel
theorem dX8_deeds_7 : decode cX8_deeds 7 = .ok (.iload_n 3, 1) := by decide +kernel
theorem dX8_deeds_8 : decode cX8_deeds 8 = .ok (.aload_n 2, 1) := by decide +kernel
theorem dX8_deeds_9 : decode cX8_deeds 9 = .ok (.getfield 64, 3) := by decide +kernel
theorem dX8_deeds_12 : decode cX8_deeds 12 = .ok (.if_icmp .ge 32, 3) := by decide +kernel
theorem dX8_deeds_15 : decode cX8_deeds 15 = .ok (.aload_n 0, 1) := by decide +kernel
theorem dX8_deeds_16 : decode cX8_deeds 16 = .ok (.aload_n 0, 1) := by decide +kernel
theorem dX8_deeds_17 : decode cX8_deeds 17 = .ok (.aload_n 1, 1) := by decide +kernel
theorem dX8_deeds_18 : decode cX8_deeds 18 = .ok (.aload_n 2, 1) := by decide +kernel
theorem dX8_deeds_19 : decode cX8_deeds 19 = .ok (.iload_n 3, 1) := by decide +kernel
theorem dX8_deeds_20 : decode cX8_deeds 20 = .ok (.invokevirtual 69, 3) := by decide +kernel
theorem dX8_deeds_23 : decode cX8_deeds 23 = .ok (.invokevirtual 73, 3) := by decide +kernel
theorem dX8_deeds_26 : decode cX8_deeds 26 = .ok (.putfield 61, 3) := by decide +kernel
theorem dX8_deeds_29 : decode cX8_deeds 29 = .ok (.aload_n 0, 1) := by decide +kernel
theorem dX8_deeds_30 : decode cX8_deeds 30 = .ok (.getfield 61, 3) := by decide +kernel
theorem dX8_deeds_33 : decode cX8_deeds 33 = .ok (.ifCond .eq 5, 3) := by decide +kernel
theorem dX8_deeds_36 : decode cX8_deeds 36 = .ok (.iload_n 3, 1) := by decide +kernel
theorem dX8_deeds_37 : decode cX8_deeds 37 = .ok (.ireturn, 1) := by decide +kernel
theorem dX8_deeds_38 : decode cX8_deeds 38 = .ok (.iinc 3 1, 3) := by decide +kernel
theorem dX8_deeds_41 : decode cX8_deeds 41 = .ok (.goto (-34), 3) := by decide +kernel
theorem dX8_deeds_44 : decode cX8_deeds 44 = .ok (.iconst 0, 1) := by decide +kernel
theorem dX8_deeds_45 : decode cX8_deeds 45 = .ok (.aload_n 2, 1) := by decide +kernel
theorem dX8_deeds_46 : decode cX8_deeds 46 = .ok (.getfield 64, 3) := by decide +kernel
theorem dX8_deeds_49 : decode cX8_deeds 49 = .ok (.invokestatic 77, 3) := by decide +kernel
theorem dX8_deeds_52 : decode cX8_deeds 52 = .ok (.ireturn, 1) := by decide +kernel
theorem dX8_drawnDeeds_0 : decode cX8_drawnDeeds 0 = .ok (.aload_n 0, 1) := by decide +kernel
theorem dX8_drawnDeeds_1 : decode cX8_drawnDeeds 1 = .ok (.iload_n 2, 1) := by decide +kernel
theorem dX8_drawnDeeds_2 : decode cX8_drawnDeeds 2 = .ok (.putfield 83, 3) := by decide +kernel
theorem dX8_drawnDeeds_5 : decode cX8_drawnDeeds 5 = .ok (.iconst 0, 1) := by decide +kernel
theorem dX8_drawnDeeds_6 : decode cX8_drawnDeeds 6 = .ok (.istore 4, 2) := by decide +kernel
theorem dX8_drawnDeeds_8 : decode cX8_drawnDeeds 8 = .ok (.iconst 0, 1) := by decide +kernel
theorem dX8_drawnDeeds_9 : decode cX8_drawnDeeds 9 = .ok (.istore 5, 2) := by decide +kernel
theorem dX8_drawnDeeds_11 : decode cX8_drawnDeeds 11 = .ok (.iload 5, 2) := by decide +kernel
theorem dX8_drawnDeeds_13 : decode cX8_drawnDeeds 13 = .ok (.iload_n 3, 1) := by decide +kernel
theorem dX8_drawnDeeds_14 : decode cX8_drawnDeeds 14 = .ok (.if_icmp .ge 25, 3) := by decide +kernel
theorem dX8_drawnDeeds_17 : decode cX8_drawnDeeds 17 = .ok (.aload_n 0, 1) := by decide +kernel
theorem dX8_drawnDeeds_18 : decode cX8_drawnDeeds 18 = .ok (.aload_n 1, 1) := by decide +kernel
theorem dX8_drawnDeeds_19 : decode cX8_drawnDeeds 19 = .ok (.aload_n 0, 1) := by decide +kernel
theorem dX8_drawnDeeds_20 : decode cX8_drawnDeeds 20 = .ok (.invokevirtual 86, 3) := by decide +kernel
theorem dX8_drawnDeeds_23 : decode cX8_drawnDeeds 23 = .ok (.i2l, 1) := by decide +kernel
theorem dX8_drawnDeeds_24 : decode cX8_drawnDeeds 24 = .ok (.invokevirtual 73, 3) := by decide +kernel
theorem dX8_drawnDeeds_27 : decode cX8_drawnDeeds 27 = .ok (.ifCond .ne 6, 3) := by decide +kernel
theorem dX8_drawnDeeds_30 : decode cX8_drawnDeeds 30 = .ok (.iinc 4 1, 3) := by decide +kernel
theorem dX8_drawnDeeds_33 : decode cX8_drawnDeeds 33 = .ok (.iinc 5 1, 3) := by decide +kernel
theorem dX8_drawnDeeds_36 : decode cX8_drawnDeeds 36 = .ok (.goto (-25), 3) := by decide +kernel
theorem dX8_drawnDeeds_39 : decode cX8_drawnDeeds 39 = .ok (.iload 4, 2) := by decide +kernel
theorem dX8_drawnDeeds_41 : decode cX8_drawnDeeds 41 = .ok (.ireturn, 1) := by decide +kernel
theorem dX8_drawnDeed_0 : decode cX8_drawnDeed 0 = .ok (.aload_n 0, 1) := by decide +kernel
theorem dX8_drawnDeed_1 : decode cX8_drawnDeed 1 = .ok (.invokevirtual 90, 3) := by decide +kernel
theorem dX8_drawnDeed_4 : decode cX8_drawnDeed 4 = .ok (.bipush 6, 2) := by decide +kernel
theorem dX8_drawnDeed_6 : decode cX8_drawnDeed 6 = .ok (.irem, 1) := by decide +kernel
theorem dX8_drawnDeed_7 : decode cX8_drawnDeed 7 = .ok (.istore_n 1, 1) := by decide +kernel
theorem dX8_drawnDeed_8 : decode cX8_drawnDeed 8 = .ok (.iload_n 1, 1) := by decide +kernel
theorem dX8_drawnDeed_9 : decode cX8_drawnDeed 9 = .ok (.iconst 4, 1) := by decide +kernel
theorem dX8_drawnDeed_10 : decode cX8_drawnDeed 10 = .ok (.if_icmp .ne 5, 3) := by decide +kernel
theorem dX8_drawnDeed_13 : decode cX8_drawnDeed 13 = .ok (.iconst (-1), 1) := by decide +kernel
theorem dX8_drawnDeed_14 : decode cX8_drawnDeed 14 = .ok (.ireturn, 1) := by decide +kernel
theorem dX8_drawnDeed_15 : decode cX8_drawnDeed 15 = .ok (.iload_n 1, 1) := by decide +kernel
theorem dX8_drawnDeed_16 : decode cX8_drawnDeed 16 = .ok (.iconst 5, 1) := by decide +kernel
theorem dX8_drawnDeed_17 : decode cX8_drawnDeed 17 = .ok (.if_icmp .ne 15, 3) := by decide +kernel
theorem dX8_drawnDeed_20 : decode cX8_drawnDeed 20 = .ok (.sipush 200, 3) := by decide +kernel
theorem dX8_drawnDeed_23 : decode cX8_drawnDeed 23 = .ok (.aload_n 0, 1) := by decide +kernel
theorem dX8_drawnDeed_24 : decode cX8_drawnDeed 24 = .ok (.invokevirtual 90, 3) := by decide +kernel
theorem dX8_drawnDeed_27 : decode cX8_drawnDeed 27 = .ok (.bipush 10, 2) := by decide +kernel
theorem dX8_drawnDeed_29 : decode cX8_drawnDeed 29 = .ok (.irem, 1) := by decide +kernel
theorem dX8_drawnDeed_30 : decode cX8_drawnDeed 30 = .ok (.iadd, 1) := by decide +kernel
theorem dX8_drawnDeed_31 : decode cX8_drawnDeed 31 = .ok (.ireturn, 1) := by decide +kernel
theorem dX8_drawnDeed_32 : decode cX8_drawnDeed 32 = .ok (.aload_n 0, 1) := by decide +kernel
theorem dX8_drawnDeed_33 : decode cX8_drawnDeed 33 = .ok (.invokevirtual 90, 3) := by decide +kernel
theorem dX8_drawnDeed_36 : decode cX8_drawnDeed 36 = .ok (.iconst 2, 1) := by decide +kernel
theorem dX8_drawnDeed_37 : decode cX8_drawnDeed 37 = .ok (.irem, 1) := by decide +kernel
theorem dX8_drawnDeed_38 : decode cX8_drawnDeed 38 = .ok (.istore_n 2, 1) := by decide +kernel
theorem dX8_drawnDeed_39 : decode cX8_drawnDeed 39 = .ok (.aload_n 0, 1) := by decide +kernel
theorem dX8_drawnDeed_40 : decode cX8_drawnDeed 40 = .ok (.invokevirtual 90, 3) := by decide +kernel
theorem dX8_drawnDeed_43 : decode cX8_drawnDeed 43 = .ok (.iconst 4, 1) := by decide +kernel
theorem dX8_drawnDeed_44 : decode cX8_drawnDeed 44 = .ok (.irem, 1) := by decide +kernel
theorem dX8_drawnDeed_45 : decode cX8_drawnDeed 45 = .ok (.istore_n 3, 1) := by decide +kernel
theorem dX8_drawnDeed_46 : decode cX8_drawnDeed 46 = .ok (.iload_n 1, 1) := by decide +kernel
theorem dX8_drawnDeed_47 : decode cX8_drawnDeed 47 = .ok (.iconst 3, 1) := by decide +kernel
theorem dX8_drawnDeed_48 : decode cX8_drawnDeed 48 = .ok (.if_icmp .ne 8, 3) := by decide +kernel
theorem dX8_drawnDeed_51 : decode cX8_drawnDeed 51 = .ok (.bipush 100, 2) := by decide +kernel
theorem dX8_drawnDeed_53 : decode cX8_drawnDeed 53 = .ok (.goto 4, 3) := by decide +kernel
theorem dX8_drawnDeed_56 : decode cX8_drawnDeed 56 = .ok (.iconst 0, 1) := by decide +kernel
theorem dX8_drawnDeed_57 : decode cX8_drawnDeed 57 = .ok (.bipush 10, 2) := by decide +kernel
theorem dX8_drawnDeed_59 : decode cX8_drawnDeed 59 = .ok (.iload_n 2, 1) := by decide +kernel
theorem dX8_drawnDeed_60 : decode cX8_drawnDeed 60 = .ok (.imul, 1) := by decide +kernel
theorem dX8_drawnDeed_61 : decode cX8_drawnDeed 61 = .ok (.iadd, 1) := by decide +kernel
theorem dX8_drawnDeed_62 : decode cX8_drawnDeed 62 = .ok (.iload_n 3, 1) := by decide +kernel
theorem dX8_drawnDeed_63 : decode cX8_drawnDeed 63 = .ok (.iadd, 1) := by decide +kernel
theorem dX8_drawnDeed_64 : decode cX8_drawnDeed 64 = .ok (.ireturn, 1) := by decide +kernel
theorem dX8_draw_0 : decode cX8_draw 0 = .ok (.aload_n 0, 1) := by decide +kernel
theorem dX8_draw_1 : decode cX8_draw 1 = .ok (.ldc 93, 2) := by decide +kernel
theorem dX8_draw_3 : decode cX8_draw 3 = .ok (.aload_n 0, 1) := by decide +kernel
theorem dX8_draw_4 : decode cX8_draw 4 = .ok (.getfield 83, 3) := by decide +kernel
theorem dX8_draw_7 : decode cX8_draw 7 = .ok (.imul, 1) := by decide +kernel
theorem dX8_draw_8 : decode cX8_draw 8 = .ok (.sipush 12345, 3) := by decide +kernel
theorem dX8_draw_11 : decode cX8_draw 11 = .ok (.iadd, 1) := by decide +kernel
theorem dX8_draw_12 : decode cX8_draw 12 = .ok (.putfield 83, 3) := by decide +kernel
theorem dX8_draw_15 : decode cX8_draw 15 = .ok (.aload_n 0, 1) := by decide +kernel
theorem dX8_draw_16 : decode cX8_draw 16 = .ok (.getfield 83, 3) := by decide +kernel
theorem dX8_draw_19 : decode cX8_draw 19 = .ok (.bipush 16, 2) := by decide +kernel
theorem dX8_draw_21 : decode cX8_draw 21 = .ok (.iushr, 1) := by decide +kernel
theorem dX8_draw_22 : decode cX8_draw 22 = .ok (.ireturn, 1) := by decide +kernel
theorem dX9_init_0 : decode cX9_init 0 = .ok (.aload_n 0, 1) := by decide +kernel
theorem dX9_init_1 : decode cX9_init 1 = .ok (.invokespecial 3, 3) := by decide +kernel
theorem dX9_init_4 : decode cX9_init 4 = .ok (.aload_n 0, 1) := by decide +kernel
theorem dX9_init_5 : decode cX9_init 5 = .ok (.iconst (-1), 1) := by decide +kernel
theorem dX9_init_6 : decode cX9_init 6 = .ok (.putfield 9, 3) := by decide +kernel
theorem dX9_init_9 : decode cX9_init 9 = .ok (.aload_n 0, 1) := by decide +kernel
theorem dX9_init_10 : decode cX9_init 10 = .ok (.bipush 40, 2) := by decide +kernel
theorem dX9_init_12 : decode cX9_init 12 = .ok (.newarray .long, 2) := by decide +kernel
theorem dX9_init_14 : decode cX9_init 14 = .ok (.putfield 15, 3) := by decide +kernel
theorem dX9_init_17 : decode cX9_init 17 = .ok (.return_, 1) := by decide +kernel
theorem dX9_isMissing_0 : decode cX9_isMissing 0 = .ok (.aload_n 0, 1) := by decide +kernel
theorem dX9_isMissing_1 : decode cX9_isMissing 1 = .ok (.getfield 9, 3) := by decide +kernel
theorem dX9_isMissing_4 : decode cX9_isMissing 4 = .ok (.ifCond .ge 7, 3) := by decide +kernel
theorem dX9_isMissing_7 : decode cX9_isMissing 7 = .ok (.iconst 1, 1) := by decide +kernel
theorem dX9_isMissing_8 : decode cX9_isMissing 8 = .ok (.goto 4, 3) := by decide +kernel
theorem dX9_isMissing_11 : decode cX9_isMissing 11 = .ok (.iconst 0, 1) := by decide +kernel
theorem dX9_isMissing_12 : decode cX9_isMissing 12 = .ok (.ireturn, 1) := by decide +kernel
theorem dX9_lay_0 : decode cX9_lay 0 = .ok (.aload_n 0, 1) := by decide +kernel
theorem dX9_lay_1 : decode cX9_lay 1 = .ok (.iload_n 1, 1) := by decide +kernel
theorem dX9_lay_2 : decode cX9_lay 2 = .ok (.putfield 19, 3) := by decide +kernel
theorem dX9_lay_5 : decode cX9_lay 5 = .ok (.aload_n 0, 1) := by decide +kernel
theorem dX9_lay_6 : decode cX9_lay 6 = .ok (.iload_n 2, 1) := by decide +kernel
theorem dX9_lay_7 : decode cX9_lay 7 = .ok (.putfield 9, 3) := by decide +kernel
theorem dX9_lay_10 : decode cX9_lay 10 = .ok (.aload_n 0, 1) := by decide +kernel
theorem dX9_lay_11 : decode cX9_lay 11 = .ok (.getfield 15, 3) := by decide +kernel
theorem dX9_lay_14 : decode cX9_lay 14 = .ok (.lconst 0, 1) := by decide +kernel
theorem dX9_lay_15 : decode cX9_lay 15 = .ok (.invokestatic 22, 3) := by decide +kernel
theorem dX9_lay_18 : decode cX9_lay 18 = .ok (.return_, 1) := by decide +kernel
theorem dX9_at_0 : decode cX9_at 0 = .ok (.iload_n 1, 1) := by decide +kernel
theorem dX9_at_1 : decode cX9_at 1 = .ok (.ifCond .lt 21, 3) := by decide +kernel
theorem dX9_at_4 : decode cX9_at 4 = .ok (.iload_n 1, 1) := by decide +kernel
theorem dX9_at_5 : decode cX9_at 5 = .ok (.aload_n 0, 1) := by decide +kernel
theorem dX9_at_6 : decode cX9_at 6 = .ok (.getfield 15, 3) := by decide +kernel
theorem dX9_at_9 : decode cX9_at 9 = .ok (.arraylength, 1) := by decide +kernel
theorem dX9_at_10 : decode cX9_at 10 = .ok (.if_icmp .ge 12, 3) := by decide +kernel
theorem dX9_at_13 : decode cX9_at 13 = .ok (.aload_n 0, 1) := by decide +kernel
theorem dX9_at_14 : decode cX9_at 14 = .ok (.getfield 15, 3) := by decide +kernel
theorem dX9_at_17 : decode cX9_at 17 = .ok (.iload_n 1, 1) := by decide +kernel
theorem dX9_at_18 : decode cX9_at 18 = .ok (.laload, 1) := by decide +kernel
theorem dX9_at_19 : decode cX9_at 19 = .ok (.goto 4, 3) := by decide +kernel
theorem dX9_at_22 : decode cX9_at 22 = .ok (.lconst 0, 1) := by decide +kernel
theorem dX9_at_23 : decode cX9_at 23 = .ok (.lreturn, 1) := by decide +kernel
theorem dX9_put_0 : decode cX9_put 0 = .ok (.iload_n 1, 1) := by decide +kernel
theorem dX9_put_1 : decode cX9_put 1 = .ok (.ifCond .lt 23, 3) := by decide +kernel
theorem dX9_put_4 : decode cX9_put 4 = .ok (.iload_n 1, 1) := by decide +kernel
theorem dX9_put_5 : decode cX9_put 5 = .ok (.aload_n 0, 1) := by decide +kernel
theorem dX9_put_6 : decode cX9_put 6 = .ok (.getfield 15, 3) := by decide +kernel
theorem dX9_put_9 : decode cX9_put 9 = .ok (.arraylength, 1) := by decide +kernel
theorem dX9_put_10 : decode cX9_put 10 = .ok (.if_icmp .ge 14, 3) := by decide +kernel
theorem dX9_put_13 : decode cX9_put 13 = .ok (.aload_n 0, 1) := by decide +kernel
theorem dX9_put_14 : decode cX9_put 14 = .ok (.getfield 15, 3) := by decide +kernel
theorem dX9_put_17 : decode cX9_put 17 = .ok (.iload_n 1, 1) := by decide +kernel
theorem dX9_put_18 : decode cX9_put 18 = .ok (.aload_n 0, 1) := by decide +kernel
theorem dX9_put_19 : decode cX9_put 19 = .ok (.lload_n 2, 1) := by decide +kernel
theorem dX9_put_20 : decode cX9_put 20 = .ok (.invokevirtual 28, 3) := by decide +kernel
theorem dX9_put_23 : decode cX9_put 23 = .ok (.lastore, 1) := by decide +kernel
theorem dX9_put_24 : decode cX9_put 24 = .ok (.return_, 1) := by decide +kernel
theorem dX9_cut_0 : decode cX9_cut 0 = .ok (.aload_n 0, 1) := by decide +kernel
theorem dX9_cut_1 : decode cX9_cut 1 = .ok (.getfield 19, 3) := by decide +kernel
theorem dX9_cut_4 : decode cX9_cut 4 = .ok (.tableswitch 42 0 2 #[28, 33, 38], 28) := by decide +kernel
theorem dX9_cut_32 : decode cX9_cut 32 = .ok (.lload_n 1, 1) := by decide +kernel
theorem dX9_cut_33 : decode cX9_cut 33 = .ok (.l2i, 1) := by decide +kernel
theorem dX9_cut_34 : decode cX9_cut 34 = .ok (.i2b, 1) := by decide +kernel
theorem dX9_cut_35 : decode cX9_cut 35 = .ok (.i2l, 1) := by decide +kernel
theorem dX9_cut_36 : decode cX9_cut 36 = .ok (.lreturn, 1) := by decide +kernel
theorem dX9_cut_37 : decode cX9_cut 37 = .ok (.lload_n 1, 1) := by decide +kernel
theorem dX9_cut_38 : decode cX9_cut 38 = .ok (.l2i, 1) := by decide +kernel
theorem dX9_cut_39 : decode cX9_cut 39 = .ok (.i2s, 1) := by decide +kernel
theorem dX9_cut_40 : decode cX9_cut 40 = .ok (.i2l, 1) := by decide +kernel
theorem dX9_cut_41 : decode cX9_cut 41 = .ok (.lreturn, 1) := by decide +kernel
theorem dX9_cut_42 : decode cX9_cut 42 = .ok (.lload_n 1, 1) := by decide +kernel
theorem dX9_cut_43 : decode cX9_cut 43 = .ok (.l2i, 1) := by decide +kernel
theorem dX9_cut_44 : decode cX9_cut 44 = .ok (.i2l, 1) := by decide +kernel
theorem dX9_cut_45 : decode cX9_cut 45 = .ok (.lreturn, 1) := by decide +kernel
theorem dX9_cut_46 : decode cX9_cut 46 = .ok (.lload_n 1, 1) := by decide +kernel
theorem dX9_cut_47 : decode cX9_cut 47 = .ok (.lreturn, 1) := by decide +kernel
theorem dX10_init_0 : decode cX10_init 0 = .ok (.aload_n 0, 1) := by decide +kernel
theorem dX10_init_1 : decode cX10_init 1 = .ok (.invokespecial 3, 3) := by decide +kernel
theorem dX10_init_4 : decode cX10_init 4 = .ok (.aload_n 0, 1) := by decide +kernel
theorem dX10_init_5 : decode cX10_init 5 = .ok (.new 9, 3) := by decide +kernel
theorem dX10_init_8 : decode cX10_init 8 = .ok (.dup, 1) := by decide +kernel
theorem dX10_init_9 : decode cX10_init 9 = .ok (.invokespecial 11, 3) := by decide +kernel
theorem dX10_init_12 : decode cX10_init 12 = .ok (.putfield 12, 3) := by decide +kernel
theorem dX10_init_15 : decode cX10_init 15 = .ok (.aload_n 0, 1) := by decide +kernel
theorem dX10_init_16 : decode cX10_init 16 = .ok (.aload_n 1, 1) := by decide +kernel
theorem dX10_init_17 : decode cX10_init 17 = .ok (.putfield 18, 3) := by decide +kernel
theorem dX10_init_20 : decode cX10_init 20 = .ok (.return_, 1) := by decide +kernel
theorem dX10_ask_0 : decode cX10_ask 0 = .ok (.aload_n 0, 1) := by decide +kernel
theorem dX10_ask_1 : decode cX10_ask 1 = .ok (.aload_n 1, 1) := by decide +kernel
theorem dX10_ask_2 : decode cX10_ask 2 = .ok (.putfield 18, 3) := by decide +kernel
theorem dX10_ask_5 : decode cX10_ask 5 = .ok (.aload_n 0, 1) := by decide +kernel
theorem dX10_ask_6 : decode cX10_ask 6 = .ok (.aload_n 2, 1) := by decide +kernel
theorem dX10_ask_7 : decode cX10_ask 7 = .ok (.getfield 22, 3) := by decide +kernel
theorem dX10_ask_10 : decode cX10_ask 10 = .ok (.putfield 28, 3) := by decide +kernel
theorem dX10_ask_13 : decode cX10_ask 13 = .ok (.aload_n 0, 1) := by decide +kernel
theorem dX10_ask_14 : decode cX10_ask 14 = .ok (.aload_n 3, 1) := by decide +kernel
theorem dX10_ask_15 : decode cX10_ask 15 = .ok (.putfield 12, 3) := by decide +kernel
theorem dX10_ask_18 : decode cX10_ask 18 = .ok (.aload_n 0, 1) := by decide +kernel
theorem dX10_ask_19 : decode cX10_ask 19 = .ok (.iload 4, 2) := by decide +kernel
theorem dX10_ask_21 : decode cX10_ask 21 = .ok (.putfield 29, 3) := by decide +kernel
theorem dX10_ask_24 : decode cX10_ask 24 = .ok (.aload_n 0, 1) := by decide +kernel
theorem dX10_ask_25 : decode cX10_ask 25 = .ok (.iload 5, 2) := by decide +kernel
theorem dX10_ask_27 : decode cX10_ask 27 = .ok (.putfield 32, 3) := by decide +kernel
theorem dX10_ask_30 : decode cX10_ask 30 = .ok (.aload_n 0, 1) := by decide +kernel
theorem dX10_ask_31 : decode cX10_ask 31 = .ok (.iconst 0, 1) := by decide +kernel
theorem dX10_ask_32 : decode cX10_ask 32 = .ok (.putfield 35, 3) := by decide +kernel
theorem dX10_ask_35 : decode cX10_ask 35 = .ok (.aload_n 0, 1) := by decide +kernel
theorem dX10_ask_36 : decode cX10_ask 36 = .ok (.iconst 0, 1) := by decide +kernel
theorem dX10_ask_37 : decode cX10_ask 37 = .ok (.putfield 38, 3) := by decide +kernel
theorem dX10_ask_40 : decode cX10_ask 40 = .ok (.aload_n 0, 1) := by decide +kernel
theorem dX10_ask_41 : decode cX10_ask 41 = .ok (.iconst 0, 1) := by decide +kernel
theorem dX10_ask_42 : decode cX10_ask 42 = .ok (.putfield 41, 3) := by decide +kernel
theorem dX10_ask_45 : decode cX10_ask 45 = .ok (.aload_n 0, 1) := by decide +kernel
theorem dX10_ask_46 : decode cX10_ask 46 = .ok (.iconst 0, 1) := by decide +kernel
theorem dX10_ask_47 : decode cX10_ask 47 = .ok (.putfield 44, 3) := by decide +kernel
theorem dX10_ask_50 : decode cX10_ask 50 = .ok (.aload_n 0, 1) := by decide +kernel
theorem dX10_ask_51 : decode cX10_ask 51 = .ok (.aload_n 2, 1) := by decide +kernel
theorem dX10_ask_52 : decode cX10_ask 52 = .ok (.getfield 47, 3) := by decide +kernel
theorem dX10_ask_55 : decode cX10_ask 55 = .ok (.iconst 0, 1) := by decide +kernel
theorem dX10_ask_56 : decode cX10_ask 56 = .ok (.iconst 0, 1) := by decide +kernel
theorem dX10_ask_57 : decode cX10_ask 57 = .ok (.invokevirtual 50, 3) := by decide +kernel
theorem dX10_ask_60 : decode cX10_ask 60 = .ok (.return_, 1) := by decide +kernel
theorem dX10_go_0 : decode cX10_go 0 = .ok (.iload_n 2, 1) := by decide +kernel
theorem dX10_go_1 : decode cX10_go 1 = .ok (.aload_n 0, 1) := by decide +kernel
theorem dX10_go_2 : decode cX10_go 2 = .ok (.getfield 12, 3) := by decide +kernel
theorem dX10_go_5 : decode cX10_go 5 = .ok (.getfield 54, 3) := by decide +kernel
theorem dX10_go_8 : decode cX10_go 8 = .ok (.if_icmp .ge 9, 3) := by decide +kernel
theorem dX10_go_11 : decode cX10_go 11 = .ok (.iload_n 2, 1) := by decide +kernel
theorem dX10_go_12 : decode cX10_go 12 = .ok (.bipush 10, 2) := by decide +kernel
theorem dX10_go_14 : decode cX10_go 14 = .ok (.if_icmp .lt 10, 3) := by decide +kernel
theorem dX10_go_17 : decode cX10_go 17 = .ok (.aload_n 0, 1) := by decide +kernel
theorem dX10_go_18 : decode cX10_go 18 = .ok (.iload_n 1, 1) := by decide +kernel
theorem dX10_go_19 : decode cX10_go 19 = .ok (.iload_n 3, 1) := by decide +kernel
theorem dX10_go_20 : decode cX10_go 20 = .ok (.invokevirtual 57, 3) := by decide +kernel
theorem dX10_go_23 : decode cX10_go 23 = .ok (.return_, 1) := by decide +kernel
theorem dX10_go_24 : decode cX10_go 24 = .ok (.iconst 0, 1) := by decide +kernel
theorem dX10_go_25 : decode cX10_go 25 = .ok (.istore 4, 2) := by decide +kernel
theorem dX10_go_27 : decode cX10_go 27 = .ok (.iload 4, 2) := by decide +kernel
theorem dX10_go_29 : decode cX10_go 29 = .ok (.iconst 2, 1) := by decide +kernel
theorem dX10_go_30 : decode cX10_go 30 = .ok (.if_icmp .ge 57, 3) := by decide +kernel
theorem dX10_go_33 : decode cX10_go 33 = .ok (.aload_n 0, 1) := by decide +kernel
theorem dX10_go_34 : decode cX10_go 34 = .ok (.getfield 18, 3) := by decide +kernel
theorem dX10_go_37 : decode cX10_go 37 = .ok (.iload_n 1, 1) := by decide +kernel
theorem dX10_go_38 : decode cX10_go 38 = .ok (.aload_n 0, 1) := by decide +kernel
theorem dX10_go_39 : decode cX10_go 39 = .ok (.getfield 28, 3) := by decide +kernel
theorem dX10_go_42 : decode cX10_go 42 = .ok (.iload 4, 2) := by decide +kernel
theorem dX10_go_44 : decode cX10_go 44 = .ok (.aload_n 0, 1) := by decide +kernel
theorem dX10_go_45 : decode cX10_go 45 = .ok (.getfield 12, 3) := by decide +kernel
theorem dX10_go_48 : decode cX10_go 48 = .ok (.iload_n 2, 1) := by decide +kernel
theorem dX10_go_49 : decode cX10_go 49 = .ok (.invokevirtual 61, 3) := by decide +kernel
theorem dX10_go_52 : decode cX10_go 52 = .ok (.l2i, 1) := by decide +kernel
theorem dX10_go_53 : decode cX10_go 53 = .ok (.invokevirtual 65, 3) := by decide +kernel
theorem dX10_go_56 : decode cX10_go 56 = .ok (.istore 5, 2) := by decide +kernel
theorem dX10_go_58 : decode cX10_go 58 = .ok (.iload 5, 2) := by decide +kernel
theorem dX10_go_60 : decode cX10_go 60 = .ok (.ifCond .lt 21, 3) := by decide +kernel
theorem dX10_go_63 : decode cX10_go 63 = .ok (.aload_n 0, 1) := by decide +kernel
theorem dX10_go_64 : decode cX10_go 64 = .ok (.iload 5, 2) := by decide +kernel
theorem dX10_go_66 : decode cX10_go 66 = .ok (.invokestatic 71, 3) := by decide +kernel
theorem dX10_go_69 : decode cX10_go 69 = .ok (.iload_n 2, 1) := by decide +kernel
theorem dX10_go_70 : decode cX10_go 70 = .ok (.iconst 1, 1) := by decide +kernel
theorem dX10_go_71 : decode cX10_go 71 = .ok (.iadd, 1) := by decide +kernel
theorem dX10_go_72 : decode cX10_go 72 = .ok (.iload_n 3, 1) := by decide +kernel
theorem dX10_go_73 : decode cX10_go 73 = .ok (.iload 4, 2) := by decide +kernel
theorem dX10_go_75 : decode cX10_go 75 = .ok (.iload_n 2, 1) := by decide +kernel
theorem dX10_go_76 : decode cX10_go 76 = .ok (.ishl, 1) := by decide +kernel
theorem dX10_go_77 : decode cX10_go 77 = .ok (.ior, 1) := by decide +kernel
theorem dX10_go_78 : decode cX10_go 78 = .ok (.invokevirtual 50, 3) := by decide +kernel
theorem dX10_go_81 : decode cX10_go 81 = .ok (.iinc 4 1, 3) := by decide +kernel
theorem dX10_go_84 : decode cX10_go 84 = .ok (.goto (-57), 3) := by decide +kernel
theorem dX10_go_87 : decode cX10_go 87 = .ok (.return_, 1) := by decide +kernel
theorem dX10_weigh_0 : decode cX10_weigh 0 = .ok (.aload_n 0, 1) := by decide +kernel
theorem dX10_weigh_1 : decode cX10_weigh 1 = .ok (.getfield 18, 3) := by decide +kernel
theorem dX10_weigh_4 : decode cX10_weigh 4 = .ok (.iload_n 1, 1) := by decide +kernel
theorem dX10_weigh_5 : decode cX10_weigh 5 = .ok (.aload_n 0, 1) := by decide +kernel
theorem dX10_weigh_6 : decode cX10_weigh 6 = .ok (.getfield 29, 3) := by decide +kernel
theorem dX10_weigh_9 : decode cX10_weigh 9 = .ok (.aload_n 0, 1) := by decide +kernel
theorem dX10_weigh_10 : decode cX10_weigh 10 = .ok (.getfield 32, 3) := by decide +kernel
theorem dX10_weigh_13 : decode cX10_weigh 13 = .ok (.invokevirtual 75, 3) := by decide +kernel
theorem dX10_weigh_16 : decode cX10_weigh 16 = .ok (.ifCond .ne 4, 3) := by decide +kernel
theorem dX10_weigh_19 : decode cX10_weigh 19 = .ok (.return_, 1) := by decide +kernel
theorem dX10_weigh_20 : decode cX10_weigh 20 = .ok (.iconst 1, 1) := by decide +kernel
theorem dX10_weigh_21 : decode cX10_weigh 21 = .ok (.aload_n 0, 1) := by decide +kernel
theorem dX10_weigh_22 : decode cX10_weigh 22 = .ok (.getfield 12, 3) := by decide +kernel
theorem dX10_weigh_25 : decode cX10_weigh 25 = .ok (.getfield 54, 3) := by decide +kernel
theorem dX10_weigh_28 : decode cX10_weigh 28 = .ok (.ishl, 1) := by decide +kernel
theorem dX10_weigh_29 : decode cX10_weigh 29 = .ok (.iconst 1, 1) := by decide +kernel
theorem dX10_weigh_30 : decode cX10_weigh 30 = .ok (.isub, 1) := by decide +kernel
theorem dX10_weigh_31 : decode cX10_weigh 31 = .ok (.iload_n 2, 1) := by decide +kernel
theorem dX10_weigh_32 : decode cX10_weigh 32 = .ok (.iconst (-1), 1) := by decide +kernel
theorem dX10_weigh_33 : decode cX10_weigh 33 = .ok (.ixor, 1) := by decide +kernel
theorem dX10_weigh_34 : decode cX10_weigh 34 = .ok (.iand, 1) := by decide +kernel
theorem dX10_weigh_35 : decode cX10_weigh 35 = .ok (.istore_n 3, 1) := by decide +kernel
theorem dX10_weigh_36 : decode cX10_weigh 36 = .ok (.aload_n 0, 1) := by decide +kernel
theorem dX10_weigh_37 : decode cX10_weigh 37 = .ok (.getfield 35, 3) := by decide +kernel
theorem dX10_weigh_40 : decode cX10_weigh 40 = .ok (.ifCond .ne 18, 3) := by decide +kernel
theorem dX10_weigh_43 : decode cX10_weigh 43 = .ok (.aload_n 0, 1) := by decide +kernel
theorem dX10_weigh_44 : decode cX10_weigh 44 = .ok (.iload_n 2, 1) := by decide +kernel
theorem dX10_weigh_45 : decode cX10_weigh 45 = .ok (.putfield 38, 3) := by decide +kernel
theorem dX10_weigh_48 : decode cX10_weigh 48 = .ok (.aload_n 0, 1) := by decide +kernel
theorem dX10_weigh_49 : decode cX10_weigh 49 = .ok (.iload_n 3, 1) := by decide +kernel
theorem dX10_weigh_50 : decode cX10_weigh 50 = .ok (.putfield 41, 3) := by decide +kernel
theorem dX10_weigh_53 : decode cX10_weigh 53 = .ok (.aload_n 0, 1) := by decide +kernel
theorem dX10_weigh_54 : decode cX10_weigh 54 = .ok (.iload_n 2, 1) := by decide +kernel
theorem dX10_weigh_55 : decode cX10_weigh 55 = .ok (.putfield 44, 3) := by decide +kernel
theorem dX10_weigh_58 : decode cX10_weigh 58 = .ok (.aload_n 0, 1) := by decide +kernel
theorem dX10_weigh_59 : decode cX10_weigh 59 = .ok (.dup, 1) := by decide +kernel
theorem dX10_weigh_60 : decode cX10_weigh 60 = .ok (.getfield 41, 3) := by decide +kernel
theorem dX10_weigh_63 : decode cX10_weigh 63 = .ok (.iload_n 3, 1) := by decide +kernel
theorem dX10_weigh_64 : decode cX10_weigh 64 = .ok (.iand, 1) := by decide +kernel
theorem dX10_weigh_65 : decode cX10_weigh 65 = .ok (.putfield 41, 3) := by decide +kernel
theorem dX10_weigh_68 : decode cX10_weigh 68 = .ok (.aload_n 0, 1) := by decide +kernel
theorem dX10_weigh_69 : decode cX10_weigh 69 = .ok (.dup, 1) := by decide +kernel
theorem dX10_weigh_70 : decode cX10_weigh 70 = .ok (.getfield 44, 3) := by decide +kernel
theorem dX10_weigh_73 : decode cX10_weigh 73 = .ok (.iload_n 2, 1) := by decide +kernel
theorem dX10_weigh_74 : decode cX10_weigh 74 = .ok (.iand, 1) := by decide +kernel
theorem dX10_weigh_75 : decode cX10_weigh 75 = .ok (.putfield 44, 3) := by decide +kernel
theorem dX10_weigh_78 : decode cX10_weigh 78 = .ok (.aload_n 0, 1) := by decide +kernel
theorem dX10_weigh_79 : decode cX10_weigh 79 = .ok (.dup, 1) := by decide +kernel
theorem dX10_weigh_80 : decode cX10_weigh 80 = .ok (.getfield 35, 3) := by decide +kernel
theorem dX10_weigh_83 : decode cX10_weigh 83 = .ok (.iconst 1, 1) := by decide +kernel
theorem dX10_weigh_84 : decode cX10_weigh 84 = .ok (.iadd, 1) := by decide +kernel
theorem dX10_weigh_85 : decode cX10_weigh 85 = .ok (.putfield 35, 3) := by decide +kernel
theorem dX10_weigh_88 : decode cX10_weigh 88 = .ok (.return_, 1) := by decide +kernel
theorem dJ11_isValidCodePoint_9a6ad_0 : decode cJ11_isValidCodePoint_9a6ad 0 = .ok (.iload_n 0, 1) := by decide +kernel
theorem dJ11_isValidCodePoint_9a6ad_1 : decode cJ11_isValidCodePoint_9a6ad 1 = .ok (.bipush 16, 2) := by decide +kernel
theorem dJ11_isValidCodePoint_9a6ad_3 : decode cJ11_isValidCodePoint_9a6ad 3 = .ok (.iushr, 1) := by decide +kernel
theorem dJ11_isValidCodePoint_9a6ad_4 : decode cJ11_isValidCodePoint_9a6ad 4 = .ok (.istore_n 1, 1) := by decide +kernel
theorem dJ11_isValidCodePoint_9a6ad_5 : decode cJ11_isValidCodePoint_9a6ad 5 = .ok (.iload_n 1, 1) := by decide +kernel
theorem dJ11_isValidCodePoint_9a6ad_6 : decode cJ11_isValidCodePoint_9a6ad 6 = .ok (.bipush 17, 2) := by decide +kernel
theorem dJ11_isValidCodePoint_9a6ad_8 : decode cJ11_isValidCodePoint_9a6ad 8 = .ok (.if_icmp .ge 7, 3) := by decide +kernel
theorem dJ11_isValidCodePoint_9a6ad_11 : decode cJ11_isValidCodePoint_9a6ad 11 = .ok (.iconst 1, 1) := by decide +kernel
theorem dJ11_isValidCodePoint_9a6ad_12 : decode cJ11_isValidCodePoint_9a6ad 12 = .ok (.goto 4, 3) := by decide +kernel
theorem dJ11_isValidCodePoint_9a6ad_15 : decode cJ11_isValidCodePoint_9a6ad 15 = .ok (.iconst 0, 1) := by decide +kernel
theorem dJ11_isValidCodePoint_9a6ad_16 : decode cJ11_isValidCodePoint_9a6ad 16 = .ok (.ireturn, 1) := by decide +kernel
theorem dJ11_highSurrogate_5068e_0 : decode cJ11_highSurrogate_5068e 0 = .ok (.iload_n 0, 1) := by decide +kernel
theorem dJ11_highSurrogate_5068e_1 : decode cJ11_highSurrogate_5068e 1 = .ok (.bipush 10, 2) := by decide +kernel
theorem dJ11_highSurrogate_5068e_3 : decode cJ11_highSurrogate_5068e 3 = .ok (.iushr, 1) := by decide +kernel
theorem dJ11_highSurrogate_5068e_4 : decode cJ11_highSurrogate_5068e 4 = .ok (.ldc 110, 2) := by decide +kernel
theorem dJ11_highSurrogate_5068e_6 : decode cJ11_highSurrogate_5068e 6 = .ok (.iadd, 1) := by decide +kernel
theorem dJ11_highSurrogate_5068e_7 : decode cJ11_highSurrogate_5068e 7 = .ok (.i2c, 1) := by decide +kernel
theorem dJ11_highSurrogate_5068e_8 : decode cJ11_highSurrogate_5068e 8 = .ok (.ireturn, 1) := by decide +kernel
theorem dJ11_lowSurrogate_5068e_0 : decode cJ11_lowSurrogate_5068e 0 = .ok (.iload_n 0, 1) := by decide +kernel
theorem dJ11_lowSurrogate_5068e_1 : decode cJ11_lowSurrogate_5068e 1 = .ok (.sipush 1023, 3) := by decide +kernel
theorem dJ11_lowSurrogate_5068e_4 : decode cJ11_lowSurrogate_5068e 4 = .ok (.iand, 1) := by decide +kernel
theorem dJ11_lowSurrogate_5068e_5 : decode cJ11_lowSurrogate_5068e 5 = .ok (.ldc 76, 2) := by decide +kernel
theorem dJ11_lowSurrogate_5068e_7 : decode cJ11_lowSurrogate_5068e 7 = .ok (.iadd, 1) := by decide +kernel
theorem dJ11_lowSurrogate_5068e_8 : decode cJ11_lowSurrogate_5068e 8 = .ok (.i2c, 1) := by decide +kernel
theorem dJ11_lowSurrogate_5068e_9 : decode cJ11_lowSurrogate_5068e 9 = .ok (.ireturn, 1) := by decide +kernel
theorem dJ6_bitCount_0f7a4_0 : decode cJ6_bitCount_0f7a4 0 = .ok (.iload_n 0, 1) := by decide +kernel
theorem dJ6_bitCount_0f7a4_1 : decode cJ6_bitCount_0f7a4 1 = .ok (.iload_n 0, 1) := by decide +kernel
theorem dJ6_bitCount_0f7a4_2 : decode cJ6_bitCount_0f7a4 2 = .ok (.iconst 1, 1) := by decide +kernel
theorem dJ6_bitCount_0f7a4_3 : decode cJ6_bitCount_0f7a4 3 = .ok (.iushr, 1) := by decide +kernel
theorem dJ6_bitCount_0f7a4_4 : decode cJ6_bitCount_0f7a4 4 = .ok (.ldc_w 265, 3) := by decide +kernel
theorem dJ6_bitCount_0f7a4_7 : decode cJ6_bitCount_0f7a4 7 = .ok (.iand, 1) := by decide +kernel
theorem dJ6_bitCount_0f7a4_8 : decode cJ6_bitCount_0f7a4 8 = .ok (.isub, 1) := by decide +kernel
theorem dJ6_bitCount_0f7a4_9 : decode cJ6_bitCount_0f7a4 9 = .ok (.istore_n 0, 1) := by decide +kernel
theorem dJ6_bitCount_0f7a4_10 : decode cJ6_bitCount_0f7a4 10 = .ok (.iload_n 0, 1) := by decide +kernel
theorem dJ6_bitCount_0f7a4_11 : decode cJ6_bitCount_0f7a4 11 = .ok (.ldc_w 266, 3) := by decide +kernel
theorem dJ6_bitCount_0f7a4_14 : decode cJ6_bitCount_0f7a4 14 = .ok (.iand, 1) := by decide +kernel
theorem dJ6_bitCount_0f7a4_15 : decode cJ6_bitCount_0f7a4 15 = .ok (.iload_n 0, 1) := by decide +kernel
theorem dJ6_bitCount_0f7a4_16 : decode cJ6_bitCount_0f7a4 16 = .ok (.iconst 2, 1) := by decide +kernel
theorem dJ6_bitCount_0f7a4_17 : decode cJ6_bitCount_0f7a4 17 = .ok (.iushr, 1) := by decide +kernel
theorem dJ6_bitCount_0f7a4_18 : decode cJ6_bitCount_0f7a4 18 = .ok (.ldc_w 266, 3) := by decide +kernel
theorem dJ6_bitCount_0f7a4_21 : decode cJ6_bitCount_0f7a4 21 = .ok (.iand, 1) := by decide +kernel
theorem dJ6_bitCount_0f7a4_22 : decode cJ6_bitCount_0f7a4 22 = .ok (.iadd, 1) := by decide +kernel
theorem dJ6_bitCount_0f7a4_23 : decode cJ6_bitCount_0f7a4 23 = .ok (.istore_n 0, 1) := by decide +kernel
theorem dJ6_bitCount_0f7a4_24 : decode cJ6_bitCount_0f7a4 24 = .ok (.iload_n 0, 1) := by decide +kernel
theorem dJ6_bitCount_0f7a4_25 : decode cJ6_bitCount_0f7a4 25 = .ok (.iload_n 0, 1) := by decide +kernel
theorem dJ6_bitCount_0f7a4_26 : decode cJ6_bitCount_0f7a4 26 = .ok (.iconst 4, 1) := by decide +kernel
theorem dJ6_bitCount_0f7a4_27 : decode cJ6_bitCount_0f7a4 27 = .ok (.iushr, 1) := by decide +kernel
theorem dJ6_bitCount_0f7a4_28 : decode cJ6_bitCount_0f7a4 28 = .ok (.iadd, 1) := by decide +kernel
theorem dJ6_bitCount_0f7a4_29 : decode cJ6_bitCount_0f7a4 29 = .ok (.ldc_w 267, 3) := by decide +kernel
theorem dJ6_bitCount_0f7a4_32 : decode cJ6_bitCount_0f7a4 32 = .ok (.iand, 1) := by decide +kernel
theorem dJ6_bitCount_0f7a4_33 : decode cJ6_bitCount_0f7a4 33 = .ok (.istore_n 0, 1) := by decide +kernel
theorem dJ6_bitCount_0f7a4_34 : decode cJ6_bitCount_0f7a4 34 = .ok (.iload_n 0, 1) := by decide +kernel
theorem dJ6_bitCount_0f7a4_35 : decode cJ6_bitCount_0f7a4 35 = .ok (.iload_n 0, 1) := by decide +kernel
theorem dJ6_bitCount_0f7a4_36 : decode cJ6_bitCount_0f7a4 36 = .ok (.bipush 8, 2) := by decide +kernel
theorem dJ6_bitCount_0f7a4_38 : decode cJ6_bitCount_0f7a4 38 = .ok (.iushr, 1) := by decide +kernel
theorem dJ6_bitCount_0f7a4_39 : decode cJ6_bitCount_0f7a4 39 = .ok (.iadd, 1) := by decide +kernel
theorem dJ6_bitCount_0f7a4_40 : decode cJ6_bitCount_0f7a4 40 = .ok (.istore_n 0, 1) := by decide +kernel
theorem dJ6_bitCount_0f7a4_41 : decode cJ6_bitCount_0f7a4 41 = .ok (.iload_n 0, 1) := by decide +kernel
theorem dJ6_bitCount_0f7a4_42 : decode cJ6_bitCount_0f7a4 42 = .ok (.iload_n 0, 1) := by decide +kernel
theorem dJ6_bitCount_0f7a4_43 : decode cJ6_bitCount_0f7a4 43 = .ok (.bipush 16, 2) := by decide +kernel
theorem dJ6_bitCount_0f7a4_45 : decode cJ6_bitCount_0f7a4 45 = .ok (.iushr, 1) := by decide +kernel
theorem dJ6_bitCount_0f7a4_46 : decode cJ6_bitCount_0f7a4 46 = .ok (.iadd, 1) := by decide +kernel
theorem dJ6_bitCount_0f7a4_47 : decode cJ6_bitCount_0f7a4 47 = .ok (.istore_n 0, 1) := by decide +kernel
theorem dJ6_bitCount_0f7a4_48 : decode cJ6_bitCount_0f7a4 48 = .ok (.iload_n 0, 1) := by decide +kernel
theorem dJ6_bitCount_0f7a4_49 : decode cJ6_bitCount_0f7a4 49 = .ok (.bipush 63, 2) := by decide +kernel
theorem dJ6_bitCount_0f7a4_51 : decode cJ6_bitCount_0f7a4 51 = .ok (.iand, 1) := by decide +kernel
theorem dJ6_bitCount_0f7a4_52 : decode cJ6_bitCount_0f7a4 52 = .ok (.ireturn, 1) := by decide +kernel
theorem dJ9_max_7cf53_0 : decode cJ9_max_7cf53 0 = .ok (.iload_n 0, 1) := by decide +kernel
theorem dJ9_max_7cf53_1 : decode cJ9_max_7cf53 1 = .ok (.iload_n 1, 1) := by decide +kernel
theorem dJ9_max_7cf53_2 : decode cJ9_max_7cf53 2 = .ok (.if_icmp .lt 7, 3) := by decide +kernel
theorem dJ9_max_7cf53_5 : decode cJ9_max_7cf53 5 = .ok (.iload_n 0, 1) := by decide +kernel
theorem dJ9_max_7cf53_6 : decode cJ9_max_7cf53 6 = .ok (.goto 4, 3) := by decide +kernel
theorem dJ9_max_7cf53_9 : decode cJ9_max_7cf53 9 = .ok (.iload_n 1, 1) := by decide +kernel
theorem dJ9_max_7cf53_10 : decode cJ9_max_7cf53 10 = .ok (.ireturn, 1) := by decide +kernel
theorem dJ9_max_f86c9_0 : decode cJ9_max_f86c9 0 = .ok (.lload_n 0, 1) := by decide +kernel
theorem dJ9_max_f86c9_1 : decode cJ9_max_f86c9 1 = .ok (.lload_n 2, 1) := by decide +kernel
theorem dJ9_max_f86c9_2 : decode cJ9_max_f86c9 2 = .ok (.lcmp, 1) := by decide +kernel
theorem dJ9_max_f86c9_3 : decode cJ9_max_f86c9 3 = .ok (.ifCond .lt 7, 3) := by decide +kernel
theorem dJ9_max_f86c9_6 : decode cJ9_max_f86c9 6 = .ok (.lload_n 0, 1) := by decide +kernel
theorem dJ9_max_f86c9_7 : decode cJ9_max_f86c9 7 = .ok (.goto 4, 3) := by decide +kernel
theorem dJ9_max_f86c9_10 : decode cJ9_max_f86c9 10 = .ok (.lload_n 2, 1) := by decide +kernel
theorem dJ9_max_f86c9_11 : decode cJ9_max_f86c9 11 = .ok (.lreturn, 1) := by decide +kernel
theorem dJ9_min_7cf53_0 : decode cJ9_min_7cf53 0 = .ok (.iload_n 0, 1) := by decide +kernel
theorem dJ9_min_7cf53_1 : decode cJ9_min_7cf53 1 = .ok (.iload_n 1, 1) := by decide +kernel
theorem dJ9_min_7cf53_2 : decode cJ9_min_7cf53 2 = .ok (.if_icmp .gt 7, 3) := by decide +kernel
theorem dJ9_min_7cf53_5 : decode cJ9_min_7cf53 5 = .ok (.iload_n 0, 1) := by decide +kernel
theorem dJ9_min_7cf53_6 : decode cJ9_min_7cf53 6 = .ok (.goto 4, 3) := by decide +kernel
theorem dJ9_min_7cf53_9 : decode cJ9_min_7cf53 9 = .ok (.iload_n 1, 1) := by decide +kernel
theorem dJ9_min_7cf53_10 : decode cJ9_min_7cf53 10 = .ok (.ireturn, 1) := by decide +kernel
theorem dJ9_min_f86c9_0 : decode cJ9_min_f86c9 0 = .ok (.lload_n 0, 1) := by decide +kernel
theorem dJ9_min_f86c9_1 : decode cJ9_min_f86c9 1 = .ok (.lload_n 2, 1) := by decide +kernel
theorem dJ9_min_f86c9_2 : decode cJ9_min_f86c9 2 = .ok (.lcmp, 1) := by decide +kernel
theorem dJ9_min_f86c9_3 : decode cJ9_min_f86c9 3 = .ok (.ifCond .gt 7, 3) := by decide +kernel
theorem dJ9_min_f86c9_6 : decode cJ9_min_f86c9 6 = .ok (.lload_n 0, 1) := by decide +kernel
theorem dJ9_min_f86c9_7 : decode cJ9_min_f86c9 7 = .ok (.goto 4, 3) := by decide +kernel
theorem dJ9_min_f86c9_10 : decode cJ9_min_f86c9 10 = .ok (.lload_n 2, 1) := by decide +kernel
theorem dJ9_min_f86c9_11 : decode cJ9_min_f86c9 11 = .ok (.lreturn, 1) := by decide +kernel
theorem dJ0_length_8abf5_0 : decode cJ0_length_8abf5 0 = .ok (.aload_n 0, 1) := by decide +kernel
theorem dJ0_length_8abf5_1 : decode cJ0_length_8abf5 1 = .ok (.getfield 9, 3) := by decide +kernel
theorem dJ0_length_8abf5_4 : decode cJ0_length_8abf5 4 = .ok (.arraylength, 1) := by decide +kernel
theorem dJ0_length_8abf5_5 : decode cJ0_length_8abf5 5 = .ok (.aload_n 0, 1) := by decide +kernel
theorem dJ0_length_8abf5_6 : decode cJ0_length_8abf5 6 = .ok (.invokevirtual 335, 3) := by decide +kernel
theorem dJ0_length_8abf5_9 : decode cJ0_length_8abf5 9 = .ok (.ishr, 1) := by decide +kernel
theorem dJ0_length_8abf5_10 : decode cJ0_length_8abf5 10 = .ok (.ireturn, 1) := by decide +kernel
theorem dJ0_charAt_5068e_0 : decode cJ0_charAt_5068e 0 = .ok (.aload_n 0, 1) := by decide +kernel
theorem dJ0_charAt_5068e_1 : decode cJ0_charAt_5068e 1 = .ok (.invokevirtual 492, 3) := by decide +kernel
theorem dJ0_charAt_5068e_4 : decode cJ0_charAt_5068e 4 = .ok (.ifCond .eq 12, 3) := by decide +kernel
theorem dJ0_charAt_5068e_7 : decode cJ0_charAt_5068e 7 = .ok (.aload_n 0, 1) := by decide +kernel
theorem dJ0_charAt_5068e_8 : decode cJ0_charAt_5068e 8 = .ok (.getfield 9, 3) := by decide +kernel
theorem dJ0_charAt_5068e_11 : decode cJ0_charAt_5068e 11 = .ok (.iload_n 1, 1) := by decide +kernel
theorem dJ0_charAt_5068e_12 : decode cJ0_charAt_5068e 12 = .ok (.invokestatic 495, 3) := by decide +kernel
theorem dJ0_charAt_5068e_15 : decode cJ0_charAt_5068e 15 = .ok (.ireturn, 1) := by decide +kernel
theorem dJ0_charAt_5068e_16 : decode cJ0_charAt_5068e 16 = .ok (.aload_n 0, 1) := by decide +kernel
theorem dJ0_charAt_5068e_17 : decode cJ0_charAt_5068e 17 = .ok (.getfield 9, 3) := by decide +kernel
theorem dJ0_charAt_5068e_20 : decode cJ0_charAt_5068e 20 = .ok (.iload_n 1, 1) := by decide +kernel
theorem dJ0_charAt_5068e_21 : decode cJ0_charAt_5068e 21 = .ok (.invokestatic 498, 3) := by decide +kernel
theorem dJ0_charAt_5068e_24 : decode cJ0_charAt_5068e 24 = .ok (.ireturn, 1) := by decide +kernel
theorem dJ0_indexOf_0f7a4_0 : decode cJ0_indexOf_0f7a4 0 = .ok (.aload_n 0, 1) := by decide +kernel
theorem dJ0_indexOf_0f7a4_1 : decode cJ0_indexOf_0f7a4 1 = .ok (.iload_n 1, 1) := by decide +kernel
theorem dJ0_indexOf_0f7a4_2 : decode cJ0_indexOf_0f7a4 2 = .ok (.iconst 0, 1) := by decide +kernel
theorem dJ0_indexOf_0f7a4_3 : decode cJ0_indexOf_0f7a4 3 = .ok (.invokevirtual 633, 3) := by decide +kernel
theorem dJ0_indexOf_0f7a4_6 : decode cJ0_indexOf_0f7a4 6 = .ok (.ireturn, 1) := by decide +kernel
theorem dJ0_indexOf_7cf53_0 : decode cJ0_indexOf_7cf53 0 = .ok (.aload_n 0, 1) := by decide +kernel
theorem dJ0_indexOf_7cf53_1 : decode cJ0_indexOf_7cf53 1 = .ok (.invokevirtual 492, 3) := by decide +kernel
theorem dJ0_indexOf_7cf53_4 : decode cJ0_indexOf_7cf53 4 = .ok (.ifCond .eq 19, 3) := by decide +kernel
theorem dJ0_indexOf_7cf53_7 : decode cJ0_indexOf_7cf53 7 = .ok (.aload_n 0, 1) := by decide +kernel
theorem dJ0_indexOf_7cf53_8 : decode cJ0_indexOf_7cf53 8 = .ok (.getfield 9, 3) := by decide +kernel
theorem dJ0_indexOf_7cf53_11 : decode cJ0_indexOf_7cf53 11 = .ok (.iload_n 1, 1) := by decide +kernel
theorem dJ0_indexOf_7cf53_12 : decode cJ0_indexOf_7cf53 12 = .ok (.iload_n 2, 1) := by decide +kernel
theorem dJ0_indexOf_7cf53_13 : decode cJ0_indexOf_7cf53 13 = .ok (.aload_n 0, 1) := by decide +kernel
theorem dJ0_indexOf_7cf53_14 : decode cJ0_indexOf_7cf53 14 = .ok (.invokevirtual 505, 3) := by decide +kernel
theorem dJ0_indexOf_7cf53_17 : decode cJ0_indexOf_7cf53 17 = .ok (.invokestatic 637, 3) := by decide +kernel
theorem dJ0_indexOf_7cf53_20 : decode cJ0_indexOf_7cf53 20 = .ok (.goto 16, 3) := by decide +kernel
theorem dJ0_indexOf_7cf53_23 : decode cJ0_indexOf_7cf53 23 = .ok (.aload_n 0, 1) := by decide +kernel
theorem dJ0_indexOf_7cf53_24 : decode cJ0_indexOf_7cf53 24 = .ok (.getfield 9, 3) := by decide +kernel
theorem dJ0_indexOf_7cf53_27 : decode cJ0_indexOf_7cf53 27 = .ok (.iload_n 1, 1) := by decide +kernel
theorem dJ0_indexOf_7cf53_28 : decode cJ0_indexOf_7cf53 28 = .ok (.iload_n 2, 1) := by decide +kernel
theorem dJ0_indexOf_7cf53_29 : decode cJ0_indexOf_7cf53 29 = .ok (.aload_n 0, 1) := by decide +kernel
theorem dJ0_indexOf_7cf53_30 : decode cJ0_indexOf_7cf53 30 = .ok (.invokevirtual 505, 3) := by decide +kernel
theorem dJ0_indexOf_7cf53_33 : decode cJ0_indexOf_7cf53 33 = .ok (.invokestatic 640, 3) := by decide +kernel
theorem dJ0_indexOf_7cf53_36 : decode cJ0_indexOf_7cf53 36 = .ok (.ireturn, 1) := by decide +kernel
theorem dJ0_coder_7d493_0 : decode cJ0_coder_7d493 0 = .ok (.getstatic 38, 3) := by decide +kernel
theorem dJ0_coder_7d493_3 : decode cJ0_coder_7d493 3 = .ok (.ifCond .eq 10, 3) := by decide +kernel
theorem dJ0_coder_7d493_6 : decode cJ0_coder_7d493 6 = .ok (.aload_n 0, 1) := by decide +kernel
theorem dJ0_coder_7d493_7 : decode cJ0_coder_7d493 7 = .ok (.getfield 15, 3) := by decide +kernel
theorem dJ0_coder_7d493_10 : decode cJ0_coder_7d493 10 = .ok (.goto 4, 3) := by decide +kernel
theorem dJ0_coder_7d493_13 : decode cJ0_coder_7d493 13 = .ok (.iconst 1, 1) := by decide +kernel
theorem dJ0_coder_7d493_14 : decode cJ0_coder_7d493 14 = .ok (.ireturn, 1) := by decide +kernel
theorem dJ0_isLatin1_aae02_0 : decode cJ0_isLatin1_aae02 0 = .ok (.getstatic 38, 3) := by decide +kernel
theorem dJ0_isLatin1_aae02_3 : decode cJ0_isLatin1_aae02 3 = .ok (.ifCond .eq 14, 3) := by decide +kernel
theorem dJ0_isLatin1_aae02_6 : decode cJ0_isLatin1_aae02 6 = .ok (.aload_n 0, 1) := by decide +kernel
theorem dJ0_isLatin1_aae02_7 : decode cJ0_isLatin1_aae02 7 = .ok (.getfield 15, 3) := by decide +kernel
theorem dJ0_isLatin1_aae02_10 : decode cJ0_isLatin1_aae02 10 = .ok (.ifCond .ne 7, 3) := by decide +kernel
theorem dJ0_isLatin1_aae02_13 : decode cJ0_isLatin1_aae02 13 = .ok (.iconst 1, 1) := by decide +kernel
theorem dJ0_isLatin1_aae02_14 : decode cJ0_isLatin1_aae02 14 = .ok (.goto 4, 3) := by decide +kernel
theorem dJ0_isLatin1_aae02_17 : decode cJ0_isLatin1_aae02 17 = .ok (.iconst 0, 1) := by decide +kernel
theorem dJ0_isLatin1_aae02_18 : decode cJ0_isLatin1_aae02 18 = .ok (.ireturn, 1) := by decide +kernel
theorem dJ0_checkIndex_df160_0 : decode cJ0_checkIndex_df160 0 = .ok (.iload_n 0, 1) := by decide +kernel
theorem dJ0_checkIndex_df160_1 : decode cJ0_checkIndex_df160 1 = .ok (.iload_n 1, 1) := by decide +kernel
theorem dJ0_checkIndex_df160_2 : decode cJ0_checkIndex_df160 2 = .ok (.getstatic 1053, 3) := by decide +kernel
theorem dJ0_checkIndex_df160_5 : decode cJ0_checkIndex_df160 5 = .ok (.invokestatic 1059, 3) := by decide +kernel
theorem dJ0_checkIndex_df160_8 : decode cJ0_checkIndex_df160 8 = .ok (.pop, 1) := by decide +kernel
theorem dJ0_checkIndex_df160_9 : decode cJ0_checkIndex_df160 9 = .ok (.return_, 1) := by decide +kernel
theorem dJ0_checkBoundsBeginEnd_23922_0 : decode cJ0_checkBoundsBeginEnd_23922 0 = .ok (.iload_n 0, 1) := by decide +kernel
theorem dJ0_checkBoundsBeginEnd_23922_1 : decode cJ0_checkBoundsBeginEnd_23922 1 = .ok (.iload_n 1, 1) := by decide +kernel
theorem dJ0_checkBoundsBeginEnd_23922_2 : decode cJ0_checkBoundsBeginEnd_23922 2 = .ok (.iload_n 2, 1) := by decide +kernel
theorem dJ0_checkBoundsBeginEnd_23922_3 : decode cJ0_checkBoundsBeginEnd_23922 3 = .ok (.getstatic 1053, 3) := by decide +kernel
theorem dJ0_checkBoundsBeginEnd_23922_6 : decode cJ0_checkBoundsBeginEnd_23922 6 = .ok (.invokestatic 1062, 3) := by decide +kernel
theorem dJ0_checkBoundsBeginEnd_23922_9 : decode cJ0_checkBoundsBeginEnd_23922 9 = .ok (.pop, 1) := by decide +kernel
theorem dJ0_checkBoundsBeginEnd_23922_10 : decode cJ0_checkBoundsBeginEnd_23922 10 = .ok (.return_, 1) := by decide +kernel
theorem dJ1_charAt_3b067_0 : decode cJ1_charAt_3b067 0 = .ok (.iload_n 1, 1) := by decide +kernel
theorem dJ1_charAt_3b067_1 : decode cJ1_charAt_3b067 1 = .ok (.aload_n 0, 1) := by decide +kernel
theorem dJ1_charAt_3b067_2 : decode cJ1_charAt_3b067 2 = .ok (.arraylength, 1) := by decide +kernel
theorem dJ1_charAt_3b067_3 : decode cJ1_charAt_3b067 3 = .ok (.invokestatic 9, 3) := by decide +kernel
theorem dJ1_charAt_3b067_6 : decode cJ1_charAt_3b067 6 = .ok (.aload_n 0, 1) := by decide +kernel
theorem dJ1_charAt_3b067_7 : decode cJ1_charAt_3b067 7 = .ok (.iload_n 1, 1) := by decide +kernel
theorem dJ1_charAt_3b067_8 : decode cJ1_charAt_3b067 8 = .ok (.baload, 1) := by decide +kernel
theorem dJ1_charAt_3b067_9 : decode cJ1_charAt_3b067 9 = .ok (.sipush 255, 3) := by decide +kernel
theorem dJ1_charAt_3b067_12 : decode cJ1_charAt_3b067 12 = .ok (.iand, 1) := by decide +kernel
theorem dJ1_charAt_3b067_13 : decode cJ1_charAt_3b067 13 = .ok (.i2c, 1) := by decide +kernel
theorem dJ1_charAt_3b067_14 : decode cJ1_charAt_3b067 14 = .ok (.ireturn, 1) := by decide +kernel
theorem dJ1_canEncode_9a6ad_0 : decode cJ1_canEncode_9a6ad 0 = .ok (.iload_n 0, 1) := by decide +kernel
theorem dJ1_canEncode_9a6ad_1 : decode cJ1_canEncode_9a6ad 1 = .ok (.ifCond .lt 14, 3) := by decide +kernel
theorem dJ1_canEncode_9a6ad_4 : decode cJ1_canEncode_9a6ad 4 = .ok (.iload_n 0, 1) := by decide +kernel
theorem dJ1_canEncode_9a6ad_5 : decode cJ1_canEncode_9a6ad 5 = .ok (.sipush 255, 3) := by decide +kernel
theorem dJ1_canEncode_9a6ad_8 : decode cJ1_canEncode_9a6ad 8 = .ok (.if_icmp .gt 7, 3) := by decide +kernel
theorem dJ1_canEncode_9a6ad_11 : decode cJ1_canEncode_9a6ad 11 = .ok (.iconst 1, 1) := by decide +kernel
theorem dJ1_canEncode_9a6ad_12 : decode cJ1_canEncode_9a6ad 12 = .ok (.goto 4, 3) := by decide +kernel
theorem dJ1_canEncode_9a6ad_15 : decode cJ1_canEncode_9a6ad 15 = .ok (.iconst 0, 1) := by decide +kernel
theorem dJ1_canEncode_9a6ad_16 : decode cJ1_canEncode_9a6ad 16 = .ok (.ireturn, 1) := by decide +kernel
theorem dJ1_indexOf_4cfef_0 : decode cJ1_indexOf_4cfef 0 = .ok (.iload_n 1, 1) := by decide +kernel
theorem dJ1_indexOf_4cfef_1 : decode cJ1_indexOf_4cfef 1 = .ok (.invokestatic 88, 3) := by decide +kernel
theorem dJ1_indexOf_4cfef_4 : decode cJ1_indexOf_4cfef 4 = .ok (.ifCond .ne 5, 3) := by decide +kernel
theorem dJ1_indexOf_4cfef_7 : decode cJ1_indexOf_4cfef 7 = .ok (.iconst (-1), 1) := by decide +kernel
theorem dJ1_indexOf_4cfef_8 : decode cJ1_indexOf_4cfef 8 = .ok (.ireturn, 1) := by decide +kernel
theorem dJ1_indexOf_4cfef_9 : decode cJ1_indexOf_4cfef 9 = .ok (.iload_n 2, 1) := by decide +kernel
theorem dJ1_indexOf_4cfef_10 : decode cJ1_indexOf_4cfef 10 = .ok (.iconst 0, 1) := by decide +kernel
theorem dJ1_indexOf_4cfef_11 : decode cJ1_indexOf_4cfef 11 = .ok (.invokestatic 92, 3) := by decide +kernel
theorem dJ1_indexOf_4cfef_14 : decode cJ1_indexOf_4cfef 14 = .ok (.istore_n 2, 1) := by decide +kernel
theorem dJ1_indexOf_4cfef_15 : decode cJ1_indexOf_4cfef 15 = .ok (.iload_n 3, 1) := by decide +kernel
theorem dJ1_indexOf_4cfef_16 : decode cJ1_indexOf_4cfef 16 = .ok (.aload_n 0, 1) := by decide +kernel
theorem dJ1_indexOf_4cfef_17 : decode cJ1_indexOf_4cfef 17 = .ok (.arraylength, 1) := by decide +kernel
theorem dJ1_indexOf_4cfef_18 : decode cJ1_indexOf_4cfef 18 = .ok (.invokestatic 38, 3) := by decide +kernel
theorem dJ1_indexOf_4cfef_21 : decode cJ1_indexOf_4cfef 21 = .ok (.istore_n 3, 1) := by decide +kernel
theorem dJ1_indexOf_4cfef_22 : decode cJ1_indexOf_4cfef 22 = .ok (.iload_n 2, 1) := by decide +kernel
theorem dJ1_indexOf_4cfef_23 : decode cJ1_indexOf_4cfef 23 = .ok (.iload_n 3, 1) := by decide +kernel
theorem dJ1_indexOf_4cfef_24 : decode cJ1_indexOf_4cfef 24 = .ok (.if_icmp .lt 5, 3) := by decide +kernel
theorem dJ1_indexOf_4cfef_27 : decode cJ1_indexOf_4cfef 27 = .ok (.iconst (-1), 1) := by decide +kernel
theorem dJ1_indexOf_4cfef_28 : decode cJ1_indexOf_4cfef 28 = .ok (.ireturn, 1) := by decide +kernel
theorem dJ1_indexOf_4cfef_29 : decode cJ1_indexOf_4cfef 29 = .ok (.aload_n 0, 1) := by decide +kernel
theorem dJ1_indexOf_4cfef_30 : decode cJ1_indexOf_4cfef 30 = .ok (.iload_n 1, 1) := by decide +kernel
theorem dJ1_indexOf_4cfef_31 : decode cJ1_indexOf_4cfef 31 = .ok (.iload_n 2, 1) := by decide +kernel
theorem dJ1_indexOf_4cfef_32 : decode cJ1_indexOf_4cfef 32 = .ok (.iload_n 3, 1) := by decide +kernel
theorem dJ1_indexOf_4cfef_33 : decode cJ1_indexOf_4cfef 33 = .ok (.invokestatic 95, 3) := by decide +kernel
theorem dJ1_indexOf_4cfef_36 : decode cJ1_indexOf_4cfef 36 = .ok (.ireturn, 1) := by decide +kernel
theorem dJ1_indexOfChar_4cfef_0 : decode cJ1_indexOfChar_4cfef 0 = .ok (.iload_n 1, 1) := by decide +kernel
theorem dJ1_indexOfChar_4cfef_1 : decode cJ1_indexOfChar_4cfef 1 = .ok (.i2b, 1) := by decide +kernel
theorem dJ1_indexOfChar_4cfef_2 : decode cJ1_indexOfChar_4cfef 2 = .ok (.istore 4, 2) := by decide +kernel
theorem dJ1_indexOfChar_4cfef_4 : decode cJ1_indexOfChar_4cfef 4 = .ok (.iload_n 2, 1) := by decide +kernel
theorem dJ1_indexOfChar_4cfef_5 : decode cJ1_indexOfChar_4cfef 5 = .ok (.istore 5, 2) := by decide +kernel
theorem dJ1_indexOfChar_4cfef_7 : decode cJ1_indexOfChar_4cfef 7 = .ok (.iload 5, 2) := by decide +kernel
theorem dJ1_indexOfChar_4cfef_9 : decode cJ1_indexOfChar_4cfef 9 = .ok (.iload_n 3, 1) := by decide +kernel
theorem dJ1_indexOfChar_4cfef_10 : decode cJ1_indexOfChar_4cfef 10 = .ok (.if_icmp .ge 21, 3) := by decide +kernel
theorem dJ1_indexOfChar_4cfef_13 : decode cJ1_indexOfChar_4cfef 13 = .ok (.aload_n 0, 1) := by decide +kernel
theorem dJ1_indexOfChar_4cfef_14 : decode cJ1_indexOfChar_4cfef 14 = .ok (.iload 5, 2) := by decide +kernel
theorem dJ1_indexOfChar_4cfef_16 : decode cJ1_indexOfChar_4cfef 16 = .ok (.baload, 1) := by decide +kernel
theorem dJ1_indexOfChar_4cfef_17 : decode cJ1_indexOfChar_4cfef 17 = .ok (.iload 4, 2) := by decide +kernel
theorem dJ1_indexOfChar_4cfef_19 : decode cJ1_indexOfChar_4cfef 19 = .ok (.if_icmp .ne 6, 3) := by decide +kernel
theorem dJ1_indexOfChar_4cfef_22 : decode cJ1_indexOfChar_4cfef 22 = .ok (.iload 5, 2) := by decide +kernel
theorem dJ1_indexOfChar_4cfef_24 : decode cJ1_indexOfChar_4cfef 24 = .ok (.ireturn, 1) := by decide +kernel
theorem dJ1_indexOfChar_4cfef_25 : decode cJ1_indexOfChar_4cfef 25 = .ok (.iinc 5 1, 3) := by decide +kernel
theorem dJ1_indexOfChar_4cfef_28 : decode cJ1_indexOfChar_4cfef 28 = .ok (.goto (-21), 3) := by decide +kernel
theorem dJ1_indexOfChar_4cfef_31 : decode cJ1_indexOfChar_4cfef 31 = .ok (.iconst (-1), 1) := by decide +kernel
theorem dJ1_indexOfChar_4cfef_32 : decode cJ1_indexOfChar_4cfef 32 = .ok (.ireturn, 1) := by decide +kernel
theorem dJ2_getChar_3b067_0 : decode cJ2_getChar_3b067 0 = .ok (.getstatic 44, 3) := by decide +kernel
theorem dJ2_getChar_3b067_3 : decode cJ2_getChar_3b067 3 = .ok (.ifCond .ne 25, 3) := by decide +kernel
theorem dJ2_getChar_3b067_6 : decode cJ2_getChar_3b067 6 = .ok (.iload_n 1, 1) := by decide +kernel
theorem dJ2_getChar_3b067_7 : decode cJ2_getChar_3b067 7 = .ok (.ifCond .lt 11, 3) := by decide +kernel
theorem dJ2_getChar_3b067_10 : decode cJ2_getChar_3b067 10 = .ok (.iload_n 1, 1) := by decide +kernel
theorem dJ2_getChar_3b067_11 : decode cJ2_getChar_3b067 11 = .ok (.aload_n 0, 1) := by decide +kernel
theorem dJ2_getChar_3b067_12 : decode cJ2_getChar_3b067 12 = .ok (.invokestatic 48, 3) := by decide +kernel
theorem dJ2_getChar_3b067_15 : decode cJ2_getChar_3b067 15 = .ok (.if_icmp .lt 13, 3) := by decide +kernel
theorem dJ2_getChar_3b067_18 : decode cJ2_getChar_3b067 18 = .ok (.new 52, 3) := by decide +kernel
theorem dJ2_getChar_3b067_21 : decode cJ2_getChar_3b067 21 = .ok (.dup, 1) := by decide +kernel
theorem dJ2_getChar_3b067_22 : decode cJ2_getChar_3b067 22 = .ok (.ldc 54, 2) := by decide +kernel
theorem dJ2_getChar_3b067_24 : decode cJ2_getChar_3b067 24 = .ok (.invokespecial 56, 3) := by decide +kernel
theorem dJ2_getChar_3b067_27 : decode cJ2_getChar_3b067 27 = .ok (.athrow, 1) := by decide +kernel
theorem dJ2_getChar_3b067_28 : decode cJ2_getChar_3b067 28 = .ok (.iload_n 1, 1) := by decide +kernel
theorem dJ2_getChar_3b067_29 : decode cJ2_getChar_3b067 29 = .ok (.iconst 1, 1) := by decide +kernel
theorem dJ2_getChar_3b067_30 : decode cJ2_getChar_3b067 30 = .ok (.ishl, 1) := by decide +kernel
theorem dJ2_getChar_3b067_31 : decode cJ2_getChar_3b067 31 = .ok (.istore_n 1, 1) := by decide +kernel
theorem dJ2_getChar_3b067_32 : decode cJ2_getChar_3b067 32 = .ok (.aload_n 0, 1) := by decide +kernel
theorem dJ2_getChar_3b067_33 : decode cJ2_getChar_3b067 33 = .ok (.iload_n 1, 1) := by decide +kernel
theorem dJ2_getChar_3b067_34 : decode cJ2_getChar_3b067 34 = .ok (.iinc 1 1, 3) := by decide +kernel
theorem dJ2_getChar_3b067_37 : decode cJ2_getChar_3b067 37 = .ok (.baload, 1) := by decide +kernel
theorem dJ2_getChar_3b067_38 : decode cJ2_getChar_3b067 38 = .ok (.sipush 255, 3) := by decide +kernel
theorem dJ2_getChar_3b067_41 : decode cJ2_getChar_3b067 41 = .ok (.iand, 1) := by decide +kernel
theorem dJ2_getChar_3b067_42 : decode cJ2_getChar_3b067 42 = .ok (.getstatic 59, 3) := by decide +kernel
theorem dJ2_getChar_3b067_45 : decode cJ2_getChar_3b067 45 = .ok (.ishl, 1) := by decide +kernel
theorem dJ2_getChar_3b067_46 : decode cJ2_getChar_3b067 46 = .ok (.aload_n 0, 1) := by decide +kernel
theorem dJ2_getChar_3b067_47 : decode cJ2_getChar_3b067 47 = .ok (.iload_n 1, 1) := by decide +kernel
theorem dJ2_getChar_3b067_48 : decode cJ2_getChar_3b067 48 = .ok (.baload, 1) := by decide +kernel
theorem dJ2_getChar_3b067_49 : decode cJ2_getChar_3b067 49 = .ok (.sipush 255, 3) := by decide +kernel
theorem dJ2_getChar_3b067_52 : decode cJ2_getChar_3b067 52 = .ok (.iand, 1) := by decide +kernel
theorem dJ2_getChar_3b067_53 : decode cJ2_getChar_3b067 53 = .ok (.getstatic 63, 3) := by decide +kernel
theorem dJ2_getChar_3b067_56 : decode cJ2_getChar_3b067 56 = .ok (.ishl, 1) := by decide +kernel
theorem dJ2_getChar_3b067_57 : decode cJ2_getChar_3b067 57 = .ok (.ior, 1) := by decide +kernel
theorem dJ2_getChar_3b067_58 : decode cJ2_getChar_3b067 58 = .ok (.i2c, 1) := by decide +kernel
theorem dJ2_getChar_3b067_59 : decode cJ2_getChar_3b067 59 = .ok (.ireturn, 1) := by decide +kernel
theorem dJ2_length_9d52b_0 : decode cJ2_length_9d52b 0 = .ok (.aload_n 0, 1) := by decide +kernel
theorem dJ2_length_9d52b_1 : decode cJ2_length_9d52b 1 = .ok (.arraylength, 1) := by decide +kernel
theorem dJ2_length_9d52b_2 : decode cJ2_length_9d52b 2 = .ok (.iconst 1, 1) := by decide +kernel
theorem dJ2_length_9d52b_3 : decode cJ2_length_9d52b 3 = .ok (.ishr, 1) := by decide +kernel
theorem dJ2_length_9d52b_4 : decode cJ2_length_9d52b 4 = .ok (.ireturn, 1) := by decide +kernel
theorem dJ2_indexOf_4cfef_0 : decode cJ2_indexOf_4cfef 0 = .ok (.iload_n 2, 1) := by decide +kernel
theorem dJ2_indexOf_4cfef_1 : decode cJ2_indexOf_4cfef 1 = .ok (.iconst 0, 1) := by decide +kernel
theorem dJ2_indexOf_4cfef_2 : decode cJ2_indexOf_4cfef 2 = .ok (.invokestatic 224, 3) := by decide +kernel
theorem dJ2_indexOf_4cfef_5 : decode cJ2_indexOf_4cfef 5 = .ok (.istore_n 2, 1) := by decide +kernel
theorem dJ2_indexOf_4cfef_6 : decode cJ2_indexOf_4cfef 6 = .ok (.iload_n 3, 1) := by decide +kernel
theorem dJ2_indexOf_4cfef_7 : decode cJ2_indexOf_4cfef 7 = .ok (.aload_n 0, 1) := by decide +kernel
theorem dJ2_indexOf_4cfef_8 : decode cJ2_indexOf_4cfef 8 = .ok (.arraylength, 1) := by decide +kernel
theorem dJ2_indexOf_4cfef_9 : decode cJ2_indexOf_4cfef 9 = .ok (.iconst 1, 1) := by decide +kernel
theorem dJ2_indexOf_4cfef_10 : decode cJ2_indexOf_4cfef 10 = .ok (.ishr, 1) := by decide +kernel
theorem dJ2_indexOf_4cfef_11 : decode cJ2_indexOf_4cfef 11 = .ok (.invokestatic 183, 3) := by decide +kernel
theorem dJ2_indexOf_4cfef_14 : decode cJ2_indexOf_4cfef 14 = .ok (.istore_n 3, 1) := by decide +kernel
theorem dJ2_indexOf_4cfef_15 : decode cJ2_indexOf_4cfef 15 = .ok (.iload_n 2, 1) := by decide +kernel
theorem dJ2_indexOf_4cfef_16 : decode cJ2_indexOf_4cfef 16 = .ok (.iload_n 3, 1) := by decide +kernel
theorem dJ2_indexOf_4cfef_17 : decode cJ2_indexOf_4cfef 17 = .ok (.if_icmp .lt 5, 3) := by decide +kernel
theorem dJ2_indexOf_4cfef_20 : decode cJ2_indexOf_4cfef 20 = .ok (.iconst (-1), 1) := by decide +kernel
theorem dJ2_indexOf_4cfef_21 : decode cJ2_indexOf_4cfef 21 = .ok (.ireturn, 1) := by decide +kernel
theorem dJ2_indexOf_4cfef_22 : decode cJ2_indexOf_4cfef 22 = .ok (.iload_n 1, 1) := by decide +kernel
theorem dJ2_indexOf_4cfef_23 : decode cJ2_indexOf_4cfef 23 = .ok (.ldc 227, 2) := by decide +kernel
theorem dJ2_indexOf_4cfef_25 : decode cJ2_indexOf_4cfef 25 = .ok (.if_icmp .ge 11, 3) := by decide +kernel
theorem dJ2_indexOf_4cfef_28 : decode cJ2_indexOf_4cfef 28 = .ok (.aload_n 0, 1) := by decide +kernel
theorem dJ2_indexOf_4cfef_29 : decode cJ2_indexOf_4cfef 29 = .ok (.iload_n 1, 1) := by decide +kernel
theorem dJ2_indexOf_4cfef_30 : decode cJ2_indexOf_4cfef 30 = .ok (.iload_n 2, 1) := by decide +kernel
theorem dJ2_indexOf_4cfef_31 : decode cJ2_indexOf_4cfef 31 = .ok (.iload_n 3, 1) := by decide +kernel
theorem dJ2_indexOf_4cfef_32 : decode cJ2_indexOf_4cfef 32 = .ok (.invokestatic 228, 3) := by decide +kernel
theorem dJ2_indexOf_4cfef_35 : decode cJ2_indexOf_4cfef 35 = .ok (.ireturn, 1) := by decide +kernel
theorem dJ2_indexOf_4cfef_36 : decode cJ2_indexOf_4cfef 36 = .ok (.aload_n 0, 1) := by decide +kernel
theorem dJ2_indexOf_4cfef_37 : decode cJ2_indexOf_4cfef 37 = .ok (.iload_n 1, 1) := by decide +kernel
theorem dJ2_indexOf_4cfef_38 : decode cJ2_indexOf_4cfef 38 = .ok (.iload_n 2, 1) := by decide +kernel
theorem dJ2_indexOf_4cfef_39 : decode cJ2_indexOf_4cfef 39 = .ok (.iload_n 3, 1) := by decide +kernel
theorem dJ2_indexOf_4cfef_40 : decode cJ2_indexOf_4cfef 40 = .ok (.invokestatic 232, 3) := by decide +kernel
theorem dJ2_indexOf_4cfef_43 : decode cJ2_indexOf_4cfef 43 = .ok (.ireturn, 1) := by decide +kernel
theorem dJ2_indexOfChar_4cfef_0 : decode cJ2_indexOfChar_4cfef 0 = .ok (.iload_n 2, 1) := by decide +kernel
theorem dJ2_indexOfChar_4cfef_1 : decode cJ2_indexOfChar_4cfef 1 = .ok (.iload_n 3, 1) := by decide +kernel
theorem dJ2_indexOfChar_4cfef_2 : decode cJ2_indexOfChar_4cfef 2 = .ok (.aload_n 0, 1) := by decide +kernel
theorem dJ2_indexOfChar_4cfef_3 : decode cJ2_indexOfChar_4cfef 3 = .ok (.invokestatic 96, 3) := by decide +kernel
theorem dJ2_indexOfChar_4cfef_6 : decode cJ2_indexOfChar_4cfef 6 = .ok (.aload_n 0, 1) := by decide +kernel
theorem dJ2_indexOfChar_4cfef_7 : decode cJ2_indexOfChar_4cfef 7 = .ok (.iload_n 1, 1) := by decide +kernel
theorem dJ2_indexOfChar_4cfef_8 : decode cJ2_indexOfChar_4cfef 8 = .ok (.iload_n 2, 1) := by decide +kernel
theorem dJ2_indexOfChar_4cfef_9 : decode cJ2_indexOfChar_4cfef 9 = .ok (.iload_n 3, 1) := by decide +kernel
theorem dJ2_indexOfChar_4cfef_10 : decode cJ2_indexOfChar_4cfef 10 = .ok (.invokestatic 244, 3) := by decide +kernel
theorem dJ2_indexOfChar_4cfef_13 : decode cJ2_indexOfChar_4cfef 13 = .ok (.ireturn, 1) := by decide +kernel
theorem dJ2_indexOfCharUnsafe_4cfef_0 : decode cJ2_indexOfCharUnsafe_4cfef 0 = .ok (.iload_n 2, 1) := by decide +kernel
theorem dJ2_indexOfCharUnsafe_4cfef_1 : decode cJ2_indexOfCharUnsafe_4cfef 1 = .ok (.istore 4, 2) := by decide +kernel
theorem dJ2_indexOfCharUnsafe_4cfef_3 : decode cJ2_indexOfCharUnsafe_4cfef 3 = .ok (.iload 4, 2) := by decide +kernel
theorem dJ2_indexOfCharUnsafe_4cfef_5 : decode cJ2_indexOfCharUnsafe_4cfef 5 = .ok (.iload_n 3, 1) := by decide +kernel
theorem dJ2_indexOfCharUnsafe_4cfef_6 : decode cJ2_indexOfCharUnsafe_4cfef 6 = .ok (.if_icmp .ge 22, 3) := by decide +kernel
theorem dJ2_indexOfCharUnsafe_4cfef_9 : decode cJ2_indexOfCharUnsafe_4cfef 9 = .ok (.aload_n 0, 1) := by decide +kernel
theorem dJ2_indexOfCharUnsafe_4cfef_10 : decode cJ2_indexOfCharUnsafe_4cfef 10 = .ok (.iload 4, 2) := by decide +kernel
theorem dJ2_indexOfCharUnsafe_4cfef_12 : decode cJ2_indexOfCharUnsafe_4cfef 12 = .ok (.invokestatic 71, 3) := by decide +kernel
theorem dJ2_indexOfCharUnsafe_4cfef_15 : decode cJ2_indexOfCharUnsafe_4cfef 15 = .ok (.iload_n 1, 1) := by decide +kernel
theorem dJ2_indexOfCharUnsafe_4cfef_16 : decode cJ2_indexOfCharUnsafe_4cfef 16 = .ok (.if_icmp .ne 6, 3) := by decide +kernel
theorem dJ2_indexOfCharUnsafe_4cfef_19 : decode cJ2_indexOfCharUnsafe_4cfef 19 = .ok (.iload 4, 2) := by decide +kernel
theorem dJ2_indexOfCharUnsafe_4cfef_21 : decode cJ2_indexOfCharUnsafe_4cfef 21 = .ok (.ireturn, 1) := by decide +kernel
theorem dJ2_indexOfCharUnsafe_4cfef_22 : decode cJ2_indexOfCharUnsafe_4cfef 22 = .ok (.iinc 4 1, 3) := by decide +kernel
theorem dJ2_indexOfCharUnsafe_4cfef_25 : decode cJ2_indexOfCharUnsafe_4cfef 25 = .ok (.goto (-22), 3) := by decide +kernel
theorem dJ2_indexOfCharUnsafe_4cfef_28 : decode cJ2_indexOfCharUnsafe_4cfef 28 = .ok (.iconst (-1), 1) := by decide +kernel
theorem dJ2_indexOfCharUnsafe_4cfef_29 : decode cJ2_indexOfCharUnsafe_4cfef 29 = .ok (.ireturn, 1) := by decide +kernel
theorem dJ2_indexOfSupplementary_4cfef_0 : decode cJ2_indexOfSupplementary_4cfef 0 = .ok (.iload_n 1, 1) := by decide +kernel
theorem dJ2_indexOfSupplementary_4cfef_1 : decode cJ2_indexOfSupplementary_4cfef 1 = .ok (.invokestatic 164, 3) := by decide +kernel
theorem dJ2_indexOfSupplementary_4cfef_4 : decode cJ2_indexOfSupplementary_4cfef 4 = .ok (.ifCond .eq 65, 3) := by decide +kernel
theorem dJ2_indexOfSupplementary_4cfef_7 : decode cJ2_indexOfSupplementary_4cfef 7 = .ok (.iload_n 1, 1) := by decide +kernel
theorem dJ2_indexOfSupplementary_4cfef_8 : decode cJ2_indexOfSupplementary_4cfef 8 = .ok (.invokestatic 157, 3) := by decide +kernel
theorem dJ2_indexOfSupplementary_4cfef_11 : decode cJ2_indexOfSupplementary_4cfef 11 = .ok (.istore 4, 2) := by decide +kernel
theorem dJ2_indexOfSupplementary_4cfef_13 : decode cJ2_indexOfSupplementary_4cfef 13 = .ok (.iload_n 1, 1) := by decide +kernel
theorem dJ2_indexOfSupplementary_4cfef_14 : decode cJ2_indexOfSupplementary_4cfef 14 = .ok (.invokestatic 161, 3) := by decide +kernel
theorem dJ2_indexOfSupplementary_4cfef_17 : decode cJ2_indexOfSupplementary_4cfef 17 = .ok (.istore 5, 2) := by decide +kernel
theorem dJ2_indexOfSupplementary_4cfef_19 : decode cJ2_indexOfSupplementary_4cfef 19 = .ok (.iload_n 2, 1) := by decide +kernel
theorem dJ2_indexOfSupplementary_4cfef_20 : decode cJ2_indexOfSupplementary_4cfef 20 = .ok (.iload_n 3, 1) := by decide +kernel
theorem dJ2_indexOfSupplementary_4cfef_21 : decode cJ2_indexOfSupplementary_4cfef 21 = .ok (.aload_n 0, 1) := by decide +kernel
theorem dJ2_indexOfSupplementary_4cfef_22 : decode cJ2_indexOfSupplementary_4cfef 22 = .ok (.invokestatic 96, 3) := by decide +kernel
theorem dJ2_indexOfSupplementary_4cfef_25 : decode cJ2_indexOfSupplementary_4cfef 25 = .ok (.iload_n 2, 1) := by decide +kernel
theorem dJ2_indexOfSupplementary_4cfef_26 : decode cJ2_indexOfSupplementary_4cfef 26 = .ok (.istore 6, 2) := by decide +kernel
theorem dJ2_indexOfSupplementary_4cfef_28 : decode cJ2_indexOfSupplementary_4cfef 28 = .ok (.iload 6, 2) := by decide +kernel
theorem dJ2_indexOfSupplementary_4cfef_30 : decode cJ2_indexOfSupplementary_4cfef 30 = .ok (.iload_n 3, 1) := by decide +kernel
theorem dJ2_indexOfSupplementary_4cfef_31 : decode cJ2_indexOfSupplementary_4cfef 31 = .ok (.iconst 1, 1) := by decide +kernel
theorem dJ2_indexOfSupplementary_4cfef_32 : decode cJ2_indexOfSupplementary_4cfef 32 = .ok (.isub, 1) := by decide +kernel
theorem dJ2_indexOfSupplementary_4cfef_33 : decode cJ2_indexOfSupplementary_4cfef 33 = .ok (.if_icmp .ge 36, 3) := by decide +kernel
theorem dJ2_indexOfSupplementary_4cfef_36 : decode cJ2_indexOfSupplementary_4cfef 36 = .ok (.aload_n 0, 1) := by decide +kernel
theorem dJ2_indexOfSupplementary_4cfef_37 : decode cJ2_indexOfSupplementary_4cfef 37 = .ok (.iload 6, 2) := by decide +kernel
theorem dJ2_indexOfSupplementary_4cfef_39 : decode cJ2_indexOfSupplementary_4cfef 39 = .ok (.invokestatic 71, 3) := by decide +kernel
theorem dJ2_indexOfSupplementary_4cfef_42 : decode cJ2_indexOfSupplementary_4cfef 42 = .ok (.iload 4, 2) := by decide +kernel
theorem dJ2_indexOfSupplementary_4cfef_44 : decode cJ2_indexOfSupplementary_4cfef 44 = .ok (.if_icmp .ne 19, 3) := by decide +kernel
theorem dJ2_indexOfSupplementary_4cfef_47 : decode cJ2_indexOfSupplementary_4cfef 47 = .ok (.aload_n 0, 1) := by decide +kernel
theorem dJ2_indexOfSupplementary_4cfef_48 : decode cJ2_indexOfSupplementary_4cfef 48 = .ok (.iload 6, 2) := by decide +kernel
theorem dJ2_indexOfSupplementary_4cfef_50 : decode cJ2_indexOfSupplementary_4cfef 50 = .ok (.iconst 1, 1) := by decide +kernel
theorem dJ2_indexOfSupplementary_4cfef_51 : decode cJ2_indexOfSupplementary_4cfef 51 = .ok (.iadd, 1) := by decide +kernel
theorem dJ2_indexOfSupplementary_4cfef_52 : decode cJ2_indexOfSupplementary_4cfef 52 = .ok (.invokestatic 71, 3) := by decide +kernel
theorem dJ2_indexOfSupplementary_4cfef_55 : decode cJ2_indexOfSupplementary_4cfef 55 = .ok (.iload 5, 2) := by decide +kernel
theorem dJ2_indexOfSupplementary_4cfef_57 : decode cJ2_indexOfSupplementary_4cfef 57 = .ok (.if_icmp .ne 6, 3) := by decide +kernel
theorem dJ2_indexOfSupplementary_4cfef_60 : decode cJ2_indexOfSupplementary_4cfef 60 = .ok (.iload 6, 2) := by decide +kernel
theorem dJ2_indexOfSupplementary_4cfef_62 : decode cJ2_indexOfSupplementary_4cfef 62 = .ok (.ireturn, 1) := by decide +kernel
theorem dJ2_indexOfSupplementary_4cfef_63 : decode cJ2_indexOfSupplementary_4cfef 63 = .ok (.iinc 6 1, 3) := by decide +kernel
theorem dJ2_indexOfSupplementary_4cfef_66 : decode cJ2_indexOfSupplementary_4cfef 66 = .ok (.goto (-38), 3) := by decide +kernel
theorem dJ2_indexOfSupplementary_4cfef_69 : decode cJ2_indexOfSupplementary_4cfef 69 = .ok (.iconst (-1), 1) := by decide +kernel
theorem dJ2_indexOfSupplementary_4cfef_70 : decode cJ2_indexOfSupplementary_4cfef 70 = .ok (.ireturn, 1) := by decide +kernel
theorem dJ2_charAt_3b067_0 : decode cJ2_charAt_3b067 0 = .ok (.iload_n 1, 1) := by decide +kernel
theorem dJ2_charAt_3b067_1 : decode cJ2_charAt_3b067 1 = .ok (.aload_n 0, 1) := by decide +kernel
theorem dJ2_charAt_3b067_2 : decode cJ2_charAt_3b067 2 = .ok (.invokestatic 67, 3) := by decide +kernel
theorem dJ2_charAt_3b067_5 : decode cJ2_charAt_3b067 5 = .ok (.aload_n 0, 1) := by decide +kernel
theorem dJ2_charAt_3b067_6 : decode cJ2_charAt_3b067 6 = .ok (.iload_n 1, 1) := by decide +kernel
theorem dJ2_charAt_3b067_7 : decode cJ2_charAt_3b067 7 = .ok (.invokestatic 71, 3) := by decide +kernel
theorem dJ2_charAt_3b067_10 : decode cJ2_charAt_3b067 10 = .ok (.ireturn, 1) := by decide +kernel
theorem dJ2_checkIndex_2214a_0 : decode cJ2_checkIndex_2214a 0 = .ok (.iload_n 0, 1) := by decide +kernel
theorem dJ2_checkIndex_2214a_1 : decode cJ2_checkIndex_2214a 1 = .ok (.aload_n 1, 1) := by decide +kernel
theorem dJ2_checkIndex_2214a_2 : decode cJ2_checkIndex_2214a 2 = .ok (.invokestatic 48, 3) := by decide +kernel
theorem dJ2_checkIndex_2214a_5 : decode cJ2_checkIndex_2214a 5 = .ok (.invokestatic 414, 3) := by decide +kernel
theorem dJ2_checkIndex_2214a_8 : decode cJ2_checkIndex_2214a 8 = .ok (.return_, 1) := by decide +kernel
theorem dJ2_checkBoundsBeginEnd_d044e_0 : decode cJ2_checkBoundsBeginEnd_d044e 0 = .ok (.iload_n 0, 1) := by decide +kernel
theorem dJ2_checkBoundsBeginEnd_d044e_1 : decode cJ2_checkBoundsBeginEnd_d044e 1 = .ok (.iload_n 1, 1) := by decide +kernel
theorem dJ2_checkBoundsBeginEnd_d044e_2 : decode cJ2_checkBoundsBeginEnd_d044e 2 = .ok (.aload_n 2, 1) := by decide +kernel
theorem dJ2_checkBoundsBeginEnd_d044e_3 : decode cJ2_checkBoundsBeginEnd_d044e 3 = .ok (.invokestatic 48, 3) := by decide +kernel
theorem dJ2_checkBoundsBeginEnd_d044e_6 : decode cJ2_checkBoundsBeginEnd_d044e 6 = .ok (.invokestatic 241, 3) := by decide +kernel
theorem dJ2_checkBoundsBeginEnd_d044e_9 : decode cJ2_checkBoundsBeginEnd_d044e 9 = .ok (.return_, 1) := by decide +kernel
theorem dJ7_fill_d0a16_0 : decode cJ7_fill_d0a16 0 = .ok (.iconst 0, 1) := by decide +kernel
theorem dJ7_fill_d0a16_1 : decode cJ7_fill_d0a16 1 = .ok (.istore_n 3, 1) := by decide +kernel
theorem dJ7_fill_d0a16_2 : decode cJ7_fill_d0a16 2 = .ok (.aload_n 0, 1) := by decide +kernel
theorem dJ7_fill_d0a16_3 : decode cJ7_fill_d0a16 3 = .ok (.arraylength, 1) := by decide +kernel
theorem dJ7_fill_d0a16_4 : decode cJ7_fill_d0a16 4 = .ok (.istore 4, 2) := by decide +kernel
theorem dJ7_fill_d0a16_6 : decode cJ7_fill_d0a16 6 = .ok (.iload_n 3, 1) := by decide +kernel
theorem dJ7_fill_d0a16_7 : decode cJ7_fill_d0a16 7 = .ok (.iload 4, 2) := by decide +kernel
theorem dJ7_fill_d0a16_9 : decode cJ7_fill_d0a16 9 = .ok (.if_icmp .ge 13, 3) := by decide +kernel
theorem dJ7_fill_d0a16_12 : decode cJ7_fill_d0a16 12 = .ok (.aload_n 0, 1) := by decide +kernel
theorem dJ7_fill_d0a16_13 : decode cJ7_fill_d0a16 13 = .ok (.iload_n 3, 1) := by decide +kernel
theorem dJ7_fill_d0a16_14 : decode cJ7_fill_d0a16 14 = .ok (.lload_n 1, 1) := by decide +kernel
theorem dJ7_fill_d0a16_15 : decode cJ7_fill_d0a16 15 = .ok (.lastore, 1) := by decide +kernel
theorem dJ7_fill_d0a16_16 : decode cJ7_fill_d0a16 16 = .ok (.iinc 3 1, 3) := by decide +kernel
theorem dJ7_fill_d0a16_19 : decode cJ7_fill_d0a16 19 = .ok (.goto (-13), 3) := by decide +kernel
theorem dJ7_fill_d0a16_22 : decode cJ7_fill_d0a16 22 = .ok (.return_, 1) := by decide +kernel
theorem dJ7_fill_53178_0 : decode cJ7_fill_53178 0 = .ok (.iconst 0, 1) := by decide +kernel
theorem dJ7_fill_53178_1 : decode cJ7_fill_53178 1 = .ok (.istore_n 2, 1) := by decide +kernel
theorem dJ7_fill_53178_2 : decode cJ7_fill_53178 2 = .ok (.aload_n 0, 1) := by decide +kernel
theorem dJ7_fill_53178_3 : decode cJ7_fill_53178 3 = .ok (.arraylength, 1) := by decide +kernel
theorem dJ7_fill_53178_4 : decode cJ7_fill_53178 4 = .ok (.istore_n 3, 1) := by decide +kernel
theorem dJ7_fill_53178_5 : decode cJ7_fill_53178 5 = .ok (.iload_n 2, 1) := by decide +kernel
theorem dJ7_fill_53178_6 : decode cJ7_fill_53178 6 = .ok (.iload_n 3, 1) := by decide +kernel
theorem dJ7_fill_53178_7 : decode cJ7_fill_53178 7 = .ok (.if_icmp .ge 13, 3) := by decide +kernel
theorem dJ7_fill_53178_10 : decode cJ7_fill_53178 10 = .ok (.aload_n 0, 1) := by decide +kernel
theorem dJ7_fill_53178_11 : decode cJ7_fill_53178 11 = .ok (.iload_n 2, 1) := by decide +kernel
theorem dJ7_fill_53178_12 : decode cJ7_fill_53178 12 = .ok (.iload_n 1, 1) := by decide +kernel
theorem dJ7_fill_53178_13 : decode cJ7_fill_53178 13 = .ok (.iastore, 1) := by decide +kernel
theorem dJ7_fill_53178_14 : decode cJ7_fill_53178 14 = .ok (.iinc 2 1, 3) := by decide +kernel
theorem dJ7_fill_53178_17 : decode cJ7_fill_53178 17 = .ok (.goto (-12), 3) := by decide +kernel
theorem dJ7_fill_53178_20 : decode cJ7_fill_53178 20 = .ok (.return_, 1) := by decide +kernel
theorem dJ3_checkIndex_8e157_0 : decode cJ3_checkIndex_8e157 0 = .ok (.iload_n 0, 1) := by decide +kernel
theorem dJ3_checkIndex_8e157_1 : decode cJ3_checkIndex_8e157 1 = .ok (.ifCond .lt 8, 3) := by decide +kernel
theorem dJ3_checkIndex_8e157_4 : decode cJ3_checkIndex_8e157 4 = .ok (.iload_n 0, 1) := by decide +kernel
theorem dJ3_checkIndex_8e157_5 : decode cJ3_checkIndex_8e157 5 = .ok (.iload_n 1, 1) := by decide +kernel
theorem dJ3_checkIndex_8e157_6 : decode cJ3_checkIndex_8e157 6 = .ok (.if_icmp .lt 10, 3) := by decide +kernel
theorem dJ3_checkIndex_8e157_9 : decode cJ3_checkIndex_8e157 9 = .ok (.aload_n 2, 1) := by decide +kernel
theorem dJ3_checkIndex_8e157_10 : decode cJ3_checkIndex_8e157 10 = .ok (.iload_n 0, 1) := by decide +kernel
theorem dJ3_checkIndex_8e157_11 : decode cJ3_checkIndex_8e157 11 = .ok (.iload_n 1, 1) := by decide +kernel
theorem dJ3_checkIndex_8e157_12 : decode cJ3_checkIndex_8e157 12 = .ok (.invokestatic 95, 3) := by decide +kernel
theorem dJ3_checkIndex_8e157_15 : decode cJ3_checkIndex_8e157 15 = .ok (.athrow, 1) := by decide +kernel
theorem dJ3_checkIndex_8e157_16 : decode cJ3_checkIndex_8e157 16 = .ok (.iload_n 0, 1) := by decide +kernel
theorem dJ3_checkIndex_8e157_17 : decode cJ3_checkIndex_8e157 17 = .ok (.ireturn, 1) := by decide +kernel
theorem dJ3_checkFromToIndex_8c36e_0 : decode cJ3_checkFromToIndex_8c36e 0 = .ok (.iload_n 0, 1) := by decide +kernel
theorem dJ3_checkFromToIndex_8c36e_1 : decode cJ3_checkFromToIndex_8c36e 1 = .ok (.ifCond .lt 13, 3) := by decide +kernel
theorem dJ3_checkFromToIndex_8c36e_4 : decode cJ3_checkFromToIndex_8c36e 4 = .ok (.iload_n 0, 1) := by decide +kernel
theorem dJ3_checkFromToIndex_8c36e_5 : decode cJ3_checkFromToIndex_8c36e 5 = .ok (.iload_n 1, 1) := by decide +kernel
theorem dJ3_checkFromToIndex_8c36e_6 : decode cJ3_checkFromToIndex_8c36e 6 = .ok (.if_icmp .gt 8, 3) := by decide +kernel
theorem dJ3_checkFromToIndex_8c36e_9 : decode cJ3_checkFromToIndex_8c36e 9 = .ok (.iload_n 1, 1) := by decide +kernel
theorem dJ3_checkFromToIndex_8c36e_10 : decode cJ3_checkFromToIndex_8c36e 10 = .ok (.iload_n 2, 1) := by decide +kernel
theorem dJ3_checkFromToIndex_8c36e_11 : decode cJ3_checkFromToIndex_8c36e 11 = .ok (.if_icmp .le 11, 3) := by decide +kernel
theorem dJ3_checkFromToIndex_8c36e_14 : decode cJ3_checkFromToIndex_8c36e 14 = .ok (.aload_n 3, 1) := by decide +kernel
theorem dJ3_checkFromToIndex_8c36e_15 : decode cJ3_checkFromToIndex_8c36e 15 = .ok (.iload_n 0, 1) := by decide +kernel
theorem dJ3_checkFromToIndex_8c36e_16 : decode cJ3_checkFromToIndex_8c36e 16 = .ok (.iload_n 1, 1) := by decide +kernel
theorem dJ3_checkFromToIndex_8c36e_17 : decode cJ3_checkFromToIndex_8c36e 17 = .ok (.iload_n 2, 1) := by decide +kernel
theorem dJ3_checkFromToIndex_8c36e_18 : decode cJ3_checkFromToIndex_8c36e 18 = .ok (.invokestatic 99, 3) := by decide +kernel
theorem dJ3_checkFromToIndex_8c36e_21 : decode cJ3_checkFromToIndex_8c36e 21 = .ok (.athrow, 1) := by decide +kernel
theorem dJ3_checkFromToIndex_8c36e_22 : decode cJ3_checkFromToIndex_8c36e 22 = .ok (.iload_n 0, 1) := by decide +kernel
theorem dJ3_checkFromToIndex_8c36e_23 : decode cJ3_checkFromToIndex_8c36e 23 = .ok (.ireturn, 1) := by decide +kernel
