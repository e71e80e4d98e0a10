theorem dX0_init_0 : decode cX0_init 0 = .ok (.aload_n 0, 1) := by decide +kernel
theorem dX0_init_1 : decode cX0_init 1 = .ok (.invokespecial 3, 3) := by decide +kernel
theorem dX0_init_4 : decode cX0_init 4 = .ok (.aload_n 0, 1) := by decide +kernel
theorem dX0_init_5 : decode cX0_init 5 = .ok (.bipush 8, 2) := by decide +kernel
theorem dX0_init_7 : decode cX0_init 7 = .ok (.newarray .int, 2) := by decide +kernel
theorem dX0_init_9 : decode cX0_init 9 = .ok (.putfield 9, 3) := by decide +kernel
theorem dX0_init_12 : decode cX0_init 12 = .ok (.aload_n 0, 1) := by decide +kernel
theorem dX0_init_13 : decode cX0_init 13 = .ok (.bipush 8, 2) := by decide +kernel
theorem dX0_init_15 : decode cX0_init 15 = .ok (.newarray .int, 2) := by decide +kernel
theorem dX0_init_17 : decode cX0_init 17 = .ok (.putfield 15, 3) := by decide +kernel
theorem dX0_init_20 : decode cX0_init 20 = .ok (.aload_n 0, 1) := by decide +kernel
theorem dX0_init_21 : decode cX0_init 21 = .ok (.iconst 0, 1) := by decide +kernel
theorem dX0_init_22 : decode cX0_init 22 = .ok (.putfield 18, 3) := by decide +kernel
theorem dX0_init_25 : decode cX0_init 25 = .ok (.aload_n 0, 1) := by decide +kernel
theorem dX0_init_26 : decode cX0_init 26 = .ok (.iconst 0, 1) := by decide +kernel
theorem dX0_init_27 : decode cX0_init 27 = .ok (.putfield 22, 3) := by decide +kernel
theorem dX0_init_30 : decode cX0_init 30 = .ok (.aload_n 0, 1) := by decide +kernel
theorem dX0_init_31 : decode cX0_init 31 = .ok (.iconst 0, 1) := by decide +kernel
theorem dX0_init_32 : decode cX0_init 32 = .ok (.putfield 25, 3) := by decide +kernel
theorem dX0_init_35 : decode cX0_init 35 = .ok (.return_, 1) := by decide +kernel
theorem dX0_add_0 : decode cX0_add 0 = .ok (.aload_n 0, 1) := by decide +kernel
theorem dX0_add_1 : decode cX0_add 1 = .ok (.getfield 18, 3) := by decide +kernel
theorem dX0_add_4 : decode cX0_add 4 = .ok (.bipush 8, 2) := by decide +kernel
theorem dX0_add_6 : decode cX0_add 6 = .ok (.if_icmp .lt 4, 3) := by decide +kernel
theorem dX0_add_9 : decode cX0_add 9 = .ok (.return_, 1) := by decide +kernel
theorem dX0_add_10 : decode cX0_add 10 = .ok (.aload_n 0, 1) := by decide +kernel
theorem dX0_add_11 : decode cX0_add 11 = .ok (.getfield 9, 3) := by decide +kernel
theorem dX0_add_14 : decode cX0_add 14 = .ok (.aload_n 0, 1) := by decide +kernel
theorem dX0_add_15 : decode cX0_add 15 = .ok (.getfield 18, 3) := by decide +kernel
theorem dX0_add_18 : decode cX0_add 18 = .ok (.iload_n 1, 1) := by decide +kernel
theorem dX0_add_19 : decode cX0_add 19 = .ok (.iastore, 1) := by decide +kernel
theorem dX0_add_20 : decode cX0_add 20 = .ok (.aload_n 0, 1) := by decide +kernel
theorem dX0_add_21 : decode cX0_add 21 = .ok (.dup, 1) := by decide +kernel
theorem dX0_add_22 : decode cX0_add 22 = .ok (.getfield 18, 3) := by decide +kernel
theorem dX0_add_25 : decode cX0_add 25 = .ok (.iconst 1, 1) := by decide +kernel
theorem dX0_add_26 : decode cX0_add 26 = .ok (.iadd, 1) := by decide +kernel
theorem dX0_add_27 : decode cX0_add 27 = .ok (.putfield 18, 3) := by decide +kernel
theorem dX0_add_30 : decode cX0_add 30 = .ok (.return_, 1) := by decide +kernel
theorem dX0_settle_0 : decode cX0_settle 0 = .ok (.aload_n 0, 1) := by decide +kernel
theorem dX0_settle_1 : decode cX0_settle 1 = .ok (.getfield 9, 3) := by decide +kernel
theorem dX0_settle_4 : decode cX0_settle 4 = .ok (.iconst 0, 1) := by decide +kernel
theorem dX0_settle_5 : decode cX0_settle 5 = .ok (.aload_n 0, 1) := by decide +kernel
theorem dX0_settle_6 : decode cX0_settle 6 = .ok (.getfield 15, 3) := by decide +kernel
theorem dX0_settle_9 : decode cX0_settle 9 = .ok (.iconst 0, 1) := by decide +kernel
theorem dX0_settle_10 : decode cX0_settle 10 = .ok (.bipush 8, 2) := by decide +kernel
theorem dX0_settle_12 : decode cX0_settle 12 = .ok (.invokestatic 28, 3) := by decide +kernel
theorem dX0_settle_15 : decode cX0_settle 15 = .ok (.aload_n 0, 1) := by decide +kernel
theorem dX0_settle_16 : decode cX0_settle 16 = .ok (.aload_n 0, 1) := by decide +kernel
theorem dX0_settle_17 : decode cX0_settle 17 = .ok (.invokevirtual 34, 3) := by decide +kernel
theorem dX0_settle_20 : decode cX0_settle 20 = .ok (.putfield 22, 3) := by decide +kernel
theorem dX0_settle_23 : decode cX0_settle 23 = .ok (.aload_n 0, 1) := by decide +kernel
theorem dX0_settle_24 : decode cX0_settle 24 = .ok (.iconst 0, 1) := by decide +kernel
theorem dX0_settle_25 : decode cX0_settle 25 = .ok (.putfield 25, 3) := by decide +kernel
theorem dX0_settle_28 : decode cX0_settle 28 = .ok (.aload_n 0, 1) := by decide +kernel
theorem dX0_settle_29 : decode cX0_settle 29 = .ok (.getfield 25, 3) := by decide +kernel
theorem dX0_settle_32 : decode cX0_settle 32 = .ok (.sipush 5000, 3) := by decide +kernel
theorem dX0_settle_35 : decode cX0_settle 35 = .ok (.if_icmp .ge 31, 3) := by decide +kernel
theorem dX0_settle_38 : decode cX0_settle 38 = .ok (.aload_n 0, 1) := by decide +kernel
theorem dX0_settle_39 : decode cX0_settle 39 = .ok (.invokevirtual 38, 3) := by decide +kernel
theorem dX0_settle_42 : decode cX0_settle 42 = .ok (.ifCond .eq 24, 3) := by decide +kernel
theorem dX0_settle_45 : decode cX0_settle 45 = .ok (.aload_n 0, 1) := by decide +kernel
theorem dX0_settle_46 : decode cX0_settle 46 = .ok (.dup, 1) := by decide +kernel
theorem dX0_settle_47 : decode cX0_settle 47 = .ok (.getfield 25, 3) := by decide +kernel
theorem dX0_settle_50 : decode cX0_settle 50 = .ok (.iconst 1, 1) := by decide +kernel
theorem dX0_settle_51 : decode cX0_settle 51 = .ok (.iadd, 1) := by decide +kernel
theorem dX0_settle_52 : decode cX0_settle 52 = .ok (.putfield 25, 3) := by decide +kernel
theorem dX0_settle_55 : decode cX0_settle 55 = .ok (.aload_n 0, 1) := by decide +kernel
theorem dX0_settle_56 : decode cX0_settle 56 = .ok (.aload_n 0, 1) := by decide +kernel
theorem dX0_settle_57 : decode cX0_settle 57 = .ok (.invokevirtual 34, 3) := by decide +kernel
theorem dX0_settle_60 : decode cX0_settle 60 = .ok (.putfield 22, 3) := by decide +kernel
theorem dX0_settle_63 : decode cX0_settle 63 = .ok (.goto (-35), 3) := by decide +kernel
theorem dX0_settle_66 : decode cX0_settle 66 = .ok (.return_, 1) := by decide +kernel
theorem dX0_meanOfMoved_0 : decode cX0_meanOfMoved 0 = .ok (.iconst 0, 1) := by decide +kernel
theorem dX0_meanOfMoved_1 : decode cX0_meanOfMoved 1 = .ok (.istore_n 1, 1) := by decide +kernel
theorem dX0_meanOfMoved_2 : decode cX0_meanOfMoved 2 = .ok (.iconst 0, 1) := by decide +kernel
theorem dX0_meanOfMoved_3 : decode cX0_meanOfMoved 3 = .ok (.istore_n 2, 1) := by decide +kernel
theorem dX0_meanOfMoved_4 : decode cX0_meanOfMoved 4 = .ok (.iload_n 2, 1) := by decide +kernel
theorem dX0_meanOfMoved_5 : decode cX0_meanOfMoved 5 = .ok (.aload_n 0, 1) := by decide +kernel
theorem dX0_meanOfMoved_6 : decode cX0_meanOfMoved 6 = .ok (.getfield 18, 3) := by decide +kernel
theorem dX0_meanOfMoved_9 : decode cX0_meanOfMoved 9 = .ok (.if_icmp .ge 18, 3) := by decide +kernel
theorem dX0_meanOfMoved_12 : decode cX0_meanOfMoved 12 = .ok (.iload_n 1, 1) := by decide +kernel
theorem dX0_meanOfMoved_13 : decode cX0_meanOfMoved 13 = .ok (.aload_n 0, 1) := by decide +kernel
theorem dX0_meanOfMoved_14 : decode cX0_meanOfMoved 14 = .ok (.getfield 15, 3) := by decide +kernel
theorem dX0_meanOfMoved_17 : decode cX0_meanOfMoved 17 = .ok (.iload_n 2, 1) := by decide +kernel
theorem dX0_meanOfMoved_18 : decode cX0_meanOfMoved 18 = .ok (.iaload, 1) := by decide +kernel
theorem dX0_meanOfMoved_19 : decode cX0_meanOfMoved 19 = .ok (.iadd, 1) := by decide +kernel
theorem dX0_meanOfMoved_20 : decode cX0_meanOfMoved 20 = .ok (.istore_n 1, 1) := by decide +kernel
theorem dX0_meanOfMoved_21 : decode cX0_meanOfMoved 21 = .ok (.iinc 2 1, 3) := by decide +kernel
theorem dX0_meanOfMoved_24 : decode cX0_meanOfMoved 24 = .ok (.goto (-20), 3) := by decide +kernel
theorem dX0_meanOfMoved_27 : decode cX0_meanOfMoved 27 = .ok (.aload_n 0, 1) := by decide +kernel
theorem dX0_meanOfMoved_28 : decode cX0_meanOfMoved 28 = .ok (.getfield 18, 3) := by decide +kernel
theorem dX0_meanOfMoved_31 : decode cX0_meanOfMoved 31 = .ok (.ifCond .le 12, 3) := by decide +kernel
theorem dX0_meanOfMoved_34 : decode cX0_meanOfMoved 34 = .ok (.iload_n 1, 1) := by decide +kernel
theorem dX0_meanOfMoved_35 : decode cX0_meanOfMoved 35 = .ok (.aload_n 0, 1) := by decide +kernel
theorem dX0_meanOfMoved_36 : decode cX0_meanOfMoved 36 = .ok (.getfield 18, 3) := by decide +kernel
theorem dX0_meanOfMoved_39 : decode cX0_meanOfMoved 39 = .ok (.idiv, 1) := by decide +kernel
theorem dX0_meanOfMoved_40 : decode cX0_meanOfMoved 40 = .ok (.goto 4, 3) := by decide +kernel
theorem dX0_meanOfMoved_43 : decode cX0_meanOfMoved 43 = .ok (.iconst 0, 1) := by decide +kernel
theorem dX0_meanOfMoved_44 : decode cX0_meanOfMoved 44 = .ok (.ireturn, 1) := by decide +kernel
theorem dX0_changesInTurn_0 : decode cX0_changesInTurn 0 = .ok (.iconst 0, 1) := by decide +kernel
theorem dX0_changesInTurn_1 : decode cX0_changesInTurn 1 = .ok (.istore_n 1, 1) := by decide +kernel
theorem dX0_changesInTurn_2 : decode cX0_changesInTurn 2 = .ok (.iconst 0, 1) := by decide +kernel
theorem dX0_changesInTurn_3 : decode cX0_changesInTurn 3 = .ok (.istore_n 2, 1) := by decide +kernel
theorem dX0_changesInTurn_4 : decode cX0_changesInTurn 4 = .ok (.iload_n 2, 1) := by decide +kernel
theorem dX0_changesInTurn_5 : decode cX0_changesInTurn 5 = .ok (.aload_n 0, 1) := by decide +kernel
theorem dX0_changesInTurn_6 : decode cX0_changesInTurn 6 = .ok (.getfield 18, 3) := by decide +kernel
theorem dX0_changesInTurn_9 : decode cX0_changesInTurn 9 = .ok (.if_icmp .ge 45, 3) := by decide +kernel
theorem dX0_changesInTurn_12 : decode cX0_changesInTurn 12 = .ok (.aload_n 0, 1) := by decide +kernel
theorem dX0_changesInTurn_13 : decode cX0_changesInTurn 13 = .ok (.getfield 22, 3) := by decide +kernel
theorem dX0_changesInTurn_16 : decode cX0_changesInTurn 16 = .ok (.aload_n 0, 1) := by decide +kernel
theorem dX0_changesInTurn_17 : decode cX0_changesInTurn 17 = .ok (.getfield 15, 3) := by decide +kernel
theorem dX0_changesInTurn_20 : decode cX0_changesInTurn 20 = .ok (.iload_n 2, 1) := by decide +kernel
theorem dX0_changesInTurn_21 : decode cX0_changesInTurn 21 = .ok (.iaload, 1) := by decide +kernel
theorem dX0_changesInTurn_22 : decode cX0_changesInTurn 22 = .ok (.isub, 1) := by decide +kernel
theorem dX0_changesInTurn_23 : decode cX0_changesInTurn 23 = .ok (.iconst 2, 1) := by decide +kernel
theorem dX0_changesInTurn_24 : decode cX0_changesInTurn 24 = .ok (.idiv, 1) := by decide +kernel
theorem dX0_changesInTurn_25 : decode cX0_changesInTurn 25 = .ok (.istore_n 3, 1) := by decide +kernel
theorem dX0_changesInTurn_26 : decode cX0_changesInTurn 26 = .ok (.aload_n 0, 1) := by decide +kernel
theorem dX0_changesInTurn_27 : decode cX0_changesInTurn 27 = .ok (.getfield 15, 3) := by decide +kernel
theorem dX0_changesInTurn_30 : decode cX0_changesInTurn 30 = .ok (.iload_n 2, 1) := by decide +kernel
theorem dX0_changesInTurn_31 : decode cX0_changesInTurn 31 = .ok (.dup2, 1) := by decide +kernel
theorem dX0_changesInTurn_32 : decode cX0_changesInTurn 32 = .ok (.iaload, 1) := by decide +kernel
theorem dX0_changesInTurn_33 : decode cX0_changesInTurn 33 = .ok (.iload_n 3, 1) := by decide +kernel
theorem dX0_changesInTurn_34 : decode cX0_changesInTurn 34 = .ok (.iadd, 1) := by decide +kernel
theorem dX0_changesInTurn_35 : decode cX0_changesInTurn 35 = .ok (.iastore, 1) := by decide +kernel
theorem dX0_changesInTurn_36 : decode cX0_changesInTurn 36 = .ok (.iload_n 1, 1) := by decide +kernel
theorem dX0_changesInTurn_37 : decode cX0_changesInTurn 37 = .ok (.iload_n 3, 1) := by decide +kernel
theorem dX0_changesInTurn_38 : decode cX0_changesInTurn 38 = .ok (.ifCond .eq 7, 3) := by decide +kernel
theorem dX0_changesInTurn_41 : decode cX0_changesInTurn 41 = .ok (.iconst 1, 1) := by decide +kernel
theorem dX0_changesInTurn_42 : decode cX0_changesInTurn 42 = .ok (.goto 4, 3) := by decide +kernel
theorem dX0_changesInTurn_45 : decode cX0_changesInTurn 45 = .ok (.iconst 0, 1) := by decide +kernel
theorem dX0_changesInTurn_46 : decode cX0_changesInTurn 46 = .ok (.ior, 1) := by decide +kernel
theorem dX0_changesInTurn_47 : decode cX0_changesInTurn 47 = .ok (.istore_n 1, 1) := by decide +kernel
theorem dX0_changesInTurn_48 : decode cX0_changesInTurn 48 = .ok (.iinc 2 1, 3) := by decide +kernel
theorem dX0_changesInTurn_51 : decode cX0_changesInTurn 51 = .ok (.goto (-47), 3) := by decide +kernel
theorem dX0_changesInTurn_54 : decode cX0_changesInTurn 54 = .ok (.iload_n 1, 1) := by decide +kernel
theorem dX0_changesInTurn_55 : decode cX0_changesInTurn 55 = .ok (.ireturn, 1) := by decide +kernel
theorem dX1_init_0 : decode cX1_init 0 = .ok (.aload_n 0, 1) := by decide +kernel
theorem dX1_init_1 : decode cX1_init 1 = .ok (.invokespecial 3, 3) := by decide +kernel
theorem dX1_init_4 : decode cX1_init 4 = .ok (.aload_n 0, 1) := by decide +kernel
theorem dX1_init_5 : decode cX1_init 5 = .ok (.bipush 40, 2) := by decide +kernel
theorem dX1_init_7 : decode cX1_init 7 = .ok (.newarray .int, 2) := by decide +kernel
theorem dX1_init_9 : decode cX1_init 9 = .ok (.putfield 9, 3) := by decide +kernel
theorem dX1_init_12 : decode cX1_init 12 = .ok (.aload_n 0, 1) := by decide +kernel
theorem dX1_init_13 : decode cX1_init 13 = .ok (.bipush 40, 2) := by decide +kernel
theorem dX1_init_15 : decode cX1_init 15 = .ok (.newarray .int, 2) := by decide +kernel
theorem dX1_init_17 : decode cX1_init 17 = .ok (.putfield 15, 3) := by decide +kernel
theorem dX1_init_20 : decode cX1_init 20 = .ok (.aload_n 0, 1) := by decide +kernel
theorem dX1_init_21 : decode cX1_init 21 = .ok (.iconst 0, 1) := by decide +kernel
theorem dX1_init_22 : decode cX1_init 22 = .ok (.putfield 18, 3) := by decide +kernel
theorem dX1_init_25 : decode cX1_init 25 = .ok (.return_, 1) := by decide +kernel
theorem dX1_readFrom_0 : decode cX1_readFrom 0 = .ok (.aload_n 0, 1) := by decide +kernel
theorem dX1_readFrom_1 : decode cX1_readFrom 1 = .ok (.iconst 0, 1) := by decide +kernel
theorem dX1_readFrom_2 : decode cX1_readFrom 2 = .ok (.putfield 18, 3) := by decide +kernel
theorem dX1_readFrom_5 : decode cX1_readFrom 5 = .ok (.iconst 0, 1) := by decide +kernel
theorem dX1_readFrom_6 : decode cX1_readFrom 6 = .ok (.istore_n 2, 1) := by decide +kernel
theorem dX1_readFrom_7 : decode cX1_readFrom 7 = .ok (.aload_n 1, 1) := by decide +kernel
theorem dX1_readFrom_8 : decode cX1_readFrom 8 = .ok (.invokevirtual 22, 3) := by decide +kernel
theorem dX1_readFrom_11 : decode cX1_readFrom 11 = .ok (.iconst 0, 1) := by decide +kernel
theorem dX1_readFrom_12 : decode cX1_readFrom 12 = .ok (.istore_n 3, 1) := by decide +kernel
theorem dX1_readFrom_13 : decode cX1_readFrom 13 = .ok (.iload_n 3, 1) := by decide +kernel
theorem dX1_readFrom_14 : decode cX1_readFrom 14 = .ok (.sipush 400, 3) := by decide +kernel
theorem dX1_readFrom_17 : decode cX1_readFrom 17 = .ok (.if_icmp .ge 99, 3) := by decide +kernel
theorem dX1_readFrom_20 : decode cX1_readFrom 20 = .ok (.aload_n 1, 1) := by decide +kernel
theorem dX1_readFrom_21 : decode cX1_readFrom 21 = .ok (.invokevirtual 27, 3) := by decide +kernel
theorem dX1_readFrom_24 : decode cX1_readFrom 24 = .ok (.ifCond .ne 92, 3) := by decide +kernel
theorem dX1_readFrom_27 : decode cX1_readFrom 27 = .ok (.aload_n 1, 1) := by decide +kernel
theorem dX1_readFrom_28 : decode cX1_readFrom 28 = .ok (.ldc 31, 2) := by decide +kernel
theorem dX1_readFrom_30 : decode cX1_readFrom 30 = .ok (.invokevirtual 33, 3) := by decide +kernel
theorem dX1_readFrom_33 : decode cX1_readFrom 33 = .ok (.istore 4, 2) := by decide +kernel
theorem dX1_readFrom_35 : decode cX1_readFrom 35 = .ok (.iload 4, 2) := by decide +kernel
theorem dX1_readFrom_37 : decode cX1_readFrom 37 = .ok (.iconst 1, 1) := by decide +kernel
theorem dX1_readFrom_38 : decode cX1_readFrom 38 = .ok (.if_icmp .ne 8, 3) := by decide +kernel
theorem dX1_readFrom_41 : decode cX1_readFrom 41 = .ok (.iconst 1, 1) := by decide +kernel
theorem dX1_readFrom_42 : decode cX1_readFrom 42 = .ok (.istore_n 2, 1) := by decide +kernel
theorem dX1_readFrom_43 : decode cX1_readFrom 43 = .ok (.goto 61, 3) := by decide +kernel
theorem dX1_readFrom_46 : decode cX1_readFrom 46 = .ok (.aload_n 0, 1) := by decide +kernel
theorem dX1_readFrom_47 : decode cX1_readFrom 47 = .ok (.getfield 18, 3) := by decide +kernel
theorem dX1_readFrom_50 : decode cX1_readFrom 50 = .ok (.bipush 40, 2) := by decide +kernel
theorem dX1_readFrom_52 : decode cX1_readFrom 52 = .ok (.if_icmp .lt 11, 3) := by decide +kernel
theorem dX1_readFrom_55 : decode cX1_readFrom 55 = .ok (.aload_n 1, 1) := by decide +kernel
theorem dX1_readFrom_56 : decode cX1_readFrom 56 = .ok (.iconst 3, 1) := by decide +kernel
theorem dX1_readFrom_57 : decode cX1_readFrom 57 = .ok (.invokevirtual 37, 3) := by decide +kernel
theorem dX1_readFrom_60 : decode cX1_readFrom 60 = .ok (.goto 44, 3) := by decide +kernel
theorem dX1_readFrom_63 : decode cX1_readFrom 63 = .ok (.aload_n 0, 1) := by decide +kernel
theorem dX1_readFrom_64 : decode cX1_readFrom 64 = .ok (.getfield 9, 3) := by decide +kernel
theorem dX1_readFrom_67 : decode cX1_readFrom 67 = .ok (.aload_n 0, 1) := by decide +kernel
theorem dX1_readFrom_68 : decode cX1_readFrom 68 = .ok (.getfield 18, 3) := by decide +kernel
theorem dX1_readFrom_71 : decode cX1_readFrom 71 = .ok (.bipush 100, 2) := by decide +kernel
theorem dX1_readFrom_73 : decode cX1_readFrom 73 = .ok (.aload_n 1, 1) := by decide +kernel
theorem dX1_readFrom_74 : decode cX1_readFrom 74 = .ok (.iconst 0, 1) := by decide +kernel
theorem dX1_readFrom_75 : decode cX1_readFrom 75 = .ok (.bipush 36, 2) := by decide +kernel
theorem dX1_readFrom_77 : decode cX1_readFrom 77 = .ok (.invokevirtual 41, 3) := by decide +kernel
theorem dX1_readFrom_80 : decode cX1_readFrom 80 = .ok (.imul, 1) := by decide +kernel
theorem dX1_readFrom_81 : decode cX1_readFrom 81 = .ok (.iastore, 1) := by decide +kernel
theorem dX1_readFrom_82 : decode cX1_readFrom 82 = .ok (.aload_n 0, 1) := by decide +kernel
theorem dX1_readFrom_83 : decode cX1_readFrom 83 = .ok (.getfield 15, 3) := by decide +kernel
theorem dX1_readFrom_86 : decode cX1_readFrom 86 = .ok (.aload_n 0, 1) := by decide +kernel
theorem dX1_readFrom_87 : decode cX1_readFrom 87 = .ok (.getfield 18, 3) := by decide +kernel
theorem dX1_readFrom_90 : decode cX1_readFrom 90 = .ok (.iload_n 2, 1) := by decide +kernel
theorem dX1_readFrom_91 : decode cX1_readFrom 91 = .ok (.iastore, 1) := by decide +kernel
theorem dX1_readFrom_92 : decode cX1_readFrom 92 = .ok (.iconst 0, 1) := by decide +kernel
theorem dX1_readFrom_93 : decode cX1_readFrom 93 = .ok (.istore_n 2, 1) := by decide +kernel
theorem dX1_readFrom_94 : decode cX1_readFrom 94 = .ok (.aload_n 0, 1) := by decide +kernel
theorem dX1_readFrom_95 : decode cX1_readFrom 95 = .ok (.dup, 1) := by decide +kernel
theorem dX1_readFrom_96 : decode cX1_readFrom 96 = .ok (.getfield 18, 3) := by decide +kernel
theorem dX1_readFrom_99 : decode cX1_readFrom 99 = .ok (.iconst 1, 1) := by decide +kernel
theorem dX1_readFrom_100 : decode cX1_readFrom 100 = .ok (.iadd, 1) := by decide +kernel
theorem dX1_readFrom_101 : decode cX1_readFrom 101 = .ok (.putfield 18, 3) := by decide +kernel
theorem dX1_readFrom_104 : decode cX1_readFrom 104 = .ok (.aload_n 1, 1) := by decide +kernel
theorem dX1_readFrom_105 : decode cX1_readFrom 105 = .ok (.bipush 59, 2) := by decide +kernel
theorem dX1_readFrom_107 : decode cX1_readFrom 107 = .ok (.invokevirtual 45, 3) := by decide +kernel
theorem dX1_readFrom_110 : decode cX1_readFrom 110 = .ok (.iinc 3 1, 3) := by decide +kernel
theorem dX1_readFrom_113 : decode cX1_readFrom 113 = .ok (.goto (-100), 3) := by decide +kernel
theorem dX1_readFrom_116 : decode cX1_readFrom 116 = .ok (.return_, 1) := by decide +kernel
theorem dX1_rise_0 : decode cX1_rise 0 = .ok (.iload_n 1, 1) := by decide +kernel
theorem dX1_rise_1 : decode cX1_rise 1 = .ok (.iconst 1, 1) := by decide +kernel
theorem dX1_rise_2 : decode cX1_rise 2 = .ok (.aload_n 0, 1) := by decide +kernel
theorem dX1_rise_3 : decode cX1_rise 3 = .ok (.getfield 18, 3) := by decide +kernel
theorem dX1_rise_6 : decode cX1_rise 6 = .ok (.iconst 1, 1) := by decide +kernel
theorem dX1_rise_7 : decode cX1_rise 7 = .ok (.isub, 1) := by decide +kernel
theorem dX1_rise_8 : decode cX1_rise 8 = .ok (.invokestatic 49, 3) := by decide +kernel
theorem dX1_rise_11 : decode cX1_rise 11 = .ok (.ifCond .eq 21, 3) := by decide +kernel
theorem dX1_rise_14 : decode cX1_rise 14 = .ok (.aload_n 0, 1) := by decide +kernel
theorem dX1_rise_15 : decode cX1_rise 15 = .ok (.getfield 9, 3) := by decide +kernel
theorem dX1_rise_18 : decode cX1_rise 18 = .ok (.iload_n 1, 1) := by decide +kernel
theorem dX1_rise_19 : decode cX1_rise 19 = .ok (.iaload, 1) := by decide +kernel
theorem dX1_rise_20 : decode cX1_rise 20 = .ok (.aload_n 0, 1) := by decide +kernel
theorem dX1_rise_21 : decode cX1_rise 21 = .ok (.getfield 9, 3) := by decide +kernel
theorem dX1_rise_24 : decode cX1_rise 24 = .ok (.iload_n 1, 1) := by decide +kernel
theorem dX1_rise_25 : decode cX1_rise 25 = .ok (.iconst 1, 1) := by decide +kernel
theorem dX1_rise_26 : decode cX1_rise 26 = .ok (.isub, 1) := by decide +kernel
theorem dX1_rise_27 : decode cX1_rise 27 = .ok (.iaload, 1) := by decide +kernel
theorem dX1_rise_28 : decode cX1_rise 28 = .ok (.isub, 1) := by decide +kernel
theorem dX1_rise_29 : decode cX1_rise 29 = .ok (.goto 4, 3) := by decide +kernel
theorem dX1_rise_32 : decode cX1_rise 32 = .ok (.iconst 0, 1) := by decide +kernel
theorem dX1_rise_33 : decode cX1_rise 33 = .ok (.ireturn, 1) := by decide +kernel
theorem dX1_countNear_0 : decode cX1_countNear 0 = .ok (.iconst 0, 1) := by decide +kernel
theorem dX1_countNear_1 : decode cX1_countNear 1 = .ok (.istore_n 2, 1) := by decide +kernel
theorem dX1_countNear_2 : decode cX1_countNear 2 = .ok (.iconst 0, 1) := by decide +kernel
theorem dX1_countNear_3 : decode cX1_countNear 3 = .ok (.istore_n 3, 1) := by decide +kernel
theorem dX1_countNear_4 : decode cX1_countNear 4 = .ok (.iload_n 3, 1) := by decide +kernel
theorem dX1_countNear_5 : decode cX1_countNear 5 = .ok (.aload_n 0, 1) := by decide +kernel
theorem dX1_countNear_6 : decode cX1_countNear 6 = .ok (.getfield 18, 3) := by decide +kernel
theorem dX1_countNear_9 : decode cX1_countNear 9 = .ok (.if_icmp .ge 26, 3) := by decide +kernel
theorem dX1_countNear_12 : decode cX1_countNear 12 = .ok (.aload_n 0, 1) := by decide +kernel
theorem dX1_countNear_13 : decode cX1_countNear 13 = .ok (.getfield 9, 3) := by decide +kernel
theorem dX1_countNear_16 : decode cX1_countNear 16 = .ok (.iload_n 3, 1) := by decide +kernel
theorem dX1_countNear_17 : decode cX1_countNear 17 = .ok (.iaload, 1) := by decide +kernel
theorem dX1_countNear_18 : decode cX1_countNear 18 = .ok (.iload_n 1, 1) := by decide +kernel
theorem dX1_countNear_19 : decode cX1_countNear 19 = .ok (.isub, 1) := by decide +kernel
theorem dX1_countNear_20 : decode cX1_countNear 20 = .ok (.invokestatic 53, 3) := by decide +kernel
theorem dX1_countNear_23 : decode cX1_countNear 23 = .ok (.ifCond .eq 6, 3) := by decide +kernel
theorem dX1_countNear_26 : decode cX1_countNear 26 = .ok (.iinc 2 1, 3) := by decide +kernel
theorem dX1_countNear_29 : decode cX1_countNear 29 = .ok (.iinc 3 1, 3) := by decide +kernel
theorem dX1_countNear_32 : decode cX1_countNear 32 = .ok (.goto (-28), 3) := by decide +kernel
theorem dX1_countNear_35 : decode cX1_countNear 35 = .ok (.iload_n 2, 1) := by decide +kernel
theorem dX1_countNear_36 : decode cX1_countNear 36 = .ok (.ireturn, 1) := by decide +kernel
theorem dX1_fitsWithin_0 : decode cX1_fitsWithin 0 = .ok (.iconst 0, 1) := by decide +kernel
theorem dX1_fitsWithin_1 : decode cX1_fitsWithin 1 = .ok (.istore_n 3, 1) := by decide +kernel
theorem dX1_fitsWithin_2 : decode cX1_fitsWithin 2 = .ok (.iload_n 3, 1) := by decide +kernel
theorem dX1_fitsWithin_3 : decode cX1_fitsWithin 3 = .ok (.aload_n 0, 1) := by decide +kernel
theorem dX1_fitsWithin_4 : decode cX1_fitsWithin 4 = .ok (.getfield 18, 3) := by decide +kernel
theorem dX1_fitsWithin_7 : decode cX1_fitsWithin 7 = .ok (.if_icmp .ge 25, 3) := by decide +kernel
theorem dX1_fitsWithin_10 : decode cX1_fitsWithin 10 = .ok (.aload_n 0, 1) := by decide +kernel
theorem dX1_fitsWithin_11 : decode cX1_fitsWithin 11 = .ok (.getfield 9, 3) := by decide +kernel
theorem dX1_fitsWithin_14 : decode cX1_fitsWithin 14 = .ok (.iload_n 3, 1) := by decide +kernel
theorem dX1_fitsWithin_15 : decode cX1_fitsWithin 15 = .ok (.iaload, 1) := by decide +kernel
theorem dX1_fitsWithin_16 : decode cX1_fitsWithin 16 = .ok (.iload_n 1, 1) := by decide +kernel
theorem dX1_fitsWithin_17 : decode cX1_fitsWithin 17 = .ok (.iload_n 2, 1) := by decide +kernel
theorem dX1_fitsWithin_18 : decode cX1_fitsWithin 18 = .ok (.invokestatic 49, 3) := by decide +kernel
theorem dX1_fitsWithin_21 : decode cX1_fitsWithin 21 = .ok (.ifCond .ne 5, 3) := by decide +kernel
theorem dX1_fitsWithin_24 : decode cX1_fitsWithin 24 = .ok (.iconst 0, 1) := by decide +kernel
theorem dX1_fitsWithin_25 : decode cX1_fitsWithin 25 = .ok (.ireturn, 1) := by decide +kernel
theorem dX1_fitsWithin_26 : decode cX1_fitsWithin 26 = .ok (.iinc 3 1, 3) := by decide +kernel
theorem dX1_fitsWithin_29 : decode cX1_fitsWithin 29 = .ok (.goto (-27), 3) := by decide +kernel
theorem dX1_fitsWithin_32 : decode cX1_fitsWithin 32 = .ok (.iconst 1, 1) := by decide +kernel
theorem dX1_fitsWithin_33 : decode cX1_fitsWithin 33 = .ok (.ireturn, 1) := by decide +kernel
theorem dX2_init_0 : decode cX2_init 0 = .ok (.aload_n 0, 1) := by decide +kernel
theorem dX2_init_1 : decode cX2_init 1 = .ok (.invokespecial 3, 3) := by decide +kernel
theorem dX2_init_4 : decode cX2_init 4 = .ok (.aload_n 0, 1) := by decide +kernel
theorem dX2_init_5 : decode cX2_init 5 = .ok (.bipush 7, 2) := by decide +kernel
theorem dX2_init_7 : decode cX2_init 7 = .ok (.bipush 16, 2) := by decide +kernel
theorem dX2_init_9 : decode cX2_init 9 = .ok (.multianewarray 9 2, 4) := by decide +kernel
theorem dX2_init_13 : decode cX2_init 13 = .ok (.putfield 11, 3) := by decide +kernel
theorem dX2_init_16 : decode cX2_init 16 = .ok (.aload_n 0, 1) := by decide +kernel
theorem dX2_init_17 : decode cX2_init 17 = .ok (.sipush 729, 3) := by decide +kernel
theorem dX2_init_20 : decode cX2_init 20 = .ok (.newarray .int, 2) := by decide +kernel
theorem dX2_init_22 : decode cX2_init 22 = .ok (.putfield 16, 3) := by decide +kernel
theorem dX2_init_25 : decode cX2_init 25 = .ok (.aload_n 0, 1) := by decide +kernel
theorem dX2_init_26 : decode cX2_init 26 = .ok (.aconst_null, 1) := by decide +kernel
theorem dX2_init_27 : decode cX2_init 27 = .ok (.putfield 20, 3) := by decide +kernel
theorem dX2_init_30 : decode cX2_init 30 = .ok (.aload_n 0, 1) := by decide +kernel
theorem dX2_init_31 : decode cX2_init 31 = .ok (.bipush 100, 2) := by decide +kernel
theorem dX2_init_33 : decode cX2_init 33 = .ok (.putfield 24, 3) := by decide +kernel
theorem dX2_init_36 : decode cX2_init 36 = .ok (.return_, 1) := by decide +kernel
theorem dX2_fewestMinutes_0 : decode cX2_fewestMinutes 0 = .ok (.aload_n 0, 1) := by decide +kernel
theorem dX2_fewestMinutes_1 : decode cX2_fewestMinutes 1 = .ok (.aload_n 1, 1) := by decide +kernel
theorem dX2_fewestMinutes_2 : decode cX2_fewestMinutes 2 = .ok (.putfield 20, 3) := by decide +kernel
theorem dX2_fewestMinutes_5 : decode cX2_fewestMinutes 5 = .ok (.aload_n 0, 1) := by decide +kernel
theorem dX2_fewestMinutes_6 : decode cX2_fewestMinutes 6 = .ok (.iload_n 3, 1) := by decide +kernel
theorem dX2_fewestMinutes_7 : decode cX2_fewestMinutes 7 = .ok (.putfield 24, 3) := by decide +kernel
theorem dX2_fewestMinutes_10 : decode cX2_fewestMinutes 10 = .ok (.aload_n 0, 1) := by decide +kernel
theorem dX2_fewestMinutes_11 : decode cX2_fewestMinutes 11 = .ok (.getfield 16, 3) := by decide +kernel
theorem dX2_fewestMinutes_14 : decode cX2_fewestMinutes 14 = .ok (.bipush (-2), 2) := by decide +kernel
theorem dX2_fewestMinutes_16 : decode cX2_fewestMinutes 16 = .ok (.invokestatic 28, 3) := by decide +kernel
theorem dX2_fewestMinutes_19 : decode cX2_fewestMinutes 19 = .ok (.aload_n 0, 1) := by decide +kernel
theorem dX2_fewestMinutes_20 : decode cX2_fewestMinutes 20 = .ok (.iconst 0, 1) := by decide +kernel
theorem dX2_fewestMinutes_21 : decode cX2_fewestMinutes 21 = .ok (.iload_n 2, 1) := by decide +kernel
theorem dX2_fewestMinutes_22 : decode cX2_fewestMinutes 22 = .ok (.iconst 0, 1) := by decide +kernel
theorem dX2_fewestMinutes_23 : decode cX2_fewestMinutes 23 = .ok (.invokevirtual 34, 3) := by decide +kernel
theorem dX2_fewestMinutes_26 : decode cX2_fewestMinutes 26 = .ok (.ireturn, 1) := by decide +kernel
theorem dX2_isKnown_0 : decode cX2_isKnown 0 = .ok (.lconst 0, 1) := by decide +kernel
theorem dX2_isKnown_1 : decode cX2_isKnown 1 = .ok (.lstore_n 2, 1) := by decide +kernel
theorem dX2_isKnown_2 : decode cX2_isKnown 2 = .ok (.lconst 0, 1) := by decide +kernel
theorem dX2_isKnown_3 : decode cX2_isKnown 3 = .ok (.lstore 4, 2) := by decide +kernel
theorem dX2_isKnown_5 : decode cX2_isKnown 5 = .ok (.iconst 0, 1) := by decide +kernel
theorem dX2_isKnown_6 : decode cX2_isKnown 6 = .ok (.istore 6, 2) := by decide +kernel
theorem dX2_isKnown_8 : decode cX2_isKnown 8 = .ok (.iload 6, 2) := by decide +kernel
theorem dX2_isKnown_10 : decode cX2_isKnown 10 = .ok (.bipush 16, 2) := by decide +kernel
theorem dX2_isKnown_12 : decode cX2_isKnown 12 = .ok (.if_icmp .ge 27, 3) := by decide +kernel
theorem dX2_isKnown_15 : decode cX2_isKnown 15 = .ok (.lload_n 2, 1) := by decide +kernel
theorem dX2_isKnown_16 : decode cX2_isKnown 16 = .ok (.aload_n 1, 1) := by decide +kernel
theorem dX2_isKnown_17 : decode cX2_isKnown 17 = .ok (.iload 6, 2) := by decide +kernel
theorem dX2_isKnown_19 : decode cX2_isKnown 19 = .ok (.laload, 1) := by decide +kernel
theorem dX2_isKnown_20 : decode cX2_isKnown 20 = .ok (.ladd, 1) := by decide +kernel
theorem dX2_isKnown_21 : decode cX2_isKnown 21 = .ok (.lstore_n 2, 1) := by decide +kernel
theorem dX2_isKnown_22 : decode cX2_isKnown 22 = .ok (.lload 4, 2) := by decide +kernel
theorem dX2_isKnown_24 : decode cX2_isKnown 24 = .ok (.aload_n 1, 1) := by decide +kernel
theorem dX2_isKnown_25 : decode cX2_isKnown 25 = .ok (.iload 6, 2) := by decide +kernel
theorem dX2_isKnown_27 : decode cX2_isKnown 27 = .ok (.laload, 1) := by decide +kernel
theorem dX2_isKnown_28 : decode cX2_isKnown 28 = .ok (.invokestatic 38, 3) := by decide +kernel
theorem dX2_isKnown_31 : decode cX2_isKnown 31 = .ok (.lstore 4, 2) := by decide +kernel
theorem dX2_isKnown_33 : decode cX2_isKnown 33 = .ok (.iinc 6 1, 3) := by decide +kernel
theorem dX2_isKnown_36 : decode cX2_isKnown 36 = .ok (.goto (-28), 3) := by decide +kernel
theorem dX2_isKnown_39 : decode cX2_isKnown 39 = .ok (.lload 4, 2) := by decide +kernel
theorem dX2_isKnown_41 : decode cX2_isKnown 41 = .ok (.ldc2_w 44, 3) := by decide +kernel
theorem dX2_isKnown_44 : decode cX2_isKnown 44 = .ok (.lmul, 1) := by decide +kernel
theorem dX2_isKnown_45 : decode cX2_isKnown 45 = .ok (.aload_n 0, 1) := by decide +kernel
theorem dX2_isKnown_46 : decode cX2_isKnown 46 = .ok (.getfield 24, 3) := by decide +kernel
theorem dX2_isKnown_49 : decode cX2_isKnown 49 = .ok (.i2l, 1) := by decide +kernel
theorem dX2_isKnown_50 : decode cX2_isKnown 50 = .ok (.lload_n 2, 1) := by decide +kernel
theorem dX2_isKnown_51 : decode cX2_isKnown 51 = .ok (.lmul, 1) := by decide +kernel
theorem dX2_isKnown_52 : decode cX2_isKnown 52 = .ok (.lcmp, 1) := by decide +kernel
theorem dX2_isKnown_53 : decode cX2_isKnown 53 = .ok (.ifCond .lt 7, 3) := by decide +kernel
theorem dX2_isKnown_56 : decode cX2_isKnown 56 = .ok (.iconst 1, 1) := by decide +kernel
theorem dX2_isKnown_57 : decode cX2_isKnown 57 = .ok (.goto 4, 3) := by decide +kernel
theorem dX2_isKnown_60 : decode cX2_isKnown 60 = .ok (.iconst 0, 1) := by decide +kernel
theorem dX2_isKnown_61 : decode cX2_isKnown 61 = .ok (.ireturn, 1) := by decide +kernel
theorem dX2_fewestFrom_0 : decode cX2_fewestFrom 0 = .ok (.iload_n 3, 1) := by decide +kernel
theorem dX2_fewestFrom_1 : decode cX2_fewestFrom 1 = .ok (.iconst 0, 1) := by decide +kernel
theorem dX2_fewestFrom_2 : decode cX2_fewestFrom 2 = .ok (.bipush 6, 2) := by decide +kernel
theorem dX2_fewestFrom_4 : decode cX2_fewestFrom 4 = .ok (.invokestatic 46, 3) := by decide +kernel
theorem dX2_fewestFrom_7 : decode cX2_fewestFrom 7 = .ok (.ifCond .eq 10, 3) := by decide +kernel
theorem dX2_fewestFrom_10 : decode cX2_fewestFrom 10 = .ok (.aload_n 0, 1) := by decide +kernel
theorem dX2_fewestFrom_11 : decode cX2_fewestFrom 11 = .ok (.getfield 20, 3) := by decide +kernel
theorem dX2_fewestFrom_14 : decode cX2_fewestFrom 14 = .ok (.ifnonnull 5, 3) := by decide +kernel
theorem dX2_fewestFrom_17 : decode cX2_fewestFrom 17 = .ok (.iconst (-1), 1) := by decide +kernel
theorem dX2_fewestFrom_18 : decode cX2_fewestFrom 18 = .ok (.ireturn, 1) := by decide +kernel
theorem dX2_fewestFrom_19 : decode cX2_fewestFrom 19 = .ok (.aload_n 0, 1) := by decide +kernel
theorem dX2_fewestFrom_20 : decode cX2_fewestFrom 20 = .ok (.aload_n 0, 1) := by decide +kernel
theorem dX2_fewestFrom_21 : decode cX2_fewestFrom 21 = .ok (.getfield 11, 3) := by decide +kernel
theorem dX2_fewestFrom_24 : decode cX2_fewestFrom 24 = .ok (.iload_n 3, 1) := by decide +kernel
theorem dX2_fewestFrom_25 : decode cX2_fewestFrom 25 = .ok (.aaload, 1) := by decide +kernel
theorem dX2_fewestFrom_26 : decode cX2_fewestFrom 26 = .ok (.invokevirtual 50, 3) := by decide +kernel
theorem dX2_fewestFrom_29 : decode cX2_fewestFrom 29 = .ok (.ifCond .eq 5, 3) := by decide +kernel
theorem dX2_fewestFrom_32 : decode cX2_fewestFrom 32 = .ok (.iconst 0, 1) := by decide +kernel
theorem dX2_fewestFrom_33 : decode cX2_fewestFrom 33 = .ok (.ireturn, 1) := by decide +kernel
theorem dX2_fewestFrom_34 : decode cX2_fewestFrom 34 = .ok (.iconst (-1), 1) := by decide +kernel
theorem dX2_fewestFrom_35 : decode cX2_fewestFrom 35 = .ok (.istore 4, 2) := by decide +kernel
theorem dX2_fewestFrom_37 : decode cX2_fewestFrom 37 = .ok (.iconst 0, 1) := by decide +kernel
theorem dX2_fewestFrom_38 : decode cX2_fewestFrom 38 = .ok (.istore 5, 2) := by decide +kernel
theorem dX2_fewestFrom_40 : decode cX2_fewestFrom 40 = .ok (.iload 5, 2) := by decide +kernel
theorem dX2_fewestFrom_42 : decode cX2_fewestFrom 42 = .ok (.aload_n 0, 1) := by decide +kernel
theorem dX2_fewestFrom_43 : decode cX2_fewestFrom 43 = .ok (.getfield 20, 3) := by decide +kernel
theorem dX2_fewestFrom_46 : decode cX2_fewestFrom 46 = .ok (.getfield 54, 3) := by decide +kernel
theorem dX2_fewestFrom_49 : decode cX2_fewestFrom 49 = .ok (.if_icmp .ge 101, 3) := by decide +kernel
theorem dX2_fewestFrom_52 : decode cX2_fewestFrom 52 = .ok (.iload_n 2, 1) := by decide +kernel
theorem dX2_fewestFrom_53 : decode cX2_fewestFrom 53 = .ok (.iload 5, 2) := by decide +kernel
theorem dX2_fewestFrom_55 : decode cX2_fewestFrom 55 = .ok (.ishr, 1) := by decide +kernel
theorem dX2_fewestFrom_56 : decode cX2_fewestFrom 56 = .ok (.iconst 1, 1) := by decide +kernel
theorem dX2_fewestFrom_57 : decode cX2_fewestFrom 57 = .ok (.iand, 1) := by decide +kernel
theorem dX2_fewestFrom_58 : decode cX2_fewestFrom 58 = .ok (.iconst 1, 1) := by decide +kernel
theorem dX2_fewestFrom_59 : decode cX2_fewestFrom 59 = .ok (.if_icmp .ne 6, 3) := by decide +kernel
theorem dX2_fewestFrom_62 : decode cX2_fewestFrom 62 = .ok (.goto 82, 3) := by decide +kernel
theorem dX2_fewestFrom_65 : decode cX2_fewestFrom 65 = .ok (.aload_n 0, 1) := by decide +kernel
theorem dX2_fewestFrom_66 : decode cX2_fewestFrom 66 = .ok (.iload_n 1, 1) := by decide +kernel
theorem dX2_fewestFrom_67 : decode cX2_fewestFrom 67 = .ok (.iload_n 2, 1) := by decide +kernel
theorem dX2_fewestFrom_68 : decode cX2_fewestFrom 68 = .ok (.iload_n 3, 1) := by decide +kernel
theorem dX2_fewestFrom_69 : decode cX2_fewestFrom 69 = .ok (.iload 5, 2) := by decide +kernel
theorem dX2_fewestFrom_71 : decode cX2_fewestFrom 71 = .ok (.iconst 1, 1) := by decide +kernel
theorem dX2_fewestFrom_72 : decode cX2_fewestFrom 72 = .ok (.invokevirtual 59, 3) := by decide +kernel
theorem dX2_fewestFrom_75 : decode cX2_fewestFrom 75 = .ok (.istore 6, 2) := by decide +kernel
theorem dX2_fewestFrom_77 : decode cX2_fewestFrom 77 = .ok (.iload 6, 2) := by decide +kernel
theorem dX2_fewestFrom_79 : decode cX2_fewestFrom 79 = .ok (.iconst (-1), 1) := by decide +kernel
theorem dX2_fewestFrom_80 : decode cX2_fewestFrom 80 = .ok (.if_icmp .ne 6, 3) := by decide +kernel
theorem dX2_fewestFrom_83 : decode cX2_fewestFrom 83 = .ok (.goto 61, 3) := by decide +kernel
theorem dX2_fewestFrom_86 : decode cX2_fewestFrom 86 = .ok (.aload_n 0, 1) := by decide +kernel
theorem dX2_fewestFrom_87 : decode cX2_fewestFrom 87 = .ok (.iload_n 1, 1) := by decide +kernel
theorem dX2_fewestFrom_88 : decode cX2_fewestFrom 88 = .ok (.iload_n 2, 1) := by decide +kernel
theorem dX2_fewestFrom_89 : decode cX2_fewestFrom 89 = .ok (.iload_n 3, 1) := by decide +kernel
theorem dX2_fewestFrom_90 : decode cX2_fewestFrom 90 = .ok (.iload 5, 2) := by decide +kernel
theorem dX2_fewestFrom_92 : decode cX2_fewestFrom 92 = .ok (.iconst 0, 1) := by decide +kernel
theorem dX2_fewestFrom_93 : decode cX2_fewestFrom 93 = .ok (.invokevirtual 59, 3) := by decide +kernel
theorem dX2_fewestFrom_96 : decode cX2_fewestFrom 96 = .ok (.istore 7, 2) := by decide +kernel
theorem dX2_fewestFrom_98 : decode cX2_fewestFrom 98 = .ok (.iload 7, 2) := by decide +kernel
theorem dX2_fewestFrom_100 : decode cX2_fewestFrom 100 = .ok (.iconst (-1), 1) := by decide +kernel
theorem dX2_fewestFrom_101 : decode cX2_fewestFrom 101 = .ok (.if_icmp .ne 6, 3) := by decide +kernel
theorem dX2_fewestFrom_104 : decode cX2_fewestFrom 104 = .ok (.goto 40, 3) := by decide +kernel
theorem dX2_fewestFrom_107 : decode cX2_fewestFrom 107 = .ok (.aload_n 0, 1) := by decide +kernel
theorem dX2_fewestFrom_108 : decode cX2_fewestFrom 108 = .ok (.getfield 20, 3) := by decide +kernel
theorem dX2_fewestFrom_111 : decode cX2_fewestFrom 111 = .ok (.getfield 63, 3) := by decide +kernel
theorem dX2_fewestFrom_114 : decode cX2_fewestFrom 114 = .ok (.iload 5, 2) := by decide +kernel
theorem dX2_fewestFrom_116 : decode cX2_fewestFrom 116 = .ok (.iaload, 1) := by decide +kernel
theorem dX2_fewestFrom_117 : decode cX2_fewestFrom 117 = .ok (.iload 6, 2) := by decide +kernel
theorem dX2_fewestFrom_119 : decode cX2_fewestFrom 119 = .ok (.iload 7, 2) := by decide +kernel
theorem dX2_fewestFrom_121 : decode cX2_fewestFrom 121 = .ok (.invokestatic 66, 3) := by decide +kernel
theorem dX2_fewestFrom_124 : decode cX2_fewestFrom 124 = .ok (.iadd, 1) := by decide +kernel
theorem dX2_fewestFrom_125 : decode cX2_fewestFrom 125 = .ok (.istore 8, 2) := by decide +kernel
theorem dX2_fewestFrom_127 : decode cX2_fewestFrom 127 = .ok (.iload 4, 2) := by decide +kernel
theorem dX2_fewestFrom_129 : decode cX2_fewestFrom 129 = .ok (.iconst (-1), 1) := by decide +kernel
theorem dX2_fewestFrom_130 : decode cX2_fewestFrom 130 = .ok (.if_icmp .eq 10, 3) := by decide +kernel
theorem dX2_fewestFrom_133 : decode cX2_fewestFrom 133 = .ok (.iload 8, 2) := by decide +kernel
theorem dX2_fewestFrom_135 : decode cX2_fewestFrom 135 = .ok (.iload 4, 2) := by decide +kernel
theorem dX2_fewestFrom_137 : decode cX2_fewestFrom 137 = .ok (.if_icmp .ge 7, 3) := by decide +kernel
theorem dX2_fewestFrom_140 : decode cX2_fewestFrom 140 = .ok (.iload 8, 2) := by decide +kernel
theorem dX2_fewestFrom_142 : decode cX2_fewestFrom 142 = .ok (.istore 4, 2) := by decide +kernel
theorem dX2_fewestFrom_144 : decode cX2_fewestFrom 144 = .ok (.iinc 5 1, 3) := by decide +kernel
theorem dX2_fewestFrom_147 : decode cX2_fewestFrom 147 = .ok (.goto (-107), 3) := by decide +kernel
theorem dX2_fewestFrom_150 : decode cX2_fewestFrom 150 = .ok (.iload 4, 2) := by decide +kernel
theorem dX2_fewestFrom_152 : decode cX2_fewestFrom 152 = .ok (.ireturn, 1) := by decide +kernel
theorem dX2_fewestAfter_0 : decode cX2_fewestAfter 0 = .ok (.iload_n 1, 1) := by decide +kernel
theorem dX2_fewestAfter_1 : decode cX2_fewestAfter 1 = .ok (.iload 5, 2) := by decide +kernel
theorem dX2_fewestAfter_3 : decode cX2_fewestAfter 3 = .ok (.ifCond .eq 7, 3) := by decide +kernel
theorem dX2_fewestAfter_6 : decode cX2_fewestAfter 6 = .ok (.iconst 1, 1) := by decide +kernel
theorem dX2_fewestAfter_7 : decode cX2_fewestAfter 7 = .ok (.goto 4, 3) := by decide +kernel
theorem dX2_fewestAfter_10 : decode cX2_fewestAfter 10 = .ok (.iconst 2, 1) := by decide +kernel
theorem dX2_fewestAfter_11 : decode cX2_fewestAfter 11 = .ok (.getstatic 69, 3) := by decide +kernel
theorem dX2_fewestAfter_14 : decode cX2_fewestAfter 14 = .ok (.iload 4, 2) := by decide +kernel
theorem dX2_fewestAfter_16 : decode cX2_fewestAfter 16 = .ok (.iaload, 1) := by decide +kernel
theorem dX2_fewestAfter_17 : decode cX2_fewestAfter 17 = .ok (.imul, 1) := by decide +kernel
theorem dX2_fewestAfter_18 : decode cX2_fewestAfter 18 = .ok (.iadd, 1) := by decide +kernel
theorem dX2_fewestAfter_19 : decode cX2_fewestAfter 19 = .ok (.istore 6, 2) := by decide +kernel
theorem dX2_fewestAfter_21 : decode cX2_fewestAfter 21 = .ok (.iload_n 3, 1) := by decide +kernel
theorem dX2_fewestAfter_22 : decode cX2_fewestAfter 22 = .ok (.bipush 6, 2) := by decide +kernel
theorem dX2_fewestAfter_24 : decode cX2_fewestAfter 24 = .ok (.if_icmp .ge 19, 3) := by decide +kernel
theorem dX2_fewestAfter_27 : decode cX2_fewestAfter 27 = .ok (.iload 6, 2) := by decide +kernel
theorem dX2_fewestAfter_29 : decode cX2_fewestAfter 29 = .ok (.iconst 0, 1) := by decide +kernel
theorem dX2_fewestAfter_30 : decode cX2_fewestAfter 30 = .ok (.aload_n 0, 1) := by decide +kernel
theorem dX2_fewestAfter_31 : decode cX2_fewestAfter 31 = .ok (.getfield 16, 3) := by decide +kernel
theorem dX2_fewestAfter_34 : decode cX2_fewestAfter 34 = .ok (.arraylength, 1) := by decide +kernel
theorem dX2_fewestAfter_35 : decode cX2_fewestAfter 35 = .ok (.iconst 1, 1) := by decide +kernel
theorem dX2_fewestAfter_36 : decode cX2_fewestAfter 36 = .ok (.isub, 1) := by decide +kernel
theorem dX2_fewestAfter_37 : decode cX2_fewestAfter 37 = .ok (.invokestatic 46, 3) := by decide +kernel
theorem dX2_fewestAfter_40 : decode cX2_fewestAfter 40 = .ok (.ifCond .ne 5, 3) := by decide +kernel
theorem dX2_fewestAfter_43 : decode cX2_fewestAfter 43 = .ok (.iconst (-1), 1) := by decide +kernel
theorem dX2_fewestAfter_44 : decode cX2_fewestAfter 44 = .ok (.ireturn, 1) := by decide +kernel
theorem dX2_fewestAfter_45 : decode cX2_fewestAfter 45 = .ok (.aload_n 0, 1) := by decide +kernel
theorem dX2_fewestAfter_46 : decode cX2_fewestAfter 46 = .ok (.getfield 16, 3) := by decide +kernel
theorem dX2_fewestAfter_49 : decode cX2_fewestAfter 49 = .ok (.iload 6, 2) := by decide +kernel
theorem dX2_fewestAfter_51 : decode cX2_fewestAfter 51 = .ok (.iaload, 1) := by decide +kernel
theorem dX2_fewestAfter_52 : decode cX2_fewestAfter 52 = .ok (.bipush (-2), 2) := by decide +kernel
theorem dX2_fewestAfter_54 : decode cX2_fewestAfter 54 = .ok (.if_icmp .ne 36, 3) := by decide +kernel
theorem dX2_fewestAfter_57 : decode cX2_fewestAfter 57 = .ok (.aload_n 0, 1) := by decide +kernel
theorem dX2_fewestAfter_58 : decode cX2_fewestAfter 58 = .ok (.iload_n 3, 1) := by decide +kernel
theorem dX2_fewestAfter_59 : decode cX2_fewestAfter 59 = .ok (.iconst 1, 1) := by decide +kernel
theorem dX2_fewestAfter_60 : decode cX2_fewestAfter 60 = .ok (.iadd, 1) := by decide +kernel
theorem dX2_fewestAfter_61 : decode cX2_fewestAfter 61 = .ok (.iload 4, 2) := by decide +kernel
theorem dX2_fewestAfter_63 : decode cX2_fewestAfter 63 = .ok (.iload 5, 2) := by decide +kernel
theorem dX2_fewestAfter_65 : decode cX2_fewestAfter 65 = .ok (.invokevirtual 72, 3) := by decide +kernel
theorem dX2_fewestAfter_68 : decode cX2_fewestAfter 68 = .ok (.aload_n 0, 1) := by decide +kernel
theorem dX2_fewestAfter_69 : decode cX2_fewestAfter 69 = .ok (.getfield 16, 3) := by decide +kernel
theorem dX2_fewestAfter_72 : decode cX2_fewestAfter 72 = .ok (.iload 6, 2) := by decide +kernel
theorem dX2_fewestAfter_74 : decode cX2_fewestAfter 74 = .ok (.aload_n 0, 1) := by decide +kernel
theorem dX2_fewestAfter_75 : decode cX2_fewestAfter 75 = .ok (.iload 6, 2) := by decide +kernel
theorem dX2_fewestAfter_77 : decode cX2_fewestAfter 77 = .ok (.iload_n 2, 1) := by decide +kernel
theorem dX2_fewestAfter_78 : decode cX2_fewestAfter 78 = .ok (.iconst 1, 1) := by decide +kernel
theorem dX2_fewestAfter_79 : decode cX2_fewestAfter 79 = .ok (.iload 4, 2) := by decide +kernel
theorem dX2_fewestAfter_81 : decode cX2_fewestAfter 81 = .ok (.ishl, 1) := by decide +kernel
theorem dX2_fewestAfter_82 : decode cX2_fewestAfter 82 = .ok (.ior, 1) := by decide +kernel
theorem dX2_fewestAfter_83 : decode cX2_fewestAfter 83 = .ok (.iload_n 3, 1) := by decide +kernel
theorem dX2_fewestAfter_84 : decode cX2_fewestAfter 84 = .ok (.iconst 1, 1) := by decide +kernel
theorem dX2_fewestAfter_85 : decode cX2_fewestAfter 85 = .ok (.iadd, 1) := by decide +kernel
theorem dX2_fewestAfter_86 : decode cX2_fewestAfter 86 = .ok (.invokevirtual 34, 3) := by decide +kernel
theorem dX2_fewestAfter_89 : decode cX2_fewestAfter 89 = .ok (.iastore, 1) := by decide +kernel
theorem dX2_fewestAfter_90 : decode cX2_fewestAfter 90 = .ok (.aload_n 0, 1) := by decide +kernel
theorem dX2_fewestAfter_91 : decode cX2_fewestAfter 91 = .ok (.getfield 16, 3) := by decide +kernel
theorem dX2_fewestAfter_94 : decode cX2_fewestAfter 94 = .ok (.iload 6, 2) := by decide +kernel
theorem dX2_fewestAfter_96 : decode cX2_fewestAfter 96 = .ok (.iaload, 1) := by decide +kernel
theorem dX2_fewestAfter_97 : decode cX2_fewestAfter 97 = .ok (.ireturn, 1) := by decide +kernel
theorem dX2_fillOdds_0 : decode cX2_fillOdds 0 = .ok (.iload_n 1, 1) := by decide +kernel
theorem dX2_fillOdds_1 : decode cX2_fillOdds 1 = .ok (.iconst 1, 1) := by decide +kernel
theorem dX2_fillOdds_2 : decode cX2_fillOdds 2 = .ok (.bipush 6, 2) := by decide +kernel
theorem dX2_fillOdds_4 : decode cX2_fillOdds 4 = .ok (.invokestatic 46, 3) := by decide +kernel
theorem dX2_fillOdds_7 : decode cX2_fillOdds 7 = .ok (.ifCond .eq 10, 3) := by decide +kernel
theorem dX2_fillOdds_10 : decode cX2_fillOdds 10 = .ok (.aload_n 0, 1) := by decide +kernel
theorem dX2_fillOdds_11 : decode cX2_fillOdds 11 = .ok (.getfield 20, 3) := by decide +kernel
theorem dX2_fillOdds_14 : decode cX2_fillOdds 14 = .ok (.ifnonnull 4, 3) := by decide +kernel
theorem dX2_fillOdds_17 : decode cX2_fillOdds 17 = .ok (.return_, 1) := by decide +kernel
theorem dX2_fillOdds_18 : decode cX2_fillOdds 18 = .ok (.aload_n 0, 1) := by decide +kernel
theorem dX2_fillOdds_19 : decode cX2_fillOdds 19 = .ok (.getfield 20, 3) := by decide +kernel
theorem dX2_fillOdds_22 : decode cX2_fillOdds 22 = .ok (.iload_n 2, 1) := by decide +kernel
theorem dX2_fillOdds_23 : decode cX2_fillOdds 23 = .ok (.iconst 0, 1) := by decide +kernel
theorem dX2_fillOdds_24 : decode cX2_fillOdds 24 = .ok (.iload_n 3, 1) := by decide +kernel
theorem dX2_fillOdds_25 : decode cX2_fillOdds 25 = .ok (.invokevirtual 76, 3) := by decide +kernel
theorem dX2_fillOdds_28 : decode cX2_fillOdds 28 = .ok (.istore 4, 2) := by decide +kernel
theorem dX2_fillOdds_30 : decode cX2_fillOdds 30 = .ok (.aload_n 0, 1) := by decide +kernel
theorem dX2_fillOdds_31 : decode cX2_fillOdds 31 = .ok (.getfield 20, 3) := by decide +kernel
theorem dX2_fillOdds_34 : decode cX2_fillOdds 34 = .ok (.iload_n 2, 1) := by decide +kernel
theorem dX2_fillOdds_35 : decode cX2_fillOdds 35 = .ok (.bipush 15, 2) := by decide +kernel
theorem dX2_fillOdds_37 : decode cX2_fillOdds 37 = .ok (.iload_n 3, 1) := by decide +kernel
theorem dX2_fillOdds_38 : decode cX2_fillOdds 38 = .ok (.invokevirtual 76, 3) := by decide +kernel
theorem dX2_fillOdds_41 : decode cX2_fillOdds 41 = .ok (.istore 5, 2) := by decide +kernel
theorem dX2_fillOdds_43 : decode cX2_fillOdds 43 = .ok (.aload_n 0, 1) := by decide +kernel
theorem dX2_fillOdds_44 : decode cX2_fillOdds 44 = .ok (.getfield 20, 3) := by decide +kernel
theorem dX2_fillOdds_47 : decode cX2_fillOdds 47 = .ok (.getfield 80, 3) := by decide +kernel
theorem dX2_fillOdds_50 : decode cX2_fillOdds 50 = .ok (.iload_n 2, 1) := by decide +kernel
theorem dX2_fillOdds_51 : decode cX2_fillOdds 51 = .ok (.iaload, 1) := by decide +kernel
theorem dX2_fillOdds_52 : decode cX2_fillOdds 52 = .ok (.istore 6, 2) := by decide +kernel
theorem dX2_fillOdds_54 : decode cX2_fillOdds 54 = .ok (.aload_n 0, 1) := by decide +kernel
theorem dX2_fillOdds_55 : decode cX2_fillOdds 55 = .ok (.getfield 11, 3) := by decide +kernel
theorem dX2_fillOdds_58 : decode cX2_fillOdds 58 = .ok (.iload_n 1, 1) := by decide +kernel
theorem dX2_fillOdds_59 : decode cX2_fillOdds 59 = .ok (.iconst 1, 1) := by decide +kernel
theorem dX2_fillOdds_60 : decode cX2_fillOdds 60 = .ok (.isub, 1) := by decide +kernel
theorem dX2_fillOdds_61 : decode cX2_fillOdds 61 = .ok (.aaload, 1) := by decide +kernel
theorem dX2_fillOdds_62 : decode cX2_fillOdds 62 = .ok (.astore 7, 2) := by decide +kernel
theorem dX2_fillOdds_64 : decode cX2_fillOdds 64 = .ok (.aload_n 0, 1) := by decide +kernel
theorem dX2_fillOdds_65 : decode cX2_fillOdds 65 = .ok (.getfield 11, 3) := by decide +kernel
theorem dX2_fillOdds_68 : decode cX2_fillOdds 68 = .ok (.iload_n 1, 1) := by decide +kernel
theorem dX2_fillOdds_69 : decode cX2_fillOdds 69 = .ok (.aaload, 1) := by decide +kernel
theorem dX2_fillOdds_70 : decode cX2_fillOdds 70 = .ok (.astore 8, 2) := by decide +kernel
theorem dX2_fillOdds_72 : decode cX2_fillOdds 72 = .ok (.iconst 0, 1) := by decide +kernel
theorem dX2_fillOdds_73 : decode cX2_fillOdds 73 = .ok (.istore 9, 2) := by decide +kernel
theorem dX2_fillOdds_75 : decode cX2_fillOdds 75 = .ok (.iload 9, 2) := by decide +kernel
theorem dX2_fillOdds_77 : decode cX2_fillOdds 77 = .ok (.bipush 16, 2) := by decide +kernel
theorem dX2_fillOdds_79 : decode cX2_fillOdds 79 = .ok (.if_icmp .ge 36, 3) := by decide +kernel
theorem dX2_fillOdds_82 : decode cX2_fillOdds 82 = .ok (.aload 8, 2) := by decide +kernel
theorem dX2_fillOdds_84 : decode cX2_fillOdds 84 = .ok (.iload 9, 2) := by decide +kernel
theorem dX2_fillOdds_86 : decode cX2_fillOdds 86 = .ok (.aload 7, 2) := by decide +kernel
theorem dX2_fillOdds_88 : decode cX2_fillOdds 88 = .ok (.iload 9, 2) := by decide +kernel
theorem dX2_fillOdds_90 : decode cX2_fillOdds 90 = .ok (.laload, 1) := by decide +kernel
theorem dX2_fillOdds_91 : decode cX2_fillOdds 91 = .ok (.iload 6, 2) := by decide +kernel
theorem dX2_fillOdds_93 : decode cX2_fillOdds 93 = .ok (.iload 9, 2) := by decide +kernel
theorem dX2_fillOdds_95 : decode cX2_fillOdds 95 = .ok (.iand, 1) := by decide +kernel
theorem dX2_fillOdds_96 : decode cX2_fillOdds 96 = .ok (.ifCond .ne 8, 3) := by decide +kernel
theorem dX2_fillOdds_99 : decode cX2_fillOdds 99 = .ok (.iload 4, 2) := by decide +kernel
theorem dX2_fillOdds_101 : decode cX2_fillOdds 101 = .ok (.goto 5, 3) := by decide +kernel
theorem dX2_fillOdds_104 : decode cX2_fillOdds 104 = .ok (.iload 5, 2) := by decide +kernel
theorem dX2_fillOdds_106 : decode cX2_fillOdds 106 = .ok (.i2l, 1) := by decide +kernel
theorem dX2_fillOdds_107 : decode cX2_fillOdds 107 = .ok (.lmul, 1) := by decide +kernel
theorem dX2_fillOdds_108 : decode cX2_fillOdds 108 = .ok (.lastore, 1) := by decide +kernel
theorem dX2_fillOdds_109 : decode cX2_fillOdds 109 = .ok (.iinc 9 1, 3) := by decide +kernel
theorem dX2_fillOdds_112 : decode cX2_fillOdds 112 = .ok (.goto (-37), 3) := by decide +kernel
theorem dX2_fillOdds_115 : decode cX2_fillOdds 115 = .ok (.return_, 1) := by decide +kernel
theorem dX3_init_0 : decode cX3_init 0 = .ok (.aload_n 0, 1) := by decide +kernel
theorem dX3_init_1 : decode cX3_init 1 = .ok (.invokespecial 3, 3) := by decide +kernel
theorem dX3_init_4 : decode cX3_init 4 = .ok (.aload_n 0, 1) := by decide +kernel
theorem dX3_init_5 : decode cX3_init 5 = .ok (.iconst 0, 1) := by decide +kernel
theorem dX3_init_6 : decode cX3_init 6 = .ok (.putfield 9, 3) := by decide +kernel
theorem dX3_init_9 : decode cX3_init 9 = .ok (.aload_n 0, 1) := by decide +kernel
theorem dX3_init_10 : decode cX3_init 10 = .ok (.iconst 0, 1) := by decide +kernel
theorem dX3_init_11 : decode cX3_init 11 = .ok (.putfield 15, 3) := by decide +kernel
theorem dX3_init_14 : decode cX3_init 14 = .ok (.aload_n 0, 1) := by decide +kernel
theorem dX3_init_15 : decode cX3_init 15 = .ok (.iconst 0, 1) := by decide +kernel
theorem dX3_init_16 : decode cX3_init 16 = .ok (.putfield 18, 3) := by decide +kernel
theorem dX3_init_19 : decode cX3_init 19 = .ok (.aload_n 0, 1) := by decide +kernel
theorem dX3_init_20 : decode cX3_init 20 = .ok (.iconst 0, 1) := by decide +kernel
theorem dX3_init_21 : decode cX3_init 21 = .ok (.putfield 21, 3) := by decide +kernel
theorem dX3_init_24 : decode cX3_init 24 = .ok (.aload_n 0, 1) := by decide +kernel
theorem dX3_init_25 : decode cX3_init 25 = .ok (.iconst 1, 1) := by decide +kernel
theorem dX3_init_26 : decode cX3_init 26 = .ok (.putfield 24, 3) := by decide +kernel
theorem dX3_init_29 : decode cX3_init 29 = .ok (.aload_n 0, 1) := by decide +kernel
theorem dX3_init_30 : decode cX3_init 30 = .ok (.iconst 0, 1) := by decide +kernel
theorem dX3_init_31 : decode cX3_init 31 = .ok (.putfield 27, 3) := by decide +kernel
theorem dX3_init_34 : decode cX3_init 34 = .ok (.aload_n 0, 1) := by decide +kernel
theorem dX3_init_35 : decode cX3_init 35 = .ok (.iconst 0, 1) := by decide +kernel
theorem dX3_init_36 : decode cX3_init 36 = .ok (.putfield 30, 3) := by decide +kernel
theorem dX3_init_39 : decode cX3_init 39 = .ok (.aload_n 0, 1) := by decide +kernel
theorem dX3_init_40 : decode cX3_init 40 = .ok (.iconst 0, 1) := by decide +kernel
theorem dX3_init_41 : decode cX3_init 41 = .ok (.putfield 33, 3) := by decide +kernel
theorem dX3_init_44 : decode cX3_init 44 = .ok (.return_, 1) := by decide +kernel
theorem dX3_readFrom_0 : decode cX3_readFrom 0 = .ok (.aload_n 0, 1) := by decide +kernel
theorem dX3_readFrom_1 : decode cX3_readFrom 1 = .ok (.aload_n 1, 1) := by decide +kernel
theorem dX3_readFrom_2 : decode cX3_readFrom 2 = .ok (.ldc 36, 2) := by decide +kernel
theorem dX3_readFrom_4 : decode cX3_readFrom 4 = .ok (.invokevirtual 38, 3) := by decide +kernel
theorem dX3_readFrom_7 : decode cX3_readFrom 7 = .ok (.putfield 9, 3) := by decide +kernel
theorem dX3_readFrom_10 : decode cX3_readFrom 10 = .ok (.aload_n 0, 1) := by decide +kernel
theorem dX3_readFrom_11 : decode cX3_readFrom 11 = .ok (.aload_n 1, 1) := by decide +kernel
theorem dX3_readFrom_12 : decode cX3_readFrom 12 = .ok (.iconst 0, 1) := by decide +kernel
theorem dX3_readFrom_13 : decode cX3_readFrom 13 = .ok (.bipush 99, 2) := by decide +kernel
theorem dX3_readFrom_15 : decode cX3_readFrom 15 = .ok (.invokevirtual 44, 3) := by decide +kernel
theorem dX3_readFrom_18 : decode cX3_readFrom 18 = .ok (.putfield 15, 3) := by decide +kernel
theorem dX3_readFrom_21 : decode cX3_readFrom 21 = .ok (.aload_n 0, 1) := by decide +kernel
theorem dX3_readFrom_22 : decode cX3_readFrom 22 = .ok (.aload_n 1, 1) := by decide +kernel
theorem dX3_readFrom_23 : decode cX3_readFrom 23 = .ok (.iconst 0, 1) := by decide +kernel
theorem dX3_readFrom_24 : decode cX3_readFrom 24 = .ok (.bipush 99, 2) := by decide +kernel
theorem dX3_readFrom_26 : decode cX3_readFrom 26 = .ok (.invokevirtual 44, 3) := by decide +kernel
theorem dX3_readFrom_29 : decode cX3_readFrom 29 = .ok (.bipush 50, 2) := by decide +kernel
theorem dX3_readFrom_31 : decode cX3_readFrom 31 = .ok (.isub, 1) := by decide +kernel
theorem dX3_readFrom_32 : decode cX3_readFrom 32 = .ok (.putfield 18, 3) := by decide +kernel
theorem dX3_readFrom_35 : decode cX3_readFrom 35 = .ok (.aload_n 0, 1) := by decide +kernel
theorem dX3_readFrom_36 : decode cX3_readFrom 36 = .ok (.aload_n 1, 1) := by decide +kernel
theorem dX3_readFrom_37 : decode cX3_readFrom 37 = .ok (.iconst 0, 1) := by decide +kernel
theorem dX3_readFrom_38 : decode cX3_readFrom 38 = .ok (.bipush 99, 2) := by decide +kernel
theorem dX3_readFrom_40 : decode cX3_readFrom 40 = .ok (.invokevirtual 44, 3) := by decide +kernel
theorem dX3_readFrom_43 : decode cX3_readFrom 43 = .ok (.putfield 21, 3) := by decide +kernel
theorem dX3_readFrom_46 : decode cX3_readFrom 46 = .ok (.aload_n 0, 1) := by decide +kernel
theorem dX3_readFrom_47 : decode cX3_readFrom 47 = .ok (.aload_n 1, 1) := by decide +kernel
theorem dX3_readFrom_48 : decode cX3_readFrom 48 = .ok (.iconst 1, 1) := by decide +kernel
theorem dX3_readFrom_49 : decode cX3_readFrom 49 = .ok (.bipush 40, 2) := by decide +kernel
theorem dX3_readFrom_51 : decode cX3_readFrom 51 = .ok (.invokevirtual 44, 3) := by decide +kernel
theorem dX3_readFrom_54 : decode cX3_readFrom 54 = .ok (.putfield 24, 3) := by decide +kernel
theorem dX3_readFrom_57 : decode cX3_readFrom 57 = .ok (.aload_n 0, 1) := by decide +kernel
theorem dX3_readFrom_58 : decode cX3_readFrom 58 = .ok (.aload_n 1, 1) := by decide +kernel
theorem dX3_readFrom_59 : decode cX3_readFrom 59 = .ok (.iconst 0, 1) := by decide +kernel
theorem dX3_readFrom_60 : decode cX3_readFrom 60 = .ok (.bipush 36, 2) := by decide +kernel
theorem dX3_readFrom_62 : decode cX3_readFrom 62 = .ok (.invokevirtual 44, 3) := by decide +kernel
theorem dX3_readFrom_65 : decode cX3_readFrom 65 = .ok (.putfield 27, 3) := by decide +kernel
theorem dX3_readFrom_68 : decode cX3_readFrom 68 = .ok (.aload_n 0, 1) := by decide +kernel
theorem dX3_readFrom_69 : decode cX3_readFrom 69 = .ok (.aload_n 1, 1) := by decide +kernel
theorem dX3_readFrom_70 : decode cX3_readFrom 70 = .ok (.iconst 0, 1) := by decide +kernel
theorem dX3_readFrom_71 : decode cX3_readFrom 71 = .ok (.bipush 36, 2) := by decide +kernel
theorem dX3_readFrom_73 : decode cX3_readFrom 73 = .ok (.invokevirtual 44, 3) := by decide +kernel
theorem dX3_readFrom_76 : decode cX3_readFrom 76 = .ok (.putfield 30, 3) := by decide +kernel
theorem dX3_readFrom_79 : decode cX3_readFrom 79 = .ok (.aload_n 0, 1) := by decide +kernel
theorem dX3_readFrom_80 : decode cX3_readFrom 80 = .ok (.getfield 30, 3) := by decide +kernel
theorem dX3_readFrom_83 : decode cX3_readFrom 83 = .ok (.aload_n 0, 1) := by decide +kernel
theorem dX3_readFrom_84 : decode cX3_readFrom 84 = .ok (.getfield 27, 3) := by decide +kernel
theorem dX3_readFrom_87 : decode cX3_readFrom 87 = .ok (.if_icmp .ge 8, 3) := by decide +kernel
theorem dX3_readFrom_90 : decode cX3_readFrom 90 = .ok (.aload_n 1, 1) := by decide +kernel
theorem dX3_readFrom_91 : decode cX3_readFrom 91 = .ok (.iconst 4, 1) := by decide +kernel
theorem dX3_readFrom_92 : decode cX3_readFrom 92 = .ok (.invokevirtual 48, 3) := by decide +kernel
theorem dX3_readFrom_95 : decode cX3_readFrom 95 = .ok (.aload_n 0, 1) := by decide +kernel
theorem dX3_readFrom_96 : decode cX3_readFrom 96 = .ok (.aload_n 1, 1) := by decide +kernel
theorem dX3_readFrom_97 : decode cX3_readFrom 97 = .ok (.iconst 0, 1) := by decide +kernel
theorem dX3_readFrom_98 : decode cX3_readFrom 98 = .ok (.bipush 40, 2) := by decide +kernel
theorem dX3_readFrom_100 : decode cX3_readFrom 100 = .ok (.invokevirtual 44, 3) := by decide +kernel
theorem dX3_readFrom_103 : decode cX3_readFrom 103 = .ok (.bipush 20, 2) := by decide +kernel
theorem dX3_readFrom_105 : decode cX3_readFrom 105 = .ok (.isub, 1) := by decide +kernel
theorem dX3_readFrom_106 : decode cX3_readFrom 106 = .ok (.putfield 33, 3) := by decide +kernel
theorem dX3_readFrom_109 : decode cX3_readFrom 109 = .ok (.aload_n 1, 1) := by decide +kernel
theorem dX3_readFrom_110 : decode cX3_readFrom 110 = .ok (.bipush 59, 2) := by decide +kernel
theorem dX3_readFrom_112 : decode cX3_readFrom 112 = .ok (.invokevirtual 52, 3) := by decide +kernel
theorem dX3_readFrom_115 : decode cX3_readFrom 115 = .ok (.return_, 1) := by decide +kernel
theorem dX3_copyFrom_0 : decode cX3_copyFrom 0 = .ok (.aload_n 0, 1) := by decide +kernel
theorem dX3_copyFrom_1 : decode cX3_copyFrom 1 = .ok (.aload_n 1, 1) := by decide +kernel
theorem dX3_copyFrom_2 : decode cX3_copyFrom 2 = .ok (.getfield 9, 3) := by decide +kernel
theorem dX3_copyFrom_5 : decode cX3_copyFrom 5 = .ok (.putfield 9, 3) := by decide +kernel
theorem dX3_copyFrom_8 : decode cX3_copyFrom 8 = .ok (.aload_n 0, 1) := by decide +kernel
theorem dX3_copyFrom_9 : decode cX3_copyFrom 9 = .ok (.aload_n 1, 1) := by decide +kernel
theorem dX3_copyFrom_10 : decode cX3_copyFrom 10 = .ok (.getfield 15, 3) := by decide +kernel
theorem dX3_copyFrom_13 : decode cX3_copyFrom 13 = .ok (.putfield 15, 3) := by decide +kernel
theorem dX3_copyFrom_16 : decode cX3_copyFrom 16 = .ok (.aload_n 0, 1) := by decide +kernel
theorem dX3_copyFrom_17 : decode cX3_copyFrom 17 = .ok (.aload_n 1, 1) := by decide +kernel
theorem dX3_copyFrom_18 : decode cX3_copyFrom 18 = .ok (.getfield 18, 3) := by decide +kernel
theorem dX3_copyFrom_21 : decode cX3_copyFrom 21 = .ok (.putfield 18, 3) := by decide +kernel
theorem dX3_copyFrom_24 : decode cX3_copyFrom 24 = .ok (.aload_n 0, 1) := by decide +kernel
theorem dX3_copyFrom_25 : decode cX3_copyFrom 25 = .ok (.aload_n 1, 1) := by decide +kernel
theorem dX3_copyFrom_26 : decode cX3_copyFrom 26 = .ok (.getfield 21, 3) := by decide +kernel
theorem dX3_copyFrom_29 : decode cX3_copyFrom 29 = .ok (.putfield 21, 3) := by decide +kernel
theorem dX3_copyFrom_32 : decode cX3_copyFrom 32 = .ok (.aload_n 0, 1) := by decide +kernel
theorem dX3_copyFrom_33 : decode cX3_copyFrom 33 = .ok (.aload_n 1, 1) := by decide +kernel
theorem dX3_copyFrom_34 : decode cX3_copyFrom 34 = .ok (.getfield 24, 3) := by decide +kernel
theorem dX3_copyFrom_37 : decode cX3_copyFrom 37 = .ok (.putfield 24, 3) := by decide +kernel
theorem dX3_copyFrom_40 : decode cX3_copyFrom 40 = .ok (.aload_n 0, 1) := by decide +kernel
theorem dX3_copyFrom_41 : decode cX3_copyFrom 41 = .ok (.aload_n 1, 1) := by decide +kernel
theorem dX3_copyFrom_42 : decode cX3_copyFrom 42 = .ok (.getfield 27, 3) := by decide +kernel
theorem dX3_copyFrom_45 : decode cX3_copyFrom 45 = .ok (.putfield 27, 3) := by decide +kernel
theorem dX3_copyFrom_48 : decode cX3_copyFrom 48 = .ok (.aload_n 0, 1) := by decide +kernel
theorem dX3_copyFrom_49 : decode cX3_copyFrom 49 = .ok (.aload_n 1, 1) := by decide +kernel
theorem dX3_copyFrom_50 : decode cX3_copyFrom 50 = .ok (.getfield 30, 3) := by decide +kernel
theorem dX3_copyFrom_53 : decode cX3_copyFrom 53 = .ok (.putfield 30, 3) := by decide +kernel
theorem dX3_copyFrom_56 : decode cX3_copyFrom 56 = .ok (.aload_n 0, 1) := by decide +kernel
theorem dX3_copyFrom_57 : decode cX3_copyFrom 57 = .ok (.aload_n 1, 1) := by decide +kernel
theorem dX3_copyFrom_58 : decode cX3_copyFrom 58 = .ok (.getfield 33, 3) := by decide +kernel
theorem dX3_copyFrom_61 : decode cX3_copyFrom 61 = .ok (.putfield 33, 3) := by decide +kernel
theorem dX3_copyFrom_64 : decode cX3_copyFrom 64 = .ok (.return_, 1) := by decide +kernel
theorem dX3_learn_0 : decode cX3_learn 0 = .ok (.iload_n 1, 1) := by decide +kernel
theorem dX3_learn_1 : decode cX3_learn 1 = .ok (.ifCond .ne 27, 3) := by decide +kernel
theorem dX3_learn_4 : decode cX3_learn 4 = .ok (.aload_n 0, 1) := by decide +kernel
theorem dX3_learn_5 : decode cX3_learn 5 = .ok (.iconst 0, 1) := by decide +kernel
theorem dX3_learn_6 : decode cX3_learn 6 = .ok (.aload_n 0, 1) := by decide +kernel
theorem dX3_learn_7 : decode cX3_learn 7 = .ok (.getfield 15, 3) := by decide +kernel
theorem dX3_learn_10 : decode cX3_learn 10 = .ok (.aload_n 0, 1) := by decide +kernel
theorem dX3_learn_11 : decode cX3_learn 11 = .ok (.getfield 15, 3) := by decide +kernel
theorem dX3_learn_14 : decode cX3_learn 14 = .ok (.iconst 4, 1) := by decide +kernel
theorem dX3_learn_15 : decode cX3_learn 15 = .ok (.idiv, 1) := by decide +kernel
theorem dX3_learn_16 : decode cX3_learn 16 = .ok (.iconst 1, 1) := by decide +kernel
theorem dX3_learn_17 : decode cX3_learn 17 = .ok (.iadd, 1) := by decide +kernel
theorem dX3_learn_18 : decode cX3_learn 18 = .ok (.isub, 1) := by decide +kernel
theorem dX3_learn_19 : decode cX3_learn 19 = .ok (.invokestatic 56, 3) := by decide +kernel
theorem dX3_learn_22 : decode cX3_learn 22 = .ok (.putfield 15, 3) := by decide +kernel
theorem dX3_learn_25 : decode cX3_learn 25 = .ok (.goto 93, 3) := by decide +kernel
theorem dX3_learn_28 : decode cX3_learn 28 = .ok (.iload_n 1, 1) := by decide +kernel
theorem dX3_learn_29 : decode cX3_learn 29 = .ok (.iconst 1, 1) := by decide +kernel
theorem dX3_learn_30 : decode cX3_learn 30 = .ok (.if_icmp .ne 36, 3) := by decide +kernel
theorem dX3_learn_33 : decode cX3_learn 33 = .ok (.aload_n 0, 1) := by decide +kernel
theorem dX3_learn_34 : decode cX3_learn 34 = .ok (.dup, 1) := by decide +kernel
theorem dX3_learn_35 : decode cX3_learn 35 = .ok (.getfield 18, 3) := by decide +kernel
theorem dX3_learn_38 : decode cX3_learn 38 = .ok (.aload_n 0, 1) := by decide +kernel
theorem dX3_learn_39 : decode cX3_learn 39 = .ok (.getfield 18, 3) := by decide +kernel
theorem dX3_learn_42 : decode cX3_learn 42 = .ok (.iconst 3, 1) := by decide +kernel
theorem dX3_learn_43 : decode cX3_learn 43 = .ok (.idiv, 1) := by decide +kernel
theorem dX3_learn_44 : decode cX3_learn 44 = .ok (.isub, 1) := by decide +kernel
theorem dX3_learn_45 : decode cX3_learn 45 = .ok (.putfield 18, 3) := by decide +kernel
theorem dX3_learn_48 : decode cX3_learn 48 = .ok (.aload_n 0, 1) := by decide +kernel
theorem dX3_learn_49 : decode cX3_learn 49 = .ok (.dup, 1) := by decide +kernel
theorem dX3_learn_50 : decode cX3_learn 50 = .ok (.getfield 21, 3) := by decide +kernel
theorem dX3_learn_53 : decode cX3_learn 53 = .ok (.aload_n 0, 1) := by decide +kernel
theorem dX3_learn_54 : decode cX3_learn 54 = .ok (.getfield 21, 3) := by decide +kernel
theorem dX3_learn_57 : decode cX3_learn 57 = .ok (.iconst 3, 1) := by decide +kernel
theorem dX3_learn_58 : decode cX3_learn 58 = .ok (.idiv, 1) := by decide +kernel
theorem dX3_learn_59 : decode cX3_learn 59 = .ok (.isub, 1) := by decide +kernel
theorem dX3_learn_60 : decode cX3_learn 60 = .ok (.putfield 21, 3) := by decide +kernel
theorem dX3_learn_63 : decode cX3_learn 63 = .ok (.goto 55, 3) := by decide +kernel
theorem dX3_learn_66 : decode cX3_learn 66 = .ok (.iload_n 1, 1) := by decide +kernel
theorem dX3_learn_67 : decode cX3_learn 67 = .ok (.iconst 2, 1) := by decide +kernel
theorem dX3_learn_68 : decode cX3_learn 68 = .ok (.if_icmp .ne 21, 3) := by decide +kernel
theorem dX3_learn_71 : decode cX3_learn 71 = .ok (.aload_n 0, 1) := by decide +kernel
theorem dX3_learn_72 : decode cX3_learn 72 = .ok (.bipush 40, 2) := by decide +kernel
theorem dX3_learn_74 : decode cX3_learn 74 = .ok (.aload_n 0, 1) := by decide +kernel
theorem dX3_learn_75 : decode cX3_learn 75 = .ok (.getfield 24, 3) := by decide +kernel
theorem dX3_learn_78 : decode cX3_learn 78 = .ok (.iconst 2, 1) := by decide +kernel
theorem dX3_learn_79 : decode cX3_learn 79 = .ok (.iadd, 1) := by decide +kernel
theorem dX3_learn_80 : decode cX3_learn 80 = .ok (.invokestatic 61, 3) := by decide +kernel
theorem dX3_learn_83 : decode cX3_learn 83 = .ok (.putfield 24, 3) := by decide +kernel
theorem dX3_learn_86 : decode cX3_learn 86 = .ok (.goto 32, 3) := by decide +kernel
theorem dX3_learn_89 : decode cX3_learn 89 = .ok (.aload_n 0, 1) := by decide +kernel
theorem dX3_learn_90 : decode cX3_learn 90 = .ok (.bipush 36, 2) := by decide +kernel
theorem dX3_learn_92 : decode cX3_learn 92 = .ok (.aload_n 0, 1) := by decide +kernel
theorem dX3_learn_93 : decode cX3_learn 93 = .ok (.getfield 30, 3) := by decide +kernel
theorem dX3_learn_96 : decode cX3_learn 96 = .ok (.iconst 1, 1) := by decide +kernel
theorem dX3_learn_97 : decode cX3_learn 97 = .ok (.iadd, 1) := by decide +kernel
theorem dX3_learn_98 : decode cX3_learn 98 = .ok (.invokestatic 61, 3) := by decide +kernel
theorem dX3_learn_101 : decode cX3_learn 101 = .ok (.putfield 30, 3) := by decide +kernel
theorem dX3_learn_104 : decode cX3_learn 104 = .ok (.aload_n 0, 1) := by decide +kernel
theorem dX3_learn_105 : decode cX3_learn 105 = .ok (.iconst 0, 1) := by decide +kernel
theorem dX3_learn_106 : decode cX3_learn 106 = .ok (.aload_n 0, 1) := by decide +kernel
theorem dX3_learn_107 : decode cX3_learn 107 = .ok (.getfield 27, 3) := by decide +kernel
theorem dX3_learn_110 : decode cX3_learn 110 = .ok (.iconst 1, 1) := by decide +kernel
theorem dX3_learn_111 : decode cX3_learn 111 = .ok (.isub, 1) := by decide +kernel
theorem dX3_learn_112 : decode cX3_learn 112 = .ok (.invokestatic 56, 3) := by decide +kernel
theorem dX3_learn_115 : decode cX3_learn 115 = .ok (.putfield 27, 3) := by decide +kernel
theorem dX3_learn_118 : decode cX3_learn 118 = .ok (.return_, 1) := by decide +kernel
theorem dX3_leanSung_0 : decode cX3_leanSung 0 = .ok (.aload_n 0, 1) := by decide +kernel
theorem dX3_leanSung_1 : decode cX3_leanSung 1 = .ok (.getfield 9, 3) := by decide +kernel
theorem dX3_leanSung_4 : decode cX3_leanSung 4 = .ok (.iconst 1, 1) := by decide +kernel
theorem dX3_leanSung_5 : decode cX3_leanSung 5 = .ok (.if_icmp .ne 7, 3) := by decide +kernel
theorem dX3_leanSung_8 : decode cX3_leanSung 8 = .ok (.iconst 0, 1) := by decide +kernel
theorem dX3_leanSung_9 : decode cX3_leanSung 9 = .ok (.goto 7, 3) := by decide +kernel
theorem dX3_leanSung_12 : decode cX3_leanSung 12 = .ok (.aload_n 0, 1) := by decide +kernel
theorem dX3_leanSung_13 : decode cX3_leanSung 13 = .ok (.getfield 18, 3) := by decide +kernel
theorem dX3_leanSung_16 : decode cX3_leanSung 16 = .ok (.ireturn, 1) := by decide +kernel
theorem dX3_driftSung_0 : decode cX3_driftSung 0 = .ok (.aload_n 0, 1) := by decide +kernel
theorem dX3_driftSung_1 : decode cX3_driftSung 1 = .ok (.getfield 9, 3) := by decide +kernel
theorem dX3_driftSung_4 : decode cX3_driftSung 4 = .ok (.iconst 1, 1) := by decide +kernel
theorem dX3_driftSung_5 : decode cX3_driftSung 5 = .ok (.if_icmp .ne 5, 3) := by decide +kernel
theorem dX3_driftSung_8 : decode cX3_driftSung 8 = .ok (.iconst 0, 1) := by decide +kernel
theorem dX3_driftSung_9 : decode cX3_driftSung 9 = .ok (.ireturn, 1) := by decide +kernel
theorem dX3_driftSung_10 : decode cX3_driftSung 10 = .ok (.aload_n 0, 1) := by decide +kernel
theorem dX3_driftSung_11 : decode cX3_driftSung 11 = .ok (.getfield 9, 3) := by decide +kernel
theorem dX3_driftSung_14 : decode cX3_driftSung 14 = .ok (.iconst 2, 1) := by decide +kernel
theorem dX3_driftSung_15 : decode cX3_driftSung 15 = .ok (.if_icmp .ne 12, 3) := by decide +kernel
theorem dX3_driftSung_18 : decode cX3_driftSung 18 = .ok (.iconst 2, 1) := by decide +kernel
theorem dX3_driftSung_19 : decode cX3_driftSung 19 = .ok (.aload_n 0, 1) := by decide +kernel
theorem dX3_driftSung_20 : decode cX3_driftSung 20 = .ok (.getfield 33, 3) := by decide +kernel
theorem dX3_driftSung_23 : decode cX3_driftSung 23 = .ok (.imul, 1) := by decide +kernel
theorem dX3_driftSung_24 : decode cX3_driftSung 24 = .ok (.goto 7, 3) := by decide +kernel
theorem dX3_driftSung_27 : decode cX3_driftSung 27 = .ok (.aload_n 0, 1) := by decide +kernel
theorem dX3_driftSung_28 : decode cX3_driftSung 28 = .ok (.getfield 33, 3) := by decide +kernel
theorem dX3_driftSung_31 : decode cX3_driftSung 31 = .ok (.ireturn, 1) := by decide +kernel
theorem dX3_highSung_0 : decode cX3_highSung 0 = .ok (.aload_n 0, 1) := by decide +kernel
theorem dX3_highSung_1 : decode cX3_highSung 1 = .ok (.getfield 9, 3) := by decide +kernel
theorem dX3_highSung_4 : decode cX3_highSung 4 = .ok (.iconst 3, 1) := by decide +kernel
theorem dX3_highSung_5 : decode cX3_highSung 5 = .ok (.if_icmp .ne 19, 3) := by decide +kernel
theorem dX3_highSung_8 : decode cX3_highSung 8 = .ok (.aload_n 0, 1) := by decide +kernel
theorem dX3_highSung_9 : decode cX3_highSung 9 = .ok (.getfield 30, 3) := by decide +kernel
theorem dX3_highSung_12 : decode cX3_highSung 12 = .ok (.aload_n 0, 1) := by decide +kernel
theorem dX3_highSung_13 : decode cX3_highSung 13 = .ok (.getfield 27, 3) := by decide +kernel
theorem dX3_highSung_16 : decode cX3_highSung 16 = .ok (.iconst 5, 1) := by decide +kernel
theorem dX3_highSung_17 : decode cX3_highSung 17 = .ok (.iadd, 1) := by decide +kernel
theorem dX3_highSung_18 : decode cX3_highSung 18 = .ok (.invokestatic 61, 3) := by decide +kernel
theorem dX3_highSung_21 : decode cX3_highSung 21 = .ok (.goto 7, 3) := by decide +kernel
theorem dX3_highSung_24 : decode cX3_highSung 24 = .ok (.aload_n 0, 1) := by decide +kernel
theorem dX3_highSung_25 : decode cX3_highSung 25 = .ok (.getfield 30, 3) := by decide +kernel
theorem dX3_highSung_28 : decode cX3_highSung 28 = .ok (.ireturn, 1) := by decide +kernel
theorem dX3_isPastMemory_0 : decode cX3_isPastMemory 0 = .ok (.aload_n 0, 1) := by decide +kernel
theorem dX3_isPastMemory_1 : decode cX3_isPastMemory 1 = .ok (.getfield 9, 3) := by decide +kernel
theorem dX3_isPastMemory_4 : decode cX3_isPastMemory 4 = .ok (.iconst 1, 1) := by decide +kernel
theorem dX3_isPastMemory_5 : decode cX3_isPastMemory 5 = .ok (.if_icmp .ne 5, 3) := by decide +kernel
theorem dX3_isPastMemory_8 : decode cX3_isPastMemory 8 = .ok (.iconst 0, 1) := by decide +kernel
theorem dX3_isPastMemory_9 : decode cX3_isPastMemory 9 = .ok (.ireturn, 1) := by decide +kernel
theorem dX3_isPastMemory_10 : decode cX3_isPastMemory 10 = .ok (.iload_n 1, 1) := by decide +kernel
theorem dX3_isPastMemory_11 : decode cX3_isPastMemory 11 = .ok (.aload_n 0, 1) := by decide +kernel
theorem dX3_isPastMemory_12 : decode cX3_isPastMemory 12 = .ok (.getfield 9, 3) := by decide +kernel
theorem dX3_isPastMemory_15 : decode cX3_isPastMemory 15 = .ok (.iconst 5, 1) := by decide +kernel
theorem dX3_isPastMemory_16 : decode cX3_isPastMemory 16 = .ok (.if_icmp .ne 14, 3) := by decide +kernel
theorem dX3_isPastMemory_19 : decode cX3_isPastMemory 19 = .ok (.aload_n 0, 1) := by decide +kernel
theorem dX3_isPastMemory_20 : decode cX3_isPastMemory 20 = .ok (.getfield 24, 3) := by decide +kernel
theorem dX3_isPastMemory_23 : decode cX3_isPastMemory 23 = .ok (.iconst 3, 1) := by decide +kernel
theorem dX3_isPastMemory_24 : decode cX3_isPastMemory 24 = .ok (.invokestatic 61, 3) := by decide +kernel
theorem dX3_isPastMemory_27 : decode cX3_isPastMemory 27 = .ok (.goto 7, 3) := by decide +kernel
theorem dX3_isPastMemory_30 : decode cX3_isPastMemory 30 = .ok (.aload_n 0, 1) := by decide +kernel
theorem dX3_isPastMemory_31 : decode cX3_isPastMemory 31 = .ok (.getfield 24, 3) := by decide +kernel
theorem dX3_isPastMemory_34 : decode cX3_isPastMemory 34 = .ok (.if_icmp .lt 7, 3) := by decide +kernel
theorem dX3_isPastMemory_37 : decode cX3_isPastMemory 37 = .ok (.iconst 1, 1) := by decide +kernel
theorem dX3_isPastMemory_38 : decode cX3_isPastMemory 38 = .ok (.goto 4, 3) := by decide +kernel
theorem dX3_isPastMemory_41 : decode cX3_isPastMemory 41 = .ok (.iconst 0, 1) := by decide +kernel
theorem dX3_isPastMemory_42 : decode cX3_isPastMemory 42 = .ok (.ireturn, 1) := by decide +kernel
theorem dX3_hears_0 : decode cX3_hears 0 = .ok (.aload_n 0, 1) := by decide +kernel
theorem dX3_hears_1 : decode cX3_hears 1 = .ok (.getfield 9, 3) := by decide +kernel
theorem dX3_hears_4 : decode cX3_hears 4 = .ok (.iconst 1, 1) := by decide +kernel
theorem dX3_hears_5 : decode cX3_hears 5 = .ok (.if_icmp .ne 5, 3) := by decide +kernel
theorem dX3_hears_8 : decode cX3_hears 8 = .ok (.iconst 1, 1) := by decide +kernel
theorem dX3_hears_9 : decode cX3_hears 9 = .ok (.ireturn, 1) := by decide +kernel
theorem dX3_hears_10 : decode cX3_hears 10 = .ok (.iload_n 1, 1) := by decide +kernel
theorem dX3_hears_11 : decode cX3_hears 11 = .ok (.invokestatic 64, 3) := by decide +kernel
theorem dX3_hears_14 : decode cX3_hears 14 = .ok (.aload_n 0, 1) := by decide +kernel
theorem dX3_hears_15 : decode cX3_hears 15 = .ok (.getfield 9, 3) := by decide +kernel
theorem dX3_hears_18 : decode cX3_hears 18 = .ok (.bipush 6, 2) := by decide +kernel
theorem dX3_hears_20 : decode cX3_hears 20 = .ok (.if_icmp .ne 12, 3) := by decide +kernel
theorem dX3_hears_23 : decode cX3_hears 23 = .ok (.iconst 2, 1) := by decide +kernel
theorem dX3_hears_24 : decode cX3_hears 24 = .ok (.aload_n 0, 1) := by decide +kernel
theorem dX3_hears_25 : decode cX3_hears 25 = .ok (.getfield 15, 3) := by decide +kernel
theorem dX3_hears_28 : decode cX3_hears 28 = .ok (.imul, 1) := by decide +kernel
theorem dX3_hears_29 : decode cX3_hears 29 = .ok (.goto 7, 3) := by decide +kernel
theorem dX3_hears_32 : decode cX3_hears 32 = .ok (.aload_n 0, 1) := by decide +kernel
theorem dX3_hears_33 : decode cX3_hears 33 = .ok (.getfield 15, 3) := by decide +kernel
theorem dX3_hears_36 : decode cX3_hears 36 = .ok (.bipush 50, 2) := by decide +kernel
theorem dX3_hears_38 : decode cX3_hears 38 = .ok (.iadd, 1) := by decide +kernel
theorem dX3_hears_39 : decode cX3_hears 39 = .ok (.if_icmp .le 7, 3) := by decide +kernel
theorem dX3_hears_42 : decode cX3_hears 42 = .ok (.iconst 1, 1) := by decide +kernel
theorem dX3_hears_43 : decode cX3_hears 43 = .ok (.goto 4, 3) := by decide +kernel
theorem dX3_hears_46 : decode cX3_hears 46 = .ok (.iconst 0, 1) := by decide +kernel
theorem dX3_hears_47 : decode cX3_hears 47 = .ok (.ireturn, 1) := by decide +kernel
theorem dX3_moveOfAim_0 : decode cX3_moveOfAim 0 = .ok (.aload_n 0, 1) := by decide +kernel
theorem dX3_moveOfAim_1 : decode cX3_moveOfAim 1 = .ok (.iload_n 2, 1) := by decide +kernel
theorem dX3_moveOfAim_2 : decode cX3_moveOfAim 2 = .ok (.invokevirtual 68, 3) := by decide +kernel
theorem dX3_moveOfAim_5 : decode cX3_moveOfAim 5 = .ok (.ifCond .eq 5, 3) := by decide +kernel
theorem dX3_moveOfAim_8 : decode cX3_moveOfAim 8 = .ok (.iconst 0, 1) := by decide +kernel
theorem dX3_moveOfAim_9 : decode cX3_moveOfAim 9 = .ok (.ireturn, 1) := by decide +kernel
theorem dX3_moveOfAim_10 : decode cX3_moveOfAim 10 = .ok (.aload_n 0, 1) := by decide +kernel
theorem dX3_moveOfAim_11 : decode cX3_moveOfAim 11 = .ok (.iload_n 1, 1) := by decide +kernel
theorem dX3_moveOfAim_12 : decode cX3_moveOfAim 12 = .ok (.invokevirtual 72, 3) := by decide +kernel
theorem dX3_moveOfAim_15 : decode cX3_moveOfAim 15 = .ok (.ifCond .eq 7, 3) := by decide +kernel
theorem dX3_moveOfAim_18 : decode cX3_moveOfAim 18 = .ok (.iload_n 1, 1) := by decide +kernel
theorem dX3_moveOfAim_19 : decode cX3_moveOfAim 19 = .ok (.goto 4, 3) := by decide +kernel
theorem dX3_moveOfAim_22 : decode cX3_moveOfAim 22 = .ok (.iconst 0, 1) := by decide +kernel
theorem dX3_moveOfAim_23 : decode cX3_moveOfAim 23 = .ok (.aload_n 0, 1) := by decide +kernel
theorem dX3_moveOfAim_24 : decode cX3_moveOfAim 24 = .ok (.invokevirtual 75, 3) := by decide +kernel
theorem dX3_moveOfAim_27 : decode cX3_moveOfAim 27 = .ok (.iadd, 1) := by decide +kernel
theorem dX3_moveOfAim_28 : decode cX3_moveOfAim 28 = .ok (.ireturn, 1) := by decide +kernel
theorem dX3_heldToRange_0 : decode cX3_heldToRange 0 = .ok (.bipush 100, 2) := by decide +kernel
theorem dX3_heldToRange_2 : decode cX3_heldToRange 2 = .ok (.aload_n 0, 1) := by decide +kernel
theorem dX3_heldToRange_3 : decode cX3_heldToRange 3 = .ok (.getfield 27, 3) := by decide +kernel
theorem dX3_heldToRange_6 : decode cX3_heldToRange 6 = .ok (.imul, 1) := by decide +kernel
theorem dX3_heldToRange_7 : decode cX3_heldToRange 7 = .ok (.bipush 100, 2) := by decide +kernel
theorem dX3_heldToRange_9 : decode cX3_heldToRange 9 = .ok (.aload_n 0, 1) := by decide +kernel
theorem dX3_heldToRange_10 : decode cX3_heldToRange 10 = .ok (.invokevirtual 79, 3) := by decide +kernel
theorem dX3_heldToRange_13 : decode cX3_heldToRange 13 = .ok (.imul, 1) := by decide +kernel
theorem dX3_heldToRange_14 : decode cX3_heldToRange 14 = .ok (.iload_n 1, 1) := by decide +kernel
theorem dX3_heldToRange_15 : decode cX3_heldToRange 15 = .ok (.invokestatic 61, 3) := by decide +kernel
theorem dX3_heldToRange_18 : decode cX3_heldToRange 18 = .ok (.invokestatic 56, 3) := by decide +kernel
theorem dX3_heldToRange_21 : decode cX3_heldToRange 21 = .ok (.ireturn, 1) := by decide +kernel
theorem dX4_init_0 : decode cX4_init 0 = .ok (.aload_n 0, 1) := by decide +kernel
theorem dX4_init_1 : decode cX4_init 1 = .ok (.invokespecial 3, 3) := by decide +kernel
theorem dX4_init_4 : decode cX4_init 4 = .ok (.aload_n 0, 1) := by decide +kernel
theorem dX4_init_5 : decode cX4_init 5 = .ok (.bipush 40, 2) := by decide +kernel
theorem dX4_init_7 : decode cX4_init 7 = .ok (.newarray .int, 2) := by decide +kernel
theorem dX4_init_9 : decode cX4_init 9 = .ok (.putfield 9, 3) := by decide +kernel
theorem dX4_init_12 : decode cX4_init 12 = .ok (.aload_n 0, 1) := by decide +kernel
theorem dX4_init_13 : decode cX4_init 13 = .ok (.iconst 0, 1) := by decide +kernel
theorem dX4_init_14 : decode cX4_init 14 = .ok (.putfield 15, 3) := by decide +kernel
theorem dX4_init_17 : decode cX4_init 17 = .ok (.aload_n 0, 1) := by decide +kernel
theorem dX4_init_18 : decode cX4_init 18 = .ok (.iconst (-1), 1) := by decide +kernel
theorem dX4_init_19 : decode cX4_init 19 = .ok (.putfield 19, 3) := by decide +kernel
theorem dX4_init_22 : decode cX4_init 22 = .ok (.return_, 1) := by decide +kernel
theorem dX4_clear_0 : decode cX4_clear 0 = .ok (.aload_n 0, 1) := by decide +kernel
theorem dX4_clear_1 : decode cX4_clear 1 = .ok (.iconst 0, 1) := by decide +kernel
theorem dX4_clear_2 : decode cX4_clear 2 = .ok (.putfield 15, 3) := by decide +kernel
theorem dX4_clear_5 : decode cX4_clear 5 = .ok (.aload_n 0, 1) := by decide +kernel
theorem dX4_clear_6 : decode cX4_clear 6 = .ok (.iconst (-1), 1) := by decide +kernel
theorem dX4_clear_7 : decode cX4_clear 7 = .ok (.putfield 19, 3) := by decide +kernel
theorem dX4_clear_10 : decode cX4_clear 10 = .ok (.return_, 1) := by decide +kernel
theorem dX4_copyFrom_0 : decode cX4_copyFrom 0 = .ok (.aload_n 1, 1) := by decide +kernel
theorem dX4_copyFrom_1 : decode cX4_copyFrom 1 = .ok (.getfield 9, 3) := by decide +kernel
theorem dX4_copyFrom_4 : decode cX4_copyFrom 4 = .ok (.iconst 0, 1) := by decide +kernel
theorem dX4_copyFrom_5 : decode cX4_copyFrom 5 = .ok (.aload_n 0, 1) := by decide +kernel
theorem dX4_copyFrom_6 : decode cX4_copyFrom 6 = .ok (.getfield 9, 3) := by decide +kernel
theorem dX4_copyFrom_9 : decode cX4_copyFrom 9 = .ok (.iconst 0, 1) := by decide +kernel
theorem dX4_copyFrom_10 : decode cX4_copyFrom 10 = .ok (.bipush 40, 2) := by decide +kernel
theorem dX4_copyFrom_12 : decode cX4_copyFrom 12 = .ok (.invokestatic 22, 3) := by decide +kernel
theorem dX4_copyFrom_15 : decode cX4_copyFrom 15 = .ok (.aload_n 0, 1) := by decide +kernel
theorem dX4_copyFrom_16 : decode cX4_copyFrom 16 = .ok (.aload_n 1, 1) := by decide +kernel
theorem dX4_copyFrom_17 : decode cX4_copyFrom 17 = .ok (.getfield 15, 3) := by decide +kernel
theorem dX4_copyFrom_20 : decode cX4_copyFrom 20 = .ok (.putfield 15, 3) := by decide +kernel
theorem dX4_copyFrom_23 : decode cX4_copyFrom 23 = .ok (.aload_n 0, 1) := by decide +kernel
theorem dX4_copyFrom_24 : decode cX4_copyFrom 24 = .ok (.aload_n 1, 1) := by decide +kernel
theorem dX4_copyFrom_25 : decode cX4_copyFrom 25 = .ok (.getfield 19, 3) := by decide +kernel
theorem dX4_copyFrom_28 : decode cX4_copyFrom 28 = .ok (.putfield 19, 3) := by decide +kernel
theorem dX4_copyFrom_31 : decode cX4_copyFrom 31 = .ok (.return_, 1) := by decide +kernel
theorem dX4_heightAt_0 : decode cX4_heightAt 0 = .ok (.iload_n 1, 1) := by decide +kernel
theorem dX4_heightAt_1 : decode cX4_heightAt 1 = .ok (.iconst 0, 1) := by decide +kernel
theorem dX4_heightAt_2 : decode cX4_heightAt 2 = .ok (.aload_n 0, 1) := by decide +kernel
theorem dX4_heightAt_3 : decode cX4_heightAt 3 = .ok (.getfield 15, 3) := by decide +kernel
theorem dX4_heightAt_6 : decode cX4_heightAt 6 = .ok (.iconst 1, 1) := by decide +kernel
theorem dX4_heightAt_7 : decode cX4_heightAt 7 = .ok (.isub, 1) := by decide +kernel
theorem dX4_heightAt_8 : decode cX4_heightAt 8 = .ok (.invokestatic 28, 3) := by decide +kernel
theorem dX4_heightAt_11 : decode cX4_heightAt 11 = .ok (.ifCond .eq 12, 3) := by decide +kernel
theorem dX4_heightAt_14 : decode cX4_heightAt 14 = .ok (.aload_n 0, 1) := by decide +kernel
theorem dX4_heightAt_15 : decode cX4_heightAt 15 = .ok (.getfield 9, 3) := by decide +kernel
theorem dX4_heightAt_18 : decode cX4_heightAt 18 = .ok (.iload_n 1, 1) := by decide +kernel
theorem dX4_heightAt_19 : decode cX4_heightAt 19 = .ok (.iaload, 1) := by decide +kernel
theorem dX4_heightAt_20 : decode cX4_heightAt 20 = .ok (.goto 4, 3) := by decide +kernel
theorem dX4_heightAt_23 : decode cX4_heightAt 23 = .ok (.iconst (-1), 1) := by decide +kernel
theorem dX4_heightAt_24 : decode cX4_heightAt 24 = .ok (.ireturn, 1) := by decide +kernel
theorem dX4_isHeard_0 : decode cX4_isHeard 0 = .ok (.aload_n 0, 1) := by decide +kernel
theorem dX4_isHeard_1 : decode cX4_isHeard 1 = .ok (.iconst 0, 1) := by decide +kernel
theorem dX4_isHeard_2 : decode cX4_isHeard 2 = .ok (.invokevirtual 32, 3) := by decide +kernel
theorem dX4_isHeard_5 : decode cX4_isHeard 5 = .ok (.iconst (-1), 1) := by decide +kernel
theorem dX4_isHeard_6 : decode cX4_isHeard 6 = .ok (.if_icmp .eq 7, 3) := by decide +kernel
theorem dX4_isHeard_9 : decode cX4_isHeard 9 = .ok (.iconst 1, 1) := by decide +kernel
theorem dX4_isHeard_10 : decode cX4_isHeard 10 = .ok (.goto 4, 3) := by decide +kernel
theorem dX4_isHeard_13 : decode cX4_isHeard 13 = .ok (.iconst 0, 1) := by decide +kernel
theorem dX4_isHeard_14 : decode cX4_isHeard 14 = .ok (.ireturn, 1) := by decide +kernel
theorem dX4_homeAt_0 : decode cX4_homeAt 0 = .ok (.iload_n 1, 1) := by decide +kernel
theorem dX4_homeAt_1 : decode cX4_homeAt 1 = .ok (.iconst 0, 1) := by decide +kernel
theorem dX4_homeAt_2 : decode cX4_homeAt 2 = .ok (.aload_n 0, 1) := by decide +kernel
theorem dX4_homeAt_3 : decode cX4_homeAt 3 = .ok (.getfield 15, 3) := by decide +kernel
theorem dX4_homeAt_6 : decode cX4_homeAt 6 = .ok (.iconst 1, 1) := by decide +kernel
theorem dX4_homeAt_7 : decode cX4_homeAt 7 = .ok (.isub, 1) := by decide +kernel
theorem dX4_homeAt_8 : decode cX4_homeAt 8 = .ok (.invokestatic 28, 3) := by decide +kernel
theorem dX4_homeAt_11 : decode cX4_homeAt 11 = .ok (.ifCond .eq 19, 3) := by decide +kernel
theorem dX4_homeAt_14 : decode cX4_homeAt 14 = .ok (.aload_n 0, 1) := by decide +kernel
theorem dX4_homeAt_15 : decode cX4_homeAt 15 = .ok (.getfield 9, 3) := by decide +kernel
theorem dX4_homeAt_18 : decode cX4_homeAt 18 = .ok (.iload_n 1, 1) := by decide +kernel
theorem dX4_homeAt_19 : decode cX4_homeAt 19 = .ok (.iaload, 1) := by decide +kernel
theorem dX4_homeAt_20 : decode cX4_homeAt 20 = .ok (.aload_n 2, 1) := by decide +kernel
theorem dX4_homeAt_21 : decode cX4_homeAt 21 = .ok (.getfield 36, 3) := by decide +kernel
theorem dX4_homeAt_24 : decode cX4_homeAt 24 = .ok (.iload_n 1, 1) := by decide +kernel
theorem dX4_homeAt_25 : decode cX4_homeAt 25 = .ok (.iaload, 1) := by decide +kernel
theorem dX4_homeAt_26 : decode cX4_homeAt 26 = .ok (.isub, 1) := by decide +kernel
theorem dX4_homeAt_27 : decode cX4_homeAt 27 = .ok (.goto 4, 3) := by decide +kernel
theorem dX4_homeAt_30 : decode cX4_homeAt 30 = .ok (.iconst 0, 1) := by decide +kernel
theorem dX4_homeAt_31 : decode cX4_homeAt 31 = .ok (.ireturn, 1) := by decide +kernel
theorem dX4_slide_0 : decode cX4_slide 0 = .ok (.aload_n 0, 1) := by decide +kernel
theorem dX4_slide_1 : decode cX4_slide 1 = .ok (.invokevirtual 41, 3) := by decide +kernel
theorem dX4_slide_4 : decode cX4_slide 4 = .ok (.ifCond .eq 24, 3) := by decide +kernel
theorem dX4_slide_7 : decode cX4_slide 7 = .ok (.aload_n 0, 1) := by decide +kernel
theorem dX4_slide_8 : decode cX4_slide 8 = .ok (.aload_n 0, 1) := by decide +kernel
theorem dX4_slide_9 : decode cX4_slide 9 = .ok (.getfield 15, 3) := by decide +kernel
theorem dX4_slide_12 : decode cX4_slide 12 = .ok (.iconst 1, 1) := by decide +kernel
theorem dX4_slide_13 : decode cX4_slide 13 = .ok (.isub, 1) := by decide +kernel
theorem dX4_slide_14 : decode cX4_slide 14 = .ok (.aload_n 1, 1) := by decide +kernel
theorem dX4_slide_15 : decode cX4_slide 15 = .ok (.invokevirtual 45, 3) := by decide +kernel
theorem dX4_slide_18 : decode cX4_slide 18 = .ok (.aload_n 0, 1) := by decide +kernel
theorem dX4_slide_19 : decode cX4_slide 19 = .ok (.iconst 0, 1) := by decide +kernel
theorem dX4_slide_20 : decode cX4_slide 20 = .ok (.aload_n 1, 1) := by decide +kernel
theorem dX4_slide_21 : decode cX4_slide 21 = .ok (.invokevirtual 45, 3) := by decide +kernel
theorem dX4_slide_24 : decode cX4_slide 24 = .ok (.isub, 1) := by decide +kernel
theorem dX4_slide_25 : decode cX4_slide 25 = .ok (.goto 4, 3) := by decide +kernel
theorem dX4_slide_28 : decode cX4_slide 28 = .ok (.iconst 0, 1) := by decide +kernel
theorem dX4_slide_29 : decode cX4_slide 29 = .ok (.ireturn, 1) := by decide +kernel
theorem dX4_points_0 : decode cX4_points 0 = .ok (.aload_n 0, 1) := by decide +kernel
theorem dX4_points_1 : decode cX4_points 1 = .ok (.invokevirtual 41, 3) := by decide +kernel
theorem dX4_points_4 : decode cX4_points 4 = .ok (.ifCond .ne 5, 3) := by decide +kernel
theorem dX4_points_7 : decode cX4_points 7 = .ok (.iconst 0, 1) := by decide +kernel
theorem dX4_points_8 : decode cX4_points 8 = .ok (.ireturn, 1) := by decide +kernel
theorem dX4_points_9 : decode cX4_points 9 = .ok (.iload_n 1, 1) := by decide +kernel
theorem dX4_points_10 : decode cX4_points 10 = .ok (.ifCond .ne 9, 3) := by decide +kernel
theorem dX4_points_13 : decode cX4_points 13 = .ok (.aload_n 0, 1) := by decide +kernel
theorem dX4_points_14 : decode cX4_points 14 = .ok (.aload_n 2, 1) := by decide +kernel
theorem dX4_points_15 : decode cX4_points 15 = .ok (.invokevirtual 49, 3) := by decide +kernel
theorem dX4_points_18 : decode cX4_points 18 = .ok (.ireturn, 1) := by decide +kernel
theorem dX4_points_19 : decode cX4_points 19 = .ok (.iload_n 1, 1) := by decide +kernel
theorem dX4_points_20 : decode cX4_points 20 = .ok (.iconst 1, 1) := by decide +kernel
theorem dX4_points_21 : decode cX4_points 21 = .ok (.if_icmp .ne 9, 3) := by decide +kernel
theorem dX4_points_24 : decode cX4_points 24 = .ok (.aload_n 0, 1) := by decide +kernel
theorem dX4_points_25 : decode cX4_points 25 = .ok (.aload_n 2, 1) := by decide +kernel
theorem dX4_points_26 : decode cX4_points 26 = .ok (.invokevirtual 53, 3) := by decide +kernel
theorem dX4_points_29 : decode cX4_points 29 = .ok (.ireturn, 1) := by decide +kernel
theorem dX4_points_30 : decode cX4_points 30 = .ok (.iload_n 1, 1) := by decide +kernel
theorem dX4_points_31 : decode cX4_points 31 = .ok (.iconst 2, 1) := by decide +kernel
theorem dX4_points_32 : decode cX4_points 32 = .ok (.if_icmp .ne 12, 3) := by decide +kernel
theorem dX4_points_35 : decode cX4_points 35 = .ok (.aload_n 0, 1) := by decide +kernel
theorem dX4_points_36 : decode cX4_points 36 = .ok (.iconst 0, 1) := by decide +kernel
theorem dX4_points_37 : decode cX4_points 37 = .ok (.aload_n 2, 1) := by decide +kernel
theorem dX4_points_38 : decode cX4_points 38 = .ok (.invokevirtual 45, 3) := by decide +kernel
theorem dX4_points_41 : decode cX4_points 41 = .ok (.goto 8, 3) := by decide +kernel
theorem dX4_points_44 : decode cX4_points 44 = .ok (.aload_n 0, 1) := by decide +kernel
theorem dX4_points_45 : decode cX4_points 45 = .ok (.aload_n 2, 1) := by decide +kernel
theorem dX4_points_46 : decode cX4_points 46 = .ok (.invokevirtual 56, 3) := by decide +kernel
theorem dX4_points_49 : decode cX4_points 49 = .ok (.invokestatic 59, 3) := by decide +kernel
theorem dX4_points_52 : decode cX4_points 52 = .ok (.ifCond .eq 7, 3) := by decide +kernel
theorem dX4_points_55 : decode cX4_points 55 = .ok (.iconst 1, 1) := by decide +kernel
theorem dX4_points_56 : decode cX4_points 56 = .ok (.goto 4, 3) := by decide +kernel
theorem dX4_points_59 : decode cX4_points 59 = .ok (.iconst 0, 1) := by decide +kernel
theorem dX4_points_60 : decode cX4_points 60 = .ok (.ireturn, 1) := by decide +kernel
theorem dX4_stepsRight_0 : decode cX4_stepsRight 0 = .ok (.iconst 0, 1) := by decide +kernel
theorem dX4_stepsRight_1 : decode cX4_stepsRight 1 = .ok (.istore_n 2, 1) := by decide +kernel
theorem dX4_stepsRight_2 : decode cX4_stepsRight 2 = .ok (.iconst 1, 1) := by decide +kernel
theorem dX4_stepsRight_3 : decode cX4_stepsRight 3 = .ok (.istore_n 3, 1) := by decide +kernel
theorem dX4_stepsRight_4 : decode cX4_stepsRight 4 = .ok (.iload_n 3, 1) := by decide +kernel
theorem dX4_stepsRight_5 : decode cX4_stepsRight 5 = .ok (.aload_n 0, 1) := by decide +kernel
theorem dX4_stepsRight_6 : decode cX4_stepsRight 6 = .ok (.getfield 15, 3) := by decide +kernel
theorem dX4_stepsRight_9 : decode cX4_stepsRight 9 = .ok (.if_icmp .ge 33, 3) := by decide +kernel
theorem dX4_stepsRight_12 : decode cX4_stepsRight 12 = .ok (.aload_n 0, 1) := by decide +kernel
theorem dX4_stepsRight_13 : decode cX4_stepsRight 13 = .ok (.iload_n 3, 1) := by decide +kernel
theorem dX4_stepsRight_14 : decode cX4_stepsRight 14 = .ok (.aload_n 1, 1) := by decide +kernel
theorem dX4_stepsRight_15 : decode cX4_stepsRight 15 = .ok (.invokevirtual 45, 3) := by decide +kernel
theorem dX4_stepsRight_18 : decode cX4_stepsRight 18 = .ok (.aload_n 0, 1) := by decide +kernel
theorem dX4_stepsRight_19 : decode cX4_stepsRight 19 = .ok (.iload_n 3, 1) := by decide +kernel
theorem dX4_stepsRight_20 : decode cX4_stepsRight 20 = .ok (.iconst 1, 1) := by decide +kernel
theorem dX4_stepsRight_21 : decode cX4_stepsRight 21 = .ok (.isub, 1) := by decide +kernel
theorem dX4_stepsRight_22 : decode cX4_stepsRight 22 = .ok (.aload_n 1, 1) := by decide +kernel
theorem dX4_stepsRight_23 : decode cX4_stepsRight 23 = .ok (.invokevirtual 45, 3) := by decide +kernel
theorem dX4_stepsRight_26 : decode cX4_stepsRight 26 = .ok (.isub, 1) := by decide +kernel
theorem dX4_stepsRight_27 : decode cX4_stepsRight 27 = .ok (.invokestatic 59, 3) := by decide +kernel
theorem dX4_stepsRight_30 : decode cX4_stepsRight 30 = .ok (.ifCond .eq 6, 3) := by decide +kernel
theorem dX4_stepsRight_33 : decode cX4_stepsRight 33 = .ok (.iinc 2 1, 3) := by decide +kernel
theorem dX4_stepsRight_36 : decode cX4_stepsRight 36 = .ok (.iinc 3 1, 3) := by decide +kernel
theorem dX4_stepsRight_39 : decode cX4_stepsRight 39 = .ok (.goto (-35), 3) := by decide +kernel
theorem dX4_stepsRight_42 : decode cX4_stepsRight 42 = .ok (.iload_n 2, 1) := by decide +kernel
theorem dX4_stepsRight_43 : decode cX4_stepsRight 43 = .ok (.ireturn, 1) := by decide +kernel
theorem dX4_homesRight_0 : decode cX4_homesRight 0 = .ok (.iconst 0, 1) := by decide +kernel
theorem dX4_homesRight_1 : decode cX4_homesRight 1 = .ok (.istore_n 2, 1) := by decide +kernel
theorem dX4_homesRight_2 : decode cX4_homesRight 2 = .ok (.iconst 0, 1) := by decide +kernel
theorem dX4_homesRight_3 : decode cX4_homesRight 3 = .ok (.istore_n 3, 1) := by decide +kernel
theorem dX4_homesRight_4 : decode cX4_homesRight 4 = .ok (.iload_n 3, 1) := by decide +kernel
theorem dX4_homesRight_5 : decode cX4_homesRight 5 = .ok (.aload_n 0, 1) := by decide +kernel
theorem dX4_homesRight_6 : decode cX4_homesRight 6 = .ok (.getfield 15, 3) := by decide +kernel
theorem dX4_homesRight_9 : decode cX4_homesRight 9 = .ok (.if_icmp .ge 24, 3) := by decide +kernel
theorem dX4_homesRight_12 : decode cX4_homesRight 12 = .ok (.aload_n 0, 1) := by decide +kernel
theorem dX4_homesRight_13 : decode cX4_homesRight 13 = .ok (.iload_n 3, 1) := by decide +kernel
theorem dX4_homesRight_14 : decode cX4_homesRight 14 = .ok (.aload_n 1, 1) := by decide +kernel
theorem dX4_homesRight_15 : decode cX4_homesRight 15 = .ok (.invokevirtual 45, 3) := by decide +kernel
theorem dX4_homesRight_18 : decode cX4_homesRight 18 = .ok (.invokestatic 59, 3) := by decide +kernel
theorem dX4_homesRight_21 : decode cX4_homesRight 21 = .ok (.ifCond .eq 6, 3) := by decide +kernel
theorem dX4_homesRight_24 : decode cX4_homesRight 24 = .ok (.iinc 2 1, 3) := by decide +kernel
theorem dX4_homesRight_27 : decode cX4_homesRight 27 = .ok (.iinc 3 1, 3) := by decide +kernel
theorem dX4_homesRight_30 : decode cX4_homesRight 30 = .ok (.goto (-26), 3) := by decide +kernel
theorem dX4_homesRight_33 : decode cX4_homesRight 33 = .ok (.iload_n 2, 1) := by decide +kernel
theorem dX4_homesRight_34 : decode cX4_homesRight 34 = .ok (.ireturn, 1) := by decide +kernel
theorem dX4_wrongBy_0 : decode cX4_wrongBy 0 = .ok (.iconst 0, 1) := by decide +kernel
theorem dX4_wrongBy_1 : decode cX4_wrongBy 1 = .ok (.istore_n 2, 1) := by decide +kernel
theorem dX4_wrongBy_2 : decode cX4_wrongBy 2 = .ok (.iconst 0, 1) := by decide +kernel
theorem dX4_wrongBy_3 : decode cX4_wrongBy 3 = .ok (.istore_n 3, 1) := by decide +kernel
theorem dX4_wrongBy_4 : decode cX4_wrongBy 4 = .ok (.iload_n 3, 1) := by decide +kernel
theorem dX4_wrongBy_5 : decode cX4_wrongBy 5 = .ok (.iconst 3, 1) := by decide +kernel
theorem dX4_wrongBy_6 : decode cX4_wrongBy 6 = .ok (.if_icmp .gt 36, 3) := by decide +kernel
theorem dX4_wrongBy_9 : decode cX4_wrongBy 9 = .ok (.aload_n 0, 1) := by decide +kernel
theorem dX4_wrongBy_10 : decode cX4_wrongBy 10 = .ok (.invokevirtual 41, 3) := by decide +kernel
theorem dX4_wrongBy_13 : decode cX4_wrongBy 13 = .ok (.ifCond .eq 17, 3) := by decide +kernel
theorem dX4_wrongBy_16 : decode cX4_wrongBy 16 = .ok (.aload_n 0, 1) := by decide +kernel
theorem dX4_wrongBy_17 : decode cX4_wrongBy 17 = .ok (.iload_n 3, 1) := by decide +kernel
theorem dX4_wrongBy_18 : decode cX4_wrongBy 18 = .ok (.aload_n 1, 1) := by decide +kernel
theorem dX4_wrongBy_19 : decode cX4_wrongBy 19 = .ok (.invokevirtual 63, 3) := by decide +kernel
theorem dX4_wrongBy_22 : decode cX4_wrongBy 22 = .ok (.aload_n 0, 1) := by decide +kernel
theorem dX4_wrongBy_23 : decode cX4_wrongBy 23 = .ok (.iload_n 3, 1) := by decide +kernel
theorem dX4_wrongBy_24 : decode cX4_wrongBy 24 = .ok (.invokevirtual 66, 3) := by decide +kernel
theorem dX4_wrongBy_27 : decode cX4_wrongBy 27 = .ok (.if_icmp .eq 9, 3) := by decide +kernel
theorem dX4_wrongBy_30 : decode cX4_wrongBy 30 = .ok (.iload_n 2, 1) := by decide +kernel
theorem dX4_wrongBy_31 : decode cX4_wrongBy 31 = .ok (.iconst 1, 1) := by decide +kernel
theorem dX4_wrongBy_32 : decode cX4_wrongBy 32 = .ok (.iload_n 3, 1) := by decide +kernel
theorem dX4_wrongBy_33 : decode cX4_wrongBy 33 = .ok (.ishl, 1) := by decide +kernel
theorem dX4_wrongBy_34 : decode cX4_wrongBy 34 = .ok (.ior, 1) := by decide +kernel
theorem dX4_wrongBy_35 : decode cX4_wrongBy 35 = .ok (.istore_n 2, 1) := by decide +kernel
theorem dX4_wrongBy_36 : decode cX4_wrongBy 36 = .ok (.iinc 3 1, 3) := by decide +kernel
theorem dX4_wrongBy_39 : decode cX4_wrongBy 39 = .ok (.goto (-35), 3) := by decide +kernel
theorem dX4_wrongBy_42 : decode cX4_wrongBy 42 = .ok (.iload_n 2, 1) := by decide +kernel
theorem dX4_wrongBy_43 : decode cX4_wrongBy 43 = .ok (.ireturn, 1) := by decide +kernel
theorem dX4_fullPoints_0 : decode cX4_fullPoints 0 = .ok (.iload_n 1, 1) := by decide +kernel
theorem dX4_fullPoints_1 : decode cX4_fullPoints 1 = .ok (.ifCond .ne 10, 3) := by decide +kernel
theorem dX4_fullPoints_4 : decode cX4_fullPoints 4 = .ok (.aload_n 0, 1) := by decide +kernel
theorem dX4_fullPoints_5 : decode cX4_fullPoints 5 = .ok (.getfield 15, 3) := by decide +kernel
theorem dX4_fullPoints_8 : decode cX4_fullPoints 8 = .ok (.iconst 1, 1) := by decide +kernel
theorem dX4_fullPoints_9 : decode cX4_fullPoints 9 = .ok (.isub, 1) := by decide +kernel
theorem dX4_fullPoints_10 : decode cX4_fullPoints 10 = .ok (.ireturn, 1) := by decide +kernel
theorem dX4_fullPoints_11 : decode cX4_fullPoints 11 = .ok (.iload_n 1, 1) := by decide +kernel
theorem dX4_fullPoints_12 : decode cX4_fullPoints 12 = .ok (.iconst 1, 1) := by decide +kernel
theorem dX4_fullPoints_13 : decode cX4_fullPoints 13 = .ok (.if_icmp .ne 10, 3) := by decide +kernel
theorem dX4_fullPoints_16 : decode cX4_fullPoints 16 = .ok (.aload_n 0, 1) := by decide +kernel
theorem dX4_fullPoints_17 : decode cX4_fullPoints 17 = .ok (.getfield 15, 3) := by decide +kernel
theorem dX4_fullPoints_20 : decode cX4_fullPoints 20 = .ok (.goto 4, 3) := by decide +kernel
theorem dX4_fullPoints_23 : decode cX4_fullPoints 23 = .ok (.iconst 1, 1) := by decide +kernel
theorem dX4_fullPoints_24 : decode cX4_fullPoints 24 = .ok (.ireturn, 1) := by decide +kernel
theorem dX5_init_0 : decode cX5_init 0 = .ok (.aload_n 0, 1) := by decide +kernel
theorem dX5_init_1 : decode cX5_init 1 = .ok (.invokespecial 3, 3) := by decide +kernel
theorem dX5_init_4 : decode cX5_init 4 = .ok (.aload_n 0, 1) := by decide +kernel
theorem dX5_init_5 : decode cX5_init 5 = .ok (.new 9, 3) := by decide +kernel
theorem dX5_init_8 : decode cX5_init 8 = .ok (.dup, 1) := by decide +kernel
theorem dX5_init_9 : decode cX5_init 9 = .ok (.invokespecial 11, 3) := by decide +kernel
theorem dX5_init_12 : decode cX5_init 12 = .ok (.putfield 12, 3) := by decide +kernel
theorem dX5_init_15 : decode cX5_init 15 = .ok (.aload_n 0, 1) := by decide +kernel
theorem dX5_init_16 : decode cX5_init 16 = .ok (.bipush 16, 2) := by decide +kernel
theorem dX5_init_18 : decode cX5_init 18 = .ok (.newarray .int, 2) := by decide +kernel
theorem dX5_init_20 : decode cX5_init 20 = .ok (.putfield 18, 3) := by decide +kernel
theorem dX5_init_23 : decode cX5_init 23 = .ok (.aload_n 0, 1) := by decide +kernel
theorem dX5_init_24 : decode cX5_init 24 = .ok (.invokestatic 22, 3) := by decide +kernel
theorem dX5_init_27 : decode cX5_init 27 = .ok (.putfield 26, 3) := by decide +kernel
theorem dX5_init_30 : decode cX5_init 30 = .ok (.aload_n 0, 1) := by decide +kernel
theorem dX5_init_31 : decode cX5_init 31 = .ok (.iconst 0, 1) := by decide +kernel
theorem dX5_init_32 : decode cX5_init 32 = .ok (.putfield 30, 3) := by decide +kernel
theorem dX5_init_35 : decode cX5_init 35 = .ok (.aload_n 0, 1) := by decide +kernel
theorem dX5_init_36 : decode cX5_init 36 = .ok (.iconst 0, 1) := by decide +kernel
theorem dX5_init_37 : decode cX5_init 37 = .ok (.putfield 34, 3) := by decide +kernel
theorem dX5_init_40 : decode cX5_init 40 = .ok (.aload_n 0, 1) := by decide +kernel
theorem dX5_init_41 : decode cX5_init 41 = .ok (.iconst 0, 1) := by decide +kernel
theorem dX5_init_42 : decode cX5_init 42 = .ok (.putfield 37, 3) := by decide +kernel
theorem dX5_init_45 : decode cX5_init 45 = .ok (.aload_n 0, 1) := by decide +kernel
theorem dX5_init_46 : decode cX5_init 46 = .ok (.iconst 0, 1) := by decide +kernel
theorem dX5_init_47 : decode cX5_init 47 = .ok (.putfield 40, 3) := by decide +kernel
theorem dX5_init_50 : decode cX5_init 50 = .ok (.aload_n 0, 1) := by decide +kernel
theorem dX5_init_51 : decode cX5_init 51 = .ok (.iconst 0, 1) := by decide +kernel
theorem dX5_init_52 : decode cX5_init 52 = .ok (.putfield 43, 3) := by decide +kernel
theorem dX5_init_55 : decode cX5_init 55 = .ok (.aload_n 0, 1) := by decide +kernel
theorem dX5_init_56 : decode cX5_init 56 = .ok (.getfield 18, 3) := by decide +kernel
theorem dX5_init_59 : decode cX5_init 59 = .ok (.iconst 1, 1) := by decide +kernel
theorem dX5_init_60 : decode cX5_init 60 = .ok (.invokestatic 47, 3) := by decide +kernel
theorem dX5_init_63 : decode cX5_init 63 = .ok (.return_, 1) := by decide +kernel
theorem dX5_copyFrom_0 : decode cX5_copyFrom 0 = .ok (.aload_n 0, 1) := by decide +kernel
theorem dX5_copyFrom_1 : decode cX5_copyFrom 1 = .ok (.getfield 12, 3) := by decide +kernel
theorem dX5_copyFrom_4 : decode cX5_copyFrom 4 = .ok (.aload_n 1, 1) := by decide +kernel
theorem dX5_copyFrom_5 : decode cX5_copyFrom 5 = .ok (.getfield 12, 3) := by decide +kernel
theorem dX5_copyFrom_8 : decode cX5_copyFrom 8 = .ok (.invokevirtual 53, 3) := by decide +kernel
theorem dX5_copyFrom_11 : decode cX5_copyFrom 11 = .ok (.aload_n 1, 1) := by decide +kernel
theorem dX5_copyFrom_12 : decode cX5_copyFrom 12 = .ok (.getfield 18, 3) := by decide +kernel
theorem dX5_copyFrom_15 : decode cX5_copyFrom 15 = .ok (.iconst 0, 1) := by decide +kernel
theorem dX5_copyFrom_16 : decode cX5_copyFrom 16 = .ok (.aload_n 0, 1) := by decide +kernel
theorem dX5_copyFrom_17 : decode cX5_copyFrom 17 = .ok (.getfield 18, 3) := by decide +kernel
theorem dX5_copyFrom_20 : decode cX5_copyFrom 20 = .ok (.iconst 0, 1) := by decide +kernel
theorem dX5_copyFrom_21 : decode cX5_copyFrom 21 = .ok (.bipush 16, 2) := by decide +kernel
theorem dX5_copyFrom_23 : decode cX5_copyFrom 23 = .ok (.invokestatic 57, 3) := by decide +kernel
theorem dX5_copyFrom_26 : decode cX5_copyFrom 26 = .ok (.iconst 0, 1) := by decide +kernel
theorem dX5_copyFrom_27 : decode cX5_copyFrom 27 = .ok (.istore_n 2, 1) := by decide +kernel
theorem dX5_copyFrom_28 : decode cX5_copyFrom 28 = .ok (.iload_n 2, 1) := by decide +kernel
theorem dX5_copyFrom_29 : decode cX5_copyFrom 29 = .ok (.bipush 12, 2) := by decide +kernel
theorem dX5_copyFrom_31 : decode cX5_copyFrom 31 = .ok (.if_icmp .ge 24, 3) := by decide +kernel
theorem dX5_copyFrom_34 : decode cX5_copyFrom 34 = .ok (.aload_n 0, 1) := by decide +kernel
theorem dX5_copyFrom_35 : decode cX5_copyFrom 35 = .ok (.getfield 26, 3) := by decide +kernel
theorem dX5_copyFrom_38 : decode cX5_copyFrom 38 = .ok (.iload_n 2, 1) := by decide +kernel
theorem dX5_copyFrom_39 : decode cX5_copyFrom 39 = .ok (.aaload, 1) := by decide +kernel
theorem dX5_copyFrom_40 : decode cX5_copyFrom 40 = .ok (.aload_n 1, 1) := by decide +kernel
theorem dX5_copyFrom_41 : decode cX5_copyFrom 41 = .ok (.getfield 26, 3) := by decide +kernel
theorem dX5_copyFrom_44 : decode cX5_copyFrom 44 = .ok (.iload_n 2, 1) := by decide +kernel
theorem dX5_copyFrom_45 : decode cX5_copyFrom 45 = .ok (.aaload, 1) := by decide +kernel
theorem dX5_copyFrom_46 : decode cX5_copyFrom 46 = .ok (.invokevirtual 63, 3) := by decide +kernel
theorem dX5_copyFrom_49 : decode cX5_copyFrom 49 = .ok (.iinc 2 1, 3) := by decide +kernel
theorem dX5_copyFrom_52 : decode cX5_copyFrom 52 = .ok (.goto (-24), 3) := by decide +kernel
theorem dX5_copyFrom_55 : decode cX5_copyFrom 55 = .ok (.aload_n 0, 1) := by decide +kernel
theorem dX5_copyFrom_56 : decode cX5_copyFrom 56 = .ok (.aload_n 1, 1) := by decide +kernel
theorem dX5_copyFrom_57 : decode cX5_copyFrom 57 = .ok (.getfield 30, 3) := by decide +kernel
theorem dX5_copyFrom_60 : decode cX5_copyFrom 60 = .ok (.putfield 30, 3) := by decide +kernel
theorem dX5_copyFrom_63 : decode cX5_copyFrom 63 = .ok (.aload_n 0, 1) := by decide +kernel
theorem dX5_copyFrom_64 : decode cX5_copyFrom 64 = .ok (.aload_n 1, 1) := by decide +kernel
theorem dX5_copyFrom_65 : decode cX5_copyFrom 65 = .ok (.getfield 34, 3) := by decide +kernel
theorem dX5_copyFrom_68 : decode cX5_copyFrom 68 = .ok (.putfield 34, 3) := by decide +kernel
theorem dX5_copyFrom_71 : decode cX5_copyFrom 71 = .ok (.aload_n 0, 1) := by decide +kernel
theorem dX5_copyFrom_72 : decode cX5_copyFrom 72 = .ok (.aload_n 1, 1) := by decide +kernel
theorem dX5_copyFrom_73 : decode cX5_copyFrom 73 = .ok (.getfield 37, 3) := by decide +kernel
theorem dX5_copyFrom_76 : decode cX5_copyFrom 76 = .ok (.putfield 37, 3) := by decide +kernel
theorem dX5_copyFrom_79 : decode cX5_copyFrom 79 = .ok (.aload_n 0, 1) := by decide +kernel
theorem dX5_copyFrom_80 : decode cX5_copyFrom 80 = .ok (.aload_n 1, 1) := by decide +kernel
theorem dX5_copyFrom_81 : decode cX5_copyFrom 81 = .ok (.getfield 40, 3) := by decide +kernel
theorem dX5_copyFrom_84 : decode cX5_copyFrom 84 = .ok (.putfield 40, 3) := by decide +kernel
theorem dX5_copyFrom_87 : decode cX5_copyFrom 87 = .ok (.return_, 1) := by decide +kernel
theorem dX5_isDone_0 : decode cX5_isDone 0 = .ok (.aload_n 0, 1) := by decide +kernel
theorem dX5_isDone_1 : decode cX5_isDone 1 = .ok (.getfield 34, 3) := by decide +kernel
theorem dX5_isDone_4 : decode cX5_isDone 4 = .ok (.iload_n 1, 1) := by decide +kernel
theorem dX5_isDone_5 : decode cX5_isDone 5 = .ok (.ishr, 1) := by decide +kernel
theorem dX5_isDone_6 : decode cX5_isDone 6 = .ok (.iconst 1, 1) := by decide +kernel
theorem dX5_isDone_7 : decode cX5_isDone 7 = .ok (.iand, 1) := by decide +kernel
theorem dX5_isDone_8 : decode cX5_isDone 8 = .ok (.iconst 1, 1) := by decide +kernel
theorem dX5_isDone_9 : decode cX5_isDone 9 = .ok (.if_icmp .ne 7, 3) := by decide +kernel
theorem dX5_isDone_12 : decode cX5_isDone 12 = .ok (.iconst 1, 1) := by decide +kernel
theorem dX5_isDone_13 : decode cX5_isDone 13 = .ok (.goto 4, 3) := by decide +kernel
theorem dX5_isDone_16 : decode cX5_isDone 16 = .ok (.iconst 0, 1) := by decide +kernel
theorem dX5_isDone_17 : decode cX5_isDone 17 = .ok (.ireturn, 1) := by decide +kernel
theorem dX5_isPassed_0 : decode cX5_isPassed 0 = .ok (.aload_n 0, 1) := by decide +kernel
theorem dX5_isPassed_1 : decode cX5_isPassed 1 = .ok (.getfield 37, 3) := by decide +kernel
theorem dX5_isPassed_4 : decode cX5_isPassed 4 = .ok (.iload_n 1, 1) := by decide +kernel
theorem dX5_isPassed_5 : decode cX5_isPassed 5 = .ok (.ishr, 1) := by decide +kernel
theorem dX5_isPassed_6 : decode cX5_isPassed 6 = .ok (.iconst 1, 1) := by decide +kernel
theorem dX5_isPassed_7 : decode cX5_isPassed 7 = .ok (.iand, 1) := by decide +kernel
theorem dX5_isPassed_8 : decode cX5_isPassed 8 = .ok (.iconst 1, 1) := by decide +kernel
theorem dX5_isPassed_9 : decode cX5_isPassed 9 = .ok (.if_icmp .ne 7, 3) := by decide +kernel
theorem dX5_isPassed_12 : decode cX5_isPassed 12 = .ok (.iconst 1, 1) := by decide +kernel
theorem dX5_isPassed_13 : decode cX5_isPassed 13 = .ok (.goto 4, 3) := by decide +kernel
theorem dX5_isPassed_16 : decode cX5_isPassed 16 = .ok (.iconst 0, 1) := by decide +kernel
theorem dX5_isPassed_17 : decode cX5_isPassed 17 = .ok (.ireturn, 1) := by decide +kernel
theorem dX5_draw_0 : decode cX5_draw 0 = .ok (.aload_n 0, 1) := by decide +kernel
theorem dX5_draw_1 : decode cX5_draw 1 = .ok (.aload_n 0, 1) := by decide +kernel
theorem dX5_draw_2 : decode cX5_draw 2 = .ok (.getfield 40, 3) := by decide +kernel
theorem dX5_draw_5 : decode cX5_draw 5 = .ok (.i2l, 1) := by decide +kernel
theorem dX5_draw_6 : decode cX5_draw 6 = .ok (.ldc2_w 68, 3) := by decide +kernel
theorem dX5_draw_9 : decode cX5_draw 9 = .ok (.lmul, 1) := by decide +kernel
theorem dX5_draw_10 : decode cX5_draw 10 = .ok (.ldc2_w 70, 3) := by decide +kernel
theorem dX5_draw_13 : decode cX5_draw 13 = .ok (.ladd, 1) := by decide +kernel
theorem dX5_draw_14 : decode cX5_draw 14 = .ok (.ldc2_w 72, 3) := by decide +kernel
theorem dX5_draw_17 : decode cX5_draw 17 = .ok (.land, 1) := by decide +kernel
theorem dX5_draw_18 : decode cX5_draw 18 = .ok (.l2i, 1) := by decide +kernel
theorem dX5_draw_19 : decode cX5_draw 19 = .ok (.putfield 40, 3) := by decide +kernel
theorem dX5_draw_22 : decode cX5_draw 22 = .ok (.iload_n 1, 1) := by decide +kernel
theorem dX5_draw_23 : decode cX5_draw 23 = .ok (.ifCond .le 15, 3) := by decide +kernel
theorem dX5_draw_26 : decode cX5_draw 26 = .ok (.aload_n 0, 1) := by decide +kernel
theorem dX5_draw_27 : decode cX5_draw 27 = .ok (.getfield 40, 3) := by decide +kernel
theorem dX5_draw_30 : decode cX5_draw 30 = .ok (.ldc 74, 2) := by decide +kernel
theorem dX5_draw_32 : decode cX5_draw 32 = .ok (.idiv, 1) := by decide +kernel
theorem dX5_draw_33 : decode cX5_draw 33 = .ok (.iload_n 1, 1) := by decide +kernel
theorem dX5_draw_34 : decode cX5_draw 34 = .ok (.irem, 1) := by decide +kernel
theorem dX5_draw_35 : decode cX5_draw 35 = .ok (.goto 4, 3) := by decide +kernel
theorem dX5_draw_38 : decode cX5_draw 38 = .ok (.iconst 0, 1) := by decide +kernel
theorem dX5_draw_39 : decode cX5_draw 39 = .ok (.ireturn, 1) := by decide +kernel
theorem dX6_init_0 : decode cX6_init 0 = .ok (.aload_n 0, 1) := by decide +kernel
theorem dX6_init_1 : decode cX6_init 1 = .ok (.invokespecial 3, 3) := by decide +kernel
theorem dX6_init_4 : decode cX6_init 4 = .ok (.aload_n 0, 1) := by decide +kernel
theorem dX6_init_5 : decode cX6_init 5 = .ok (.sipush 400, 3) := by decide +kernel
theorem dX6_init_8 : decode cX6_init 8 = .ok (.newarray .byte, 2) := by decide +kernel
theorem dX6_init_10 : decode cX6_init 10 = .ok (.putfield 9, 3) := by decide +kernel
theorem dX6_init_13 : decode cX6_init 13 = .ok (.aload_n 0, 1) := by decide +kernel
theorem dX6_init_14 : decode cX6_init 14 = .ok (.iconst 0, 1) := by decide +kernel
theorem dX6_init_15 : decode cX6_init 15 = .ok (.putfield 15, 3) := by decide +kernel
theorem dX6_init_18 : decode cX6_init 18 = .ok (.aload_n 0, 1) := by decide +kernel
theorem dX6_init_19 : decode cX6_init 19 = .ok (.iconst 0, 1) := by decide +kernel
theorem dX6_init_20 : decode cX6_init 20 = .ok (.putfield 19, 3) := by decide +kernel
theorem dX6_init_23 : decode cX6_init 23 = .ok (.aload_n 0, 1) := by decide +kernel
theorem dX6_init_24 : decode cX6_init 24 = .ok (.iconst 0, 1) := by decide +kernel
theorem dX6_init_25 : decode cX6_init 25 = .ok (.putfield 22, 3) := by decide +kernel
theorem dX6_init_28 : decode cX6_init 28 = .ok (.aload_n 0, 1) := by decide +kernel
theorem dX6_init_29 : decode cX6_init 29 = .ok (.iconst 0, 1) := by decide +kernel
theorem dX6_init_30 : decode cX6_init 30 = .ok (.putfield 25, 3) := by decide +kernel
theorem dX6_init_33 : decode cX6_init 33 = .ok (.aload_n 0, 1) := by decide +kernel
theorem dX6_init_34 : decode cX6_init 34 = .ok (.iconst (-1), 1) := by decide +kernel
theorem dX6_init_35 : decode cX6_init 35 = .ok (.putfield 28, 3) := by decide +kernel
theorem dX6_init_38 : decode cX6_init 38 = .ok (.return_, 1) := by decide +kernel
theorem dX6_add_0 : decode cX6_add 0 = .ok (.aload_n 0, 1) := by decide +kernel
theorem dX6_add_1 : decode cX6_add 1 = .ok (.getfield 15, 3) := by decide +kernel
theorem dX6_add_4 : decode cX6_add 4 = .ok (.sipush 400, 3) := by decide +kernel
theorem dX6_add_7 : decode cX6_add 7 = .ok (.if_icmp .lt 4, 3) := by decide +kernel
theorem dX6_add_10 : decode cX6_add 10 = .ok (.return_, 1) := by decide +kernel
theorem dX6_add_11 : decode cX6_add 11 = .ok (.aload_n 0, 1) := by decide +kernel
theorem dX6_add_12 : decode cX6_add 12 = .ok (.getfield 9, 3) := by decide +kernel
theorem dX6_add_15 : decode cX6_add 15 = .ok (.aload_n 0, 1) := by decide +kernel
theorem dX6_add_16 : decode cX6_add 16 = .ok (.getfield 15, 3) := by decide +kernel
theorem dX6_add_19 : decode cX6_add 19 = .ok (.iload_n 1, 1) := by decide +kernel
theorem dX6_add_20 : decode cX6_add 20 = .ok (.bastore, 1) := by decide +kernel
theorem dX6_add_21 : decode cX6_add 21 = .ok (.aload_n 0, 1) := by decide +kernel
theorem dX6_add_22 : decode cX6_add 22 = .ok (.dup, 1) := by decide +kernel
theorem dX6_add_23 : decode cX6_add 23 = .ok (.getfield 15, 3) := by decide +kernel
theorem dX6_add_26 : decode cX6_add 26 = .ok (.iconst 1, 1) := by decide +kernel
theorem dX6_add_27 : decode cX6_add 27 = .ok (.iadd, 1) := by decide +kernel
theorem dX6_add_28 : decode cX6_add 28 = .ok (.putfield 15, 3) := by decide +kernel
theorem dX6_add_31 : decode cX6_add 31 = .ok (.return_, 1) := by decide +kernel
theorem dX6_clear_0 : decode cX6_clear 0 = .ok (.aload_n 0, 1) := by decide +kernel
theorem dX6_clear_1 : decode cX6_clear 1 = .ok (.iconst 0, 1) := by decide +kernel
theorem dX6_clear_2 : decode cX6_clear 2 = .ok (.putfield 15, 3) := by decide +kernel
theorem dX6_clear_5 : decode cX6_clear 5 = .ok (.return_, 1) := by decide +kernel
theorem dX6_open_0 : decode cX6_open 0 = .ok (.aload_n 0, 1) := by decide +kernel
theorem dX6_open_1 : decode cX6_open 1 = .ok (.iconst 0, 1) := by decide +kernel
theorem dX6_open_2 : decode cX6_open 2 = .ok (.putfield 19, 3) := by decide +kernel
theorem dX6_open_5 : decode cX6_open 5 = .ok (.aload_n 0, 1) := by decide +kernel
theorem dX6_open_6 : decode cX6_open 6 = .ok (.iconst 0, 1) := by decide +kernel
theorem dX6_open_7 : decode cX6_open 7 = .ok (.putfield 22, 3) := by decide +kernel
theorem dX6_open_10 : decode cX6_open 10 = .ok (.aload_n 0, 1) := by decide +kernel
theorem dX6_open_11 : decode cX6_open 11 = .ok (.iconst 0, 1) := by decide +kernel
theorem dX6_open_12 : decode cX6_open 12 = .ok (.putfield 25, 3) := by decide +kernel
theorem dX6_open_15 : decode cX6_open 15 = .ok (.aload_n 0, 1) := by decide +kernel
theorem dX6_open_16 : decode cX6_open 16 = .ok (.iconst (-1), 1) := by decide +kernel
theorem dX6_open_17 : decode cX6_open 17 = .ok (.putfield 28, 3) := by decide +kernel
theorem dX6_open_20 : decode cX6_open 20 = .ok (.return_, 1) := by decide +kernel
theorem dX6_hasFault_0 : decode cX6_hasFault 0 = .ok (.aload_n 0, 1) := by decide +kernel
theorem dX6_hasFault_1 : decode cX6_hasFault 1 = .ok (.getfield 25, 3) := by decide +kernel
theorem dX6_hasFault_4 : decode cX6_hasFault 4 = .ok (.ifCond .eq 7, 3) := by decide +kernel
theorem dX6_hasFault_7 : decode cX6_hasFault 7 = .ok (.iconst 1, 1) := by decide +kernel
theorem dX6_hasFault_8 : decode cX6_hasFault 8 = .ok (.goto 4, 3) := by decide +kernel
theorem dX6_hasFault_11 : decode cX6_hasFault 11 = .ok (.iconst 0, 1) := by decide +kernel
theorem dX6_hasFault_12 : decode cX6_hasFault 12 = .ok (.ireturn, 1) := by decide +kernel
theorem dX6_blame_0 : decode cX6_blame 0 = .ok (.aload_n 0, 1) := by decide +kernel
theorem dX6_blame_1 : decode cX6_blame 1 = .ok (.invokevirtual 31, 3) := by decide +kernel
theorem dX6_blame_4 : decode cX6_blame 4 = .ok (.ifCond .eq 4, 3) := by decide +kernel
theorem dX6_blame_7 : decode cX6_blame 7 = .ok (.return_, 1) := by decide +kernel
theorem dX6_blame_8 : decode cX6_blame 8 = .ok (.aload_n 0, 1) := by decide +kernel
theorem dX6_blame_9 : decode cX6_blame 9 = .ok (.iload_n 1, 1) := by decide +kernel
theorem dX6_blame_10 : decode cX6_blame 10 = .ok (.putfield 25, 3) := by decide +kernel
theorem dX6_blame_13 : decode cX6_blame 13 = .ok (.aload_n 0, 1) := by decide +kernel
theorem dX6_blame_14 : decode cX6_blame 14 = .ok (.aload_n 0, 1) := by decide +kernel
theorem dX6_blame_15 : decode cX6_blame 15 = .ok (.getfield 22, 3) := by decide +kernel
theorem dX6_blame_18 : decode cX6_blame 18 = .ok (.putfield 28, 3) := by decide +kernel
theorem dX6_blame_21 : decode cX6_blame 21 = .ok (.return_, 1) := by decide +kernel
theorem dX6_isOver_0 : decode cX6_isOver 0 = .ok (.aload_n 0, 1) := by decide +kernel
theorem dX6_isOver_1 : decode cX6_isOver 1 = .ok (.invokevirtual 35, 3) := by decide +kernel
theorem dX6_isOver_4 : decode cX6_isOver 4 = .ok (.aload_n 0, 1) := by decide +kernel
theorem dX6_isOver_5 : decode cX6_isOver 5 = .ok (.invokevirtual 31, 3) := by decide +kernel
theorem dX6_isOver_8 : decode cX6_isOver 8 = .ok (.ifCond .ne 14, 3) := by decide +kernel
theorem dX6_isOver_11 : decode cX6_isOver 11 = .ok (.aload_n 0, 1) := by decide +kernel
theorem dX6_isOver_12 : decode cX6_isOver 12 = .ok (.getfield 19, 3) := by decide +kernel
theorem dX6_isOver_15 : decode cX6_isOver 15 = .ok (.aload_n 0, 1) := by decide +kernel
theorem dX6_isOver_16 : decode cX6_isOver 16 = .ok (.getfield 15, 3) := by decide +kernel
theorem dX6_isOver_19 : decode cX6_isOver 19 = .ok (.if_icmp .lt 7, 3) := by decide +kernel
theorem dX6_isOver_22 : decode cX6_isOver 22 = .ok (.iconst 1, 1) := by decide +kernel
theorem dX6_isOver_23 : decode cX6_isOver 23 = .ok (.goto 4, 3) := by decide +kernel
theorem dX6_isOver_26 : decode cX6_isOver 26 = .ok (.iconst 0, 1) := by decide +kernel
theorem dX6_isOver_27 : decode cX6_isOver 27 = .ok (.ireturn, 1) := by decide +kernel
theorem dX6_findToken_0 : decode cX6_findToken 0 = .ok (.aload_n 0, 1) := by decide +kernel
theorem dX6_findToken_1 : decode cX6_findToken 1 = .ok (.getfield 19, 3) := by decide +kernel
theorem dX6_findToken_4 : decode cX6_findToken 4 = .ok (.aload_n 0, 1) := by decide +kernel
theorem dX6_findToken_5 : decode cX6_findToken 5 = .ok (.getfield 15, 3) := by decide +kernel
theorem dX6_findToken_8 : decode cX6_findToken 8 = .ok (.if_icmp .ge 30, 3) := by decide +kernel
theorem dX6_findToken_11 : decode cX6_findToken 11 = .ok (.aload_n 0, 1) := by decide +kernel
theorem dX6_findToken_12 : decode cX6_findToken 12 = .ok (.getfield 9, 3) := by decide +kernel
theorem dX6_findToken_15 : decode cX6_findToken 15 = .ok (.aload_n 0, 1) := by decide +kernel
theorem dX6_findToken_16 : decode cX6_findToken 16 = .ok (.getfield 19, 3) := by decide +kernel
theorem dX6_findToken_19 : decode cX6_findToken 19 = .ok (.baload, 1) := by decide +kernel
theorem dX6_findToken_20 : decode cX6_findToken 20 = .ok (.bipush 32, 2) := by decide +kernel
theorem dX6_findToken_22 : decode cX6_findToken 22 = .ok (.if_icmp .ne 16, 3) := by decide +kernel
theorem dX6_findToken_25 : decode cX6_findToken 25 = .ok (.aload_n 0, 1) := by decide +kernel
theorem dX6_findToken_26 : decode cX6_findToken 26 = .ok (.dup, 1) := by decide +kernel
theorem dX6_findToken_27 : decode cX6_findToken 27 = .ok (.getfield 19, 3) := by decide +kernel
theorem dX6_findToken_30 : decode cX6_findToken 30 = .ok (.iconst 1, 1) := by decide +kernel
theorem dX6_findToken_31 : decode cX6_findToken 31 = .ok (.iadd, 1) := by decide +kernel
theorem dX6_findToken_32 : decode cX6_findToken 32 = .ok (.putfield 19, 3) := by decide +kernel
theorem dX6_findToken_35 : decode cX6_findToken 35 = .ok (.goto (-35), 3) := by decide +kernel
theorem dX6_findToken_38 : decode cX6_findToken 38 = .ok (.aload_n 0, 1) := by decide +kernel
theorem dX6_findToken_39 : decode cX6_findToken 39 = .ok (.aload_n 0, 1) := by decide +kernel
theorem dX6_findToken_40 : decode cX6_findToken 40 = .ok (.getfield 19, 3) := by decide +kernel
theorem dX6_findToken_43 : decode cX6_findToken 43 = .ok (.putfield 22, 3) := by decide +kernel
theorem dX6_findToken_46 : decode cX6_findToken 46 = .ok (.return_, 1) := by decide +kernel
theorem dX6_stepOver_0 : decode cX6_stepOver 0 = .ok (.aload_n 0, 1) := by decide +kernel
theorem dX6_stepOver_1 : decode cX6_stepOver 1 = .ok (.getfield 19, 3) := by decide +kernel
theorem dX6_stepOver_4 : decode cX6_stepOver 4 = .ok (.aload_n 0, 1) := by decide +kernel
theorem dX6_stepOver_5 : decode cX6_stepOver 5 = .ok (.getfield 15, 3) := by decide +kernel
theorem dX6_stepOver_8 : decode cX6_stepOver 8 = .ok (.if_icmp .ge 33, 3) := by decide +kernel
theorem dX6_stepOver_11 : decode cX6_stepOver 11 = .ok (.aload_n 0, 1) := by decide +kernel
theorem dX6_stepOver_12 : decode cX6_stepOver 12 = .ok (.getfield 9, 3) := by decide +kernel
theorem dX6_stepOver_15 : decode cX6_stepOver 15 = .ok (.aload_n 0, 1) := by decide +kernel
theorem dX6_stepOver_16 : decode cX6_stepOver 16 = .ok (.getfield 19, 3) := by decide +kernel
theorem dX6_stepOver_19 : decode cX6_stepOver 19 = .ok (.baload, 1) := by decide +kernel
theorem dX6_stepOver_20 : decode cX6_stepOver 20 = .ok (.iload_n 1, 1) := by decide +kernel
theorem dX6_stepOver_21 : decode cX6_stepOver 21 = .ok (.iload_n 2, 1) := by decide +kernel
theorem dX6_stepOver_22 : decode cX6_stepOver 22 = .ok (.invokestatic 38, 3) := by decide +kernel
theorem dX6_stepOver_25 : decode cX6_stepOver 25 = .ok (.ifCond .eq 16, 3) := by decide +kernel
theorem dX6_stepOver_28 : decode cX6_stepOver 28 = .ok (.aload_n 0, 1) := by decide +kernel
theorem dX6_stepOver_29 : decode cX6_stepOver 29 = .ok (.dup, 1) := by decide +kernel
theorem dX6_stepOver_30 : decode cX6_stepOver 30 = .ok (.getfield 19, 3) := by decide +kernel
theorem dX6_stepOver_33 : decode cX6_stepOver 33 = .ok (.iconst 1, 1) := by decide +kernel
theorem dX6_stepOver_34 : decode cX6_stepOver 34 = .ok (.iadd, 1) := by decide +kernel
theorem dX6_stepOver_35 : decode cX6_stepOver 35 = .ok (.putfield 19, 3) := by decide +kernel
theorem dX6_stepOver_38 : decode cX6_stepOver 38 = .ok (.goto (-38), 3) := by decide +kernel
theorem dX6_stepOver_41 : decode cX6_stepOver 41 = .ok (.aload_n 0, 1) := by decide +kernel
theorem dX6_stepOver_42 : decode cX6_stepOver 42 = .ok (.getfield 19, 3) := by decide +kernel
theorem dX6_stepOver_45 : decode cX6_stepOver 45 = .ok (.aload_n 0, 1) := by decide +kernel
theorem dX6_stepOver_46 : decode cX6_stepOver 46 = .ok (.getfield 22, 3) := by decide +kernel
theorem dX6_stepOver_49 : decode cX6_stepOver 49 = .ok (.isub, 1) := by decide +kernel
theorem dX6_stepOver_50 : decode cX6_stepOver 50 = .ok (.ireturn, 1) := by decide +kernel
theorem dX6_readWord_0 : decode cX6_readWord 0 = .ok (.aload_n 0, 1) := by decide +kernel
theorem dX6_readWord_1 : decode cX6_readWord 1 = .ok (.invokevirtual 31, 3) := by decide +kernel
theorem dX6_readWord_4 : decode cX6_readWord 4 = .ok (.ifCond .eq 5, 3) := by decide +kernel
theorem dX6_readWord_7 : decode cX6_readWord 7 = .ok (.iconst (-1), 1) := by decide +kernel
theorem dX6_readWord_8 : decode cX6_readWord 8 = .ok (.ireturn, 1) := by decide +kernel
theorem dX6_readWord_9 : decode cX6_readWord 9 = .ok (.aload_n 0, 1) := by decide +kernel
theorem dX6_readWord_10 : decode cX6_readWord 10 = .ok (.invokevirtual 35, 3) := by decide +kernel
theorem dX6_readWord_13 : decode cX6_readWord 13 = .ok (.aload_n 0, 1) := by decide +kernel
theorem dX6_readWord_14 : decode cX6_readWord 14 = .ok (.bipush 97, 2) := by decide +kernel
theorem dX6_readWord_16 : decode cX6_readWord 16 = .ok (.bipush 122, 2) := by decide +kernel
theorem dX6_readWord_18 : decode cX6_readWord 18 = .ok (.invokevirtual 42, 3) := by decide +kernel
theorem dX6_readWord_21 : decode cX6_readWord 21 = .ok (.pop, 1) := by decide +kernel
theorem dX6_readWord_22 : decode cX6_readWord 22 = .ok (.aload_n 0, 1) := by decide +kernel
theorem dX6_readWord_23 : decode cX6_readWord 23 = .ok (.aload_n 1, 1) := by decide +kernel
theorem dX6_readWord_24 : decode cX6_readWord 24 = .ok (.invokevirtual 46, 3) := by decide +kernel
theorem dX6_readWord_27 : decode cX6_readWord 27 = .ok (.istore_n 2, 1) := by decide +kernel
theorem dX6_readWord_28 : decode cX6_readWord 28 = .ok (.iload_n 2, 1) := by decide +kernel
theorem dX6_readWord_29 : decode cX6_readWord 29 = .ok (.iconst (-1), 1) := by decide +kernel
theorem dX6_readWord_30 : decode cX6_readWord 30 = .ok (.if_icmp .ne 8, 3) := by decide +kernel
theorem dX6_readWord_33 : decode cX6_readWord 33 = .ok (.aload_n 0, 1) := by decide +kernel
theorem dX6_readWord_34 : decode cX6_readWord 34 = .ok (.iconst 1, 1) := by decide +kernel
theorem dX6_readWord_35 : decode cX6_readWord 35 = .ok (.invokevirtual 50, 3) := by decide +kernel
theorem dX6_readWord_38 : decode cX6_readWord 38 = .ok (.iload_n 2, 1) := by decide +kernel
theorem dX6_readWord_39 : decode cX6_readWord 39 = .ok (.ireturn, 1) := by decide +kernel
theorem dX6_numberInList_0 : decode cX6_numberInList 0 = .ok (.iconst 0, 1) := by decide +kernel
theorem dX6_numberInList_1 : decode cX6_numberInList 1 = .ok (.istore_n 2, 1) := by decide +kernel
theorem dX6_numberInList_2 : decode cX6_numberInList 2 = .ok (.iconst 0, 1) := by decide +kernel
theorem dX6_numberInList_3 : decode cX6_numberInList 3 = .ok (.istore_n 3, 1) := by decide +kernel
theorem dX6_numberInList_4 : decode cX6_numberInList 4 = .ok (.iconst 0, 1) := by decide +kernel
theorem dX6_numberInList_5 : decode cX6_numberInList 5 = .ok (.istore 4, 2) := by decide +kernel
theorem dX6_numberInList_7 : decode cX6_numberInList 7 = .ok (.iload 4, 2) := by decide +kernel
theorem dX6_numberInList_9 : decode cX6_numberInList 9 = .ok (.aload_n 1, 1) := by decide +kernel
theorem dX6_numberInList_10 : decode cX6_numberInList 10 = .ok (.invokevirtual 54, 3) := by decide +kernel
theorem dX6_numberInList_13 : decode cX6_numberInList 13 = .ok (.if_icmp .ge 44, 3) := by decide +kernel
theorem dX6_numberInList_16 : decode cX6_numberInList 16 = .ok (.aload_n 1, 1) := by decide +kernel
theorem dX6_numberInList_17 : decode cX6_numberInList 17 = .ok (.iload 4, 2) := by decide +kernel
theorem dX6_numberInList_19 : decode cX6_numberInList 19 = .ok (.invokevirtual 59, 3) := by decide +kernel
theorem dX6_numberInList_22 : decode cX6_numberInList 22 = .ok (.bipush 32, 2) := by decide +kernel
theorem dX6_numberInList_24 : decode cX6_numberInList 24 = .ok (.if_icmp .eq 6, 3) := by decide +kernel
theorem dX6_numberInList_27 : decode cX6_numberInList 27 = .ok (.goto 24, 3) := by decide +kernel
theorem dX6_numberInList_30 : decode cX6_numberInList 30 = .ok (.aload_n 0, 1) := by decide +kernel
theorem dX6_numberInList_31 : decode cX6_numberInList 31 = .ok (.aload_n 1, 1) := by decide +kernel
theorem dX6_numberInList_32 : decode cX6_numberInList 32 = .ok (.iload_n 3, 1) := by decide +kernel
theorem dX6_numberInList_33 : decode cX6_numberInList 33 = .ok (.iload 4, 2) := by decide +kernel
theorem dX6_numberInList_35 : decode cX6_numberInList 35 = .ok (.invokevirtual 63, 3) := by decide +kernel
theorem dX6_numberInList_38 : decode cX6_numberInList 38 = .ok (.ifCond .eq 5, 3) := by decide +kernel
theorem dX6_numberInList_41 : decode cX6_numberInList 41 = .ok (.iload_n 2, 1) := by decide +kernel
theorem dX6_numberInList_42 : decode cX6_numberInList 42 = .ok (.ireturn, 1) := by decide +kernel
theorem dX6_numberInList_43 : decode cX6_numberInList 43 = .ok (.iinc 2 1, 3) := by decide +kernel
theorem dX6_numberInList_46 : decode cX6_numberInList 46 = .ok (.iload 4, 2) := by decide +kernel
theorem dX6_numberInList_48 : decode cX6_numberInList 48 = .ok (.iconst 1, 1) := by decide +kernel
theorem dX6_numberInList_49 : decode cX6_numberInList 49 = .ok (.iadd, 1) := by decide +kernel
theorem dX6_numberInList_50 : decode cX6_numberInList 50 = .ok (.istore_n 3, 1) := by decide +kernel
theorem dX6_numberInList_51 : decode cX6_numberInList 51 = .ok (.iinc 4 1, 3) := by decide +kernel
theorem dX6_numberInList_54 : decode cX6_numberInList 54 = .ok (.goto (-47), 3) := by decide +kernel
theorem dX6_numberInList_57 : decode cX6_numberInList 57 = .ok (.iconst (-1), 1) := by decide +kernel
theorem dX6_numberInList_58 : decode cX6_numberInList 58 = .ok (.ireturn, 1) := by decide +kernel
theorem dX6_isToken_0 : decode cX6_isToken 0 = .ok (.iload_n 3, 1) := by decide +kernel
theorem dX6_isToken_1 : decode cX6_isToken 1 = .ok (.iload_n 2, 1) := by decide +kernel
theorem dX6_isToken_2 : decode cX6_isToken 2 = .ok (.isub, 1) := by decide +kernel
theorem dX6_isToken_3 : decode cX6_isToken 3 = .ok (.aload_n 0, 1) := by decide +kernel
theorem dX6_isToken_4 : decode cX6_isToken 4 = .ok (.getfield 19, 3) := by decide +kernel
theorem dX6_isToken_7 : decode cX6_isToken 7 = .ok (.aload_n 0, 1) := by decide +kernel
theorem dX6_isToken_8 : decode cX6_isToken 8 = .ok (.getfield 22, 3) := by decide +kernel
theorem dX6_isToken_11 : decode cX6_isToken 11 = .ok (.isub, 1) := by decide +kernel
theorem dX6_isToken_12 : decode cX6_isToken 12 = .ok (.if_icmp .eq 5, 3) := by decide +kernel
theorem dX6_isToken_15 : decode cX6_isToken 15 = .ok (.iconst 0, 1) := by decide +kernel
theorem dX6_isToken_16 : decode cX6_isToken 16 = .ok (.ireturn, 1) := by decide +kernel
theorem dX6_isToken_17 : decode cX6_isToken 17 = .ok (.iload_n 2, 1) := by decide +kernel
theorem dX6_isToken_18 : decode cX6_isToken 18 = .ok (.istore 4, 2) := by decide +kernel
theorem dX6_isToken_20 : decode cX6_isToken 20 = .ok (.iload 4, 2) := by decide +kernel
theorem dX6_isToken_22 : decode cX6_isToken 22 = .ok (.iload_n 3, 1) := by decide +kernel
theorem dX6_isToken_23 : decode cX6_isToken 23 = .ok (.if_icmp .ge 34, 3) := by decide +kernel
theorem dX6_isToken_26 : decode cX6_isToken 26 = .ok (.aload_n 1, 1) := by decide +kernel
theorem dX6_isToken_27 : decode cX6_isToken 27 = .ok (.iload 4, 2) := by decide +kernel
theorem dX6_isToken_29 : decode cX6_isToken 29 = .ok (.invokevirtual 59, 3) := by decide +kernel
theorem dX6_isToken_32 : decode cX6_isToken 32 = .ok (.aload_n 0, 1) := by decide +kernel
theorem dX6_isToken_33 : decode cX6_isToken 33 = .ok (.getfield 9, 3) := by decide +kernel
theorem dX6_isToken_36 : decode cX6_isToken 36 = .ok (.aload_n 0, 1) := by decide +kernel
theorem dX6_isToken_37 : decode cX6_isToken 37 = .ok (.getfield 22, 3) := by decide +kernel
theorem dX6_isToken_40 : decode cX6_isToken 40 = .ok (.iload 4, 2) := by decide +kernel
theorem dX6_isToken_42 : decode cX6_isToken 42 = .ok (.iadd, 1) := by decide +kernel
theorem dX6_isToken_43 : decode cX6_isToken 43 = .ok (.iload_n 2, 1) := by decide +kernel
theorem dX6_isToken_44 : decode cX6_isToken 44 = .ok (.isub, 1) := by decide +kernel
theorem dX6_isToken_45 : decode cX6_isToken 45 = .ok (.baload, 1) := by decide +kernel
theorem dX6_isToken_46 : decode cX6_isToken 46 = .ok (.if_icmp .eq 5, 3) := by decide +kernel
theorem dX6_isToken_49 : decode cX6_isToken 49 = .ok (.iconst 0, 1) := by decide +kernel
theorem dX6_isToken_50 : decode cX6_isToken 50 = .ok (.ireturn, 1) := by decide +kernel
theorem dX6_isToken_51 : decode cX6_isToken 51 = .ok (.iinc 4 1, 3) := by decide +kernel
theorem dX6_isToken_54 : decode cX6_isToken 54 = .ok (.goto (-34), 3) := by decide +kernel
theorem dX6_isToken_57 : decode cX6_isToken 57 = .ok (.iconst 1, 1) := by decide +kernel
theorem dX6_isToken_58 : decode cX6_isToken 58 = .ok (.ireturn, 1) := by decide +kernel
theorem dX6_readNumber_0 : decode cX6_readNumber 0 = .ok (.aload_n 0, 1) := by decide +kernel
theorem dX6_readNumber_1 : decode cX6_readNumber 1 = .ok (.invokevirtual 31, 3) := by decide +kernel
theorem dX6_readNumber_4 : decode cX6_readNumber 4 = .ok (.ifCond .eq 5, 3) := by decide +kernel
theorem dX6_readNumber_7 : decode cX6_readNumber 7 = .ok (.iload_n 1, 1) := by decide +kernel
theorem dX6_readNumber_8 : decode cX6_readNumber 8 = .ok (.ireturn, 1) := by decide +kernel
theorem dX6_readNumber_9 : decode cX6_readNumber 9 = .ok (.aload_n 0, 1) := by decide +kernel
theorem dX6_readNumber_10 : decode cX6_readNumber 10 = .ok (.invokevirtual 35, 3) := by decide +kernel
theorem dX6_readNumber_13 : decode cX6_readNumber 13 = .ok (.aload_n 0, 1) := by decide +kernel
theorem dX6_readNumber_14 : decode cX6_readNumber 14 = .ok (.bipush 48, 2) := by decide +kernel
theorem dX6_readNumber_16 : decode cX6_readNumber 16 = .ok (.bipush 57, 2) := by decide +kernel
theorem dX6_readNumber_18 : decode cX6_readNumber 18 = .ok (.invokevirtual 42, 3) := by decide +kernel
theorem dX6_readNumber_21 : decode cX6_readNumber 21 = .ok (.istore_n 3, 1) := by decide +kernel
theorem dX6_readNumber_22 : decode cX6_readNumber 22 = .ok (.iload_n 3, 1) := by decide +kernel
theorem dX6_readNumber_23 : decode cX6_readNumber 23 = .ok (.ifCond .ne 10, 3) := by decide +kernel
theorem dX6_readNumber_26 : decode cX6_readNumber 26 = .ok (.aload_n 0, 1) := by decide +kernel
theorem dX6_readNumber_27 : decode cX6_readNumber 27 = .ok (.iconst 1, 1) := by decide +kernel
theorem dX6_readNumber_28 : decode cX6_readNumber 28 = .ok (.invokevirtual 50, 3) := by decide +kernel
theorem dX6_readNumber_31 : decode cX6_readNumber 31 = .ok (.iload_n 1, 1) := by decide +kernel
theorem dX6_readNumber_32 : decode cX6_readNumber 32 = .ok (.ireturn, 1) := by decide +kernel
theorem dX6_readNumber_33 : decode cX6_readNumber 33 = .ok (.iload_n 3, 1) := by decide +kernel
theorem dX6_readNumber_34 : decode cX6_readNumber 34 = .ok (.iconst 3, 1) := by decide +kernel
theorem dX6_readNumber_35 : decode cX6_readNumber 35 = .ok (.if_icmp .le 7, 3) := by decide +kernel
theorem dX6_readNumber_38 : decode cX6_readNumber 38 = .ok (.iconst (-1), 1) := by decide +kernel
theorem dX6_readNumber_39 : decode cX6_readNumber 39 = .ok (.goto 7, 3) := by decide +kernel
theorem dX6_readNumber_42 : decode cX6_readNumber 42 = .ok (.aload_n 0, 1) := by decide +kernel
theorem dX6_readNumber_43 : decode cX6_readNumber 43 = .ok (.invokevirtual 67, 3) := by decide +kernel
theorem dX6_readNumber_46 : decode cX6_readNumber 46 = .ok (.istore 4, 2) := by decide +kernel
theorem dX6_readNumber_48 : decode cX6_readNumber 48 = .ok (.iload 4, 2) := by decide +kernel
theorem dX6_readNumber_50 : decode cX6_readNumber 50 = .ok (.iload_n 1, 1) := by decide +kernel
theorem dX6_readNumber_51 : decode cX6_readNumber 51 = .ok (.iload_n 2, 1) := by decide +kernel
theorem dX6_readNumber_52 : decode cX6_readNumber 52 = .ok (.invokestatic 38, 3) := by decide +kernel
theorem dX6_readNumber_55 : decode cX6_readNumber 55 = .ok (.ifCond .eq 6, 3) := by decide +kernel
theorem dX6_readNumber_58 : decode cX6_readNumber 58 = .ok (.iload 4, 2) := by decide +kernel
theorem dX6_readNumber_60 : decode cX6_readNumber 60 = .ok (.ireturn, 1) := by decide +kernel
theorem dX6_readNumber_61 : decode cX6_readNumber 61 = .ok (.aload_n 0, 1) := by decide +kernel
theorem dX6_readNumber_62 : decode cX6_readNumber 62 = .ok (.iconst 2, 1) := by decide +kernel
theorem dX6_readNumber_63 : decode cX6_readNumber 63 = .ok (.invokevirtual 50, 3) := by decide +kernel
theorem dX6_readNumber_66 : decode cX6_readNumber 66 = .ok (.iload_n 1, 1) := by decide +kernel
theorem dX6_readNumber_67 : decode cX6_readNumber 67 = .ok (.ireturn, 1) := by decide +kernel
theorem dX6_valueOfToken_0 : decode cX6_valueOfToken 0 = .ok (.iconst 0, 1) := by decide +kernel
theorem dX6_valueOfToken_1 : decode cX6_valueOfToken 1 = .ok (.istore_n 1, 1) := by decide +kernel
theorem dX6_valueOfToken_2 : decode cX6_valueOfToken 2 = .ok (.aload_n 0, 1) := by decide +kernel
theorem dX6_valueOfToken_3 : decode cX6_valueOfToken 3 = .ok (.getfield 22, 3) := by decide +kernel
theorem dX6_valueOfToken_6 : decode cX6_valueOfToken 6 = .ok (.istore_n 2, 1) := by decide +kernel
theorem dX6_valueOfToken_7 : decode cX6_valueOfToken 7 = .ok (.iload_n 2, 1) := by decide +kernel
theorem dX6_valueOfToken_8 : decode cX6_valueOfToken 8 = .ok (.aload_n 0, 1) := by decide +kernel
theorem dX6_valueOfToken_9 : decode cX6_valueOfToken 9 = .ok (.getfield 19, 3) := by decide +kernel
theorem dX6_valueOfToken_12 : decode cX6_valueOfToken 12 = .ok (.if_icmp .ge 24, 3) := by decide +kernel
theorem dX6_valueOfToken_15 : decode cX6_valueOfToken 15 = .ok (.bipush 10, 2) := by decide +kernel
theorem dX6_valueOfToken_17 : decode cX6_valueOfToken 17 = .ok (.iload_n 1, 1) := by decide +kernel
theorem dX6_valueOfToken_18 : decode cX6_valueOfToken 18 = .ok (.imul, 1) := by decide +kernel
theorem dX6_valueOfToken_19 : decode cX6_valueOfToken 19 = .ok (.aload_n 0, 1) := by decide +kernel
theorem dX6_valueOfToken_20 : decode cX6_valueOfToken 20 = .ok (.getfield 9, 3) := by decide +kernel
theorem dX6_valueOfToken_23 : decode cX6_valueOfToken 23 = .ok (.iload_n 2, 1) := by decide +kernel
