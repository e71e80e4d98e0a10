theorem dX8_keep_30 : decode cX8_keep 30 = .ok (.aaload, 1) := by decide +kernel
theorem dX8_keep_31 : decode cX8_keep 31 = .ok (.iconst 1, 1) := by decide +kernel
theorem dX8_keep_32 : decode cX8_keep 32 = .ok (.putfield 318, 3) := by decide +kernel
theorem dX8_keep_35 : decode cX8_keep 35 = .ok (.iconst 1, 1) := by decide +kernel
theorem dX8_keep_36 : decode cX8_keep 36 = .ok (.ireturn, 1) := by decide +kernel
theorem dX8_goBack_0 : decode cX8_goBack 0 = .ok (.iload_n 1, 1) := by decide +kernel
theorem dX8_goBack_1 : decode cX8_goBack 1 = .ok (.iconst 0, 1) := by decide +kernel
theorem dX8_goBack_2 : decode cX8_goBack 2 = .ok (.iconst 1, 1) := by decide +kernel
theorem dX8_goBack_3 : decode cX8_goBack 3 = .ok (.invokestatic 91, 3) := by decide +kernel
theorem dX8_goBack_6 : decode cX8_goBack 6 = .ok (.ifCond .ne 6, 3) := by decide +kernel
theorem dX8_goBack_9 : decode cX8_goBack 9 = .ok (.ldc 158, 2) := by decide +kernel
theorem dX8_goBack_11 : decode cX8_goBack 11 = .ok (.ireturn, 1) := by decide +kernel
theorem dX8_goBack_12 : decode cX8_goBack 12 = .ok (.aload_n 0, 1) := by decide +kernel
theorem dX8_goBack_13 : decode cX8_goBack 13 = .ok (.getfield 51, 3) := by decide +kernel
theorem dX8_goBack_16 : decode cX8_goBack 16 = .ok (.iload_n 1, 1) := by decide +kernel
theorem dX8_goBack_17 : decode cX8_goBack 17 = .ok (.aaload, 1) := by decide +kernel
theorem dX8_goBack_18 : decode cX8_goBack 18 = .ok (.getfield 318, 3) := by decide +kernel
theorem dX8_goBack_21 : decode cX8_goBack 21 = .ok (.ifCond .ne 6, 3) := by decide +kernel
theorem dX8_goBack_24 : decode cX8_goBack 24 = .ok (.ldc 219, 2) := by decide +kernel
theorem dX8_goBack_26 : decode cX8_goBack 26 = .ok (.ireturn, 1) := by decide +kernel
theorem dX8_goBack_27 : decode cX8_goBack 27 = .ok (.aload_n 0, 1) := by decide +kernel
theorem dX8_goBack_28 : decode cX8_goBack 28 = .ok (.getfield 47, 3) := by decide +kernel
theorem dX8_goBack_31 : decode cX8_goBack 31 = .ok (.aload_n 0, 1) := by decide +kernel
theorem dX8_goBack_32 : decode cX8_goBack 32 = .ok (.getfield 51, 3) := by decide +kernel
theorem dX8_goBack_35 : decode cX8_goBack 35 = .ok (.iload_n 1, 1) := by decide +kernel
theorem dX8_goBack_36 : decode cX8_goBack 36 = .ok (.aaload, 1) := by decide +kernel
theorem dX8_goBack_37 : decode cX8_goBack 37 = .ok (.invokevirtual 315, 3) := by decide +kernel
theorem dX8_goBack_40 : decode cX8_goBack 40 = .ok (.iconst 1, 1) := by decide +kernel
theorem dX8_goBack_41 : decode cX8_goBack 41 = .ok (.ireturn, 1) := by decide +kernel
theorem dX8_isWithin_0 : decode cX8_isWithin 0 = .ok (.iload_n 0, 1) := by decide +kernel
theorem dX8_isWithin_1 : decode cX8_isWithin 1 = .ok (.iload_n 1, 1) := by decide +kernel
theorem dX8_isWithin_2 : decode cX8_isWithin 2 = .ok (.if_icmp .lt 12, 3) := by decide +kernel
theorem dX8_isWithin_5 : decode cX8_isWithin 5 = .ok (.iload_n 0, 1) := by decide +kernel
theorem dX8_isWithin_6 : decode cX8_isWithin 6 = .ok (.iload_n 2, 1) := by decide +kernel
theorem dX8_isWithin_7 : decode cX8_isWithin 7 = .ok (.if_icmp .gt 7, 3) := by decide +kernel
theorem dX8_isWithin_10 : decode cX8_isWithin 10 = .ok (.iconst 1, 1) := by decide +kernel
theorem dX8_isWithin_11 : decode cX8_isWithin 11 = .ok (.goto 4, 3) := by decide +kernel
theorem dX8_isWithin_14 : decode cX8_isWithin 14 = .ok (.iconst 0, 1) := by decide +kernel
theorem dX8_isWithin_15 : decode cX8_isWithin 15 = .ok (.ireturn, 1) := by decide +kernel
theorem dX8_isNear_0 : decode cX8_isNear 0 = .ok (.iload_n 0, 1) := by decide +kernel
theorem dX8_isNear_1 : decode cX8_isNear 1 = .ok (.bipush (-50), 2) := by decide +kernel
theorem dX8_isNear_3 : decode cX8_isNear 3 = .ok (.bipush 50, 2) := by decide +kernel
theorem dX8_isNear_5 : decode cX8_isNear 5 = .ok (.invokestatic 91, 3) := by decide +kernel
theorem dX8_isNear_8 : decode cX8_isNear 8 = .ok (.ireturn, 1) := by decide +kernel
theorem dX8_isType_0 : decode cX8_isType 0 = .ok (.iload_n 0, 1) := by decide +kernel
theorem dX8_isType_1 : decode cX8_isType 1 = .ok (.iconst 0, 1) := by decide +kernel
theorem dX8_isType_2 : decode cX8_isType 2 = .ok (.bipush 15, 2) := by decide +kernel
theorem dX8_isType_4 : decode cX8_isType 4 = .ok (.invokestatic 91, 3) := by decide +kernel
theorem dX8_isType_7 : decode cX8_isType 7 = .ok (.ireturn, 1) := by decide +kernel
theorem dX8_isHome_0 : decode cX8_isHome 0 = .ok (.iload_n 0, 1) := by decide +kernel
theorem dX8_isHome_1 : decode cX8_isHome 1 = .ok (.sipush (-1200), 3) := by decide +kernel
theorem dX8_isHome_4 : decode cX8_isHome 4 = .ok (.sipush 1200, 3) := by decide +kernel
theorem dX8_isHome_7 : decode cX8_isHome 7 = .ok (.invokestatic 91, 3) := by decide +kernel
theorem dX8_isHome_10 : decode cX8_isHome 10 = .ok (.ireturn, 1) := by decide +kernel
theorem dX8_isSinger_0 : decode cX8_isSinger 0 = .ok (.iload_n 1, 1) := by decide +kernel
theorem dX8_isSinger_1 : decode cX8_isSinger 1 = .ok (.iconst 0, 1) := by decide +kernel
theorem dX8_isSinger_2 : decode cX8_isSinger 2 = .ok (.aload_n 0, 1) := by decide +kernel
theorem dX8_isSinger_3 : decode cX8_isSinger 3 = .ok (.getfield 47, 3) := by decide +kernel
theorem dX8_isSinger_6 : decode cX8_isSinger 6 = .ok (.getfield 134, 3) := by decide +kernel
theorem dX8_isSinger_9 : decode cX8_isSinger 9 = .ok (.iconst 1, 1) := by decide +kernel
theorem dX8_isSinger_10 : decode cX8_isSinger 10 = .ok (.isub, 1) := by decide +kernel
theorem dX8_isSinger_11 : decode cX8_isSinger 11 = .ok (.invokestatic 91, 3) := by decide +kernel
theorem dX8_isSinger_14 : decode cX8_isSinger 14 = .ok (.ireturn, 1) := by decide +kernel
theorem dX8_isTask_0 : decode cX8_isTask 0 = .ok (.iload_n 1, 1) := by decide +kernel
theorem dX8_isTask_1 : decode cX8_isTask 1 = .ok (.iconst 0, 1) := by decide +kernel
theorem dX8_isTask_2 : decode cX8_isTask 2 = .ok (.aload_n 0, 1) := by decide +kernel
theorem dX8_isTask_3 : decode cX8_isTask 3 = .ok (.getfield 29, 3) := by decide +kernel
theorem dX8_isTask_6 : decode cX8_isTask 6 = .ok (.getfield 141, 3) := by decide +kernel
theorem dX8_isTask_9 : decode cX8_isTask 9 = .ok (.iconst 1, 1) := by decide +kernel
theorem dX8_isTask_10 : decode cX8_isTask 10 = .ok (.isub, 1) := by decide +kernel
theorem dX8_isTask_11 : decode cX8_isTask 11 = .ok (.invokestatic 91, 3) := by decide +kernel
theorem dX8_isTask_14 : decode cX8_isTask 14 = .ok (.ireturn, 1) := by decide +kernel
theorem dX8_hasSong_0 : decode cX8_hasSong 0 = .ok (.aload_n 0, 1) := by decide +kernel
theorem dX8_hasSong_1 : decode cX8_hasSong 1 = .ok (.getfield 47, 3) := by decide +kernel
theorem dX8_hasSong_4 : decode cX8_hasSong 4 = .ok (.getfield 145, 3) := by decide +kernel
theorem dX8_hasSong_7 : decode cX8_hasSong 7 = .ok (.getfield 148, 3) := by decide +kernel
theorem dX8_hasSong_10 : decode cX8_hasSong 10 = .ok (.iconst (-1), 1) := by decide +kernel
theorem dX8_hasSong_11 : decode cX8_hasSong 11 = .ok (.if_icmp .eq 7, 3) := by decide +kernel
theorem dX8_hasSong_14 : decode cX8_hasSong 14 = .ok (.iconst 1, 1) := by decide +kernel
theorem dX8_hasSong_15 : decode cX8_hasSong 15 = .ok (.goto 4, 3) := by decide +kernel
theorem dX8_hasSong_18 : decode cX8_hasSong 18 = .ok (.iconst 0, 1) := by decide +kernel
theorem dX8_hasSong_19 : decode cX8_hasSong 19 = .ok (.ireturn, 1) := by decide +kernel
theorem dX8_dropSong_0 : decode cX8_dropSong 0 = .ok (.aload_n 0, 1) := by decide +kernel
theorem dX8_dropSong_1 : decode cX8_dropSong 1 = .ok (.getfield 47, 3) := by decide +kernel
theorem dX8_dropSong_4 : decode cX8_dropSong 4 = .ok (.getfield 145, 3) := by decide +kernel
theorem dX8_dropSong_7 : decode cX8_dropSong 7 = .ok (.invokevirtual 322, 3) := by decide +kernel
theorem dX8_dropSong_10 : decode cX8_dropSong 10 = .ok (.aload_n 0, 1) := by decide +kernel
theorem dX8_dropSong_11 : decode cX8_dropSong 11 = .ok (.iconst 0, 1) := by decide +kernel
theorem dX8_dropSong_12 : decode cX8_dropSong 12 = .ok (.putfield 73, 3) := by decide +kernel
theorem dX8_dropSong_15 : decode cX8_dropSong 15 = .ok (.return_, 1) := by decide +kernel
theorem dX8_dropResults_0 : decode cX8_dropResults 0 = .ok (.aload_n 0, 1) := by decide +kernel
theorem dX8_dropResults_1 : decode cX8_dropResults 1 = .ok (.getfield 47, 3) := by decide +kernel
theorem dX8_dropResults_4 : decode cX8_dropResults 4 = .ok (.iconst 0, 1) := by decide +kernel
theorem dX8_dropResults_5 : decode cX8_dropResults 5 = .ok (.putfield 152, 3) := by decide +kernel
theorem dX8_dropResults_8 : decode cX8_dropResults 8 = .ok (.aload_n 0, 1) := by decide +kernel
theorem dX8_dropResults_9 : decode cX8_dropResults 9 = .ok (.getfield 47, 3) := by decide +kernel
theorem dX8_dropResults_12 : decode cX8_dropResults 12 = .ok (.iconst 0, 1) := by decide +kernel
theorem dX8_dropResults_13 : decode cX8_dropResults 13 = .ok (.putfield 155, 3) := by decide +kernel
theorem dX8_dropResults_16 : decode cX8_dropResults 16 = .ok (.return_, 1) := by decide +kernel
theorem dX8_dropImages_0 : decode cX8_dropImages 0 = .ok (.iconst 0, 1) := by decide +kernel
theorem dX8_dropImages_1 : decode cX8_dropImages 1 = .ok (.istore_n 1, 1) := by decide +kernel
theorem dX8_dropImages_2 : decode cX8_dropImages 2 = .ok (.iload_n 1, 1) := by decide +kernel
theorem dX8_dropImages_3 : decode cX8_dropImages 3 = .ok (.iconst 2, 1) := by decide +kernel
theorem dX8_dropImages_4 : decode cX8_dropImages 4 = .ok (.if_icmp .ge 19, 3) := by decide +kernel
theorem dX8_dropImages_7 : decode cX8_dropImages 7 = .ok (.aload_n 0, 1) := by decide +kernel
theorem dX8_dropImages_8 : decode cX8_dropImages 8 = .ok (.getfield 51, 3) := by decide +kernel
theorem dX8_dropImages_11 : decode cX8_dropImages 11 = .ok (.iload_n 1, 1) := by decide +kernel
theorem dX8_dropImages_12 : decode cX8_dropImages 12 = .ok (.aaload, 1) := by decide +kernel
theorem dX8_dropImages_13 : decode cX8_dropImages 13 = .ok (.iconst 0, 1) := by decide +kernel
theorem dX8_dropImages_14 : decode cX8_dropImages 14 = .ok (.putfield 318, 3) := by decide +kernel
theorem dX8_dropImages_17 : decode cX8_dropImages 17 = .ok (.iinc 1 1, 3) := by decide +kernel
theorem dX8_dropImages_20 : decode cX8_dropImages 20 = .ok (.goto (-18), 3) := by decide +kernel
theorem dX8_dropImages_23 : decode cX8_dropImages 23 = .ok (.return_, 1) := by decide +kernel
theorem dX8_newSingers_0 : decode cX8_newSingers 0 = .ok (.bipush 12, 2) := by decide +kernel
theorem dX8_newSingers_2 : decode cX8_newSingers 2 = .ok (.anewarray 84, 3) := by decide +kernel
theorem dX8_newSingers_5 : decode cX8_newSingers 5 = .ok (.astore_n 0, 1) := by decide +kernel
theorem dX8_newSingers_6 : decode cX8_newSingers 6 = .ok (.iconst 0, 1) := by decide +kernel
theorem dX8_newSingers_7 : decode cX8_newSingers 7 = .ok (.istore_n 1, 1) := by decide +kernel
theorem dX8_newSingers_8 : decode cX8_newSingers 8 = .ok (.iload_n 1, 1) := by decide +kernel
theorem dX8_newSingers_9 : decode cX8_newSingers 9 = .ok (.bipush 12, 2) := by decide +kernel
theorem dX8_newSingers_11 : decode cX8_newSingers 11 = .ok (.if_icmp .ge 19, 3) := by decide +kernel
theorem dX8_newSingers_14 : decode cX8_newSingers 14 = .ok (.aload_n 0, 1) := by decide +kernel
theorem dX8_newSingers_15 : decode cX8_newSingers 15 = .ok (.iload_n 1, 1) := by decide +kernel
theorem dX8_newSingers_16 : decode cX8_newSingers 16 = .ok (.new 84, 3) := by decide +kernel
theorem dX8_newSingers_19 : decode cX8_newSingers 19 = .ok (.dup, 1) := by decide +kernel
theorem dX8_newSingers_20 : decode cX8_newSingers 20 = .ok (.invokespecial 86, 3) := by decide +kernel
theorem dX8_newSingers_23 : decode cX8_newSingers 23 = .ok (.aastore, 1) := by decide +kernel
theorem dX8_newSingers_24 : decode cX8_newSingers 24 = .ok (.iinc 1 1, 3) := by decide +kernel
theorem dX8_newSingers_27 : decode cX8_newSingers 27 = .ok (.goto (-19), 3) := by decide +kernel
theorem dX8_newSingers_30 : decode cX8_newSingers 30 = .ok (.aload_n 0, 1) := by decide +kernel
theorem dX8_newSingers_31 : decode cX8_newSingers 31 = .ok (.areturn, 1) := by decide +kernel
theorem dX8_readSingers_0 : decode cX8_readSingers 0 = .ok (.iconst 0, 1) := by decide +kernel
theorem dX8_readSingers_1 : decode cX8_readSingers 1 = .ok (.istore_n 1, 1) := by decide +kernel
theorem dX8_readSingers_2 : decode cX8_readSingers 2 = .ok (.aload_n 0, 1) := by decide +kernel
theorem dX8_readSingers_3 : decode cX8_readSingers 3 = .ok (.getfield 10, 3) := by decide +kernel
theorem dX8_readSingers_6 : decode cX8_readSingers 6 = .ok (.invokevirtual 323, 3) := by decide +kernel
theorem dX8_readSingers_9 : decode cX8_readSingers 9 = .ok (.iconst 0, 1) := by decide +kernel
theorem dX8_readSingers_10 : decode cX8_readSingers 10 = .ok (.istore_n 2, 1) := by decide +kernel
theorem dX8_readSingers_11 : decode cX8_readSingers 11 = .ok (.iload_n 2, 1) := by decide +kernel
theorem dX8_readSingers_12 : decode cX8_readSingers 12 = .ok (.sipush 400, 3) := by decide +kernel
theorem dX8_readSingers_15 : decode cX8_readSingers 15 = .ok (.if_icmp .ge 63, 3) := by decide +kernel
theorem dX8_readSingers_18 : decode cX8_readSingers 18 = .ok (.aload_n 0, 1) := by decide +kernel
theorem dX8_readSingers_19 : decode cX8_readSingers 19 = .ok (.getfield 10, 3) := by decide +kernel
theorem dX8_readSingers_22 : decode cX8_readSingers 22 = .ok (.invokevirtual 326, 3) := by decide +kernel
theorem dX8_readSingers_25 : decode cX8_readSingers 25 = .ok (.ifCond .ne 53, 3) := by decide +kernel
theorem dX8_readSingers_28 : decode cX8_readSingers 28 = .ok (.aload_n 0, 1) := by decide +kernel
theorem dX8_readSingers_29 : decode cX8_readSingers 29 = .ok (.getfield 10, 3) := by decide +kernel
theorem dX8_readSingers_32 : decode cX8_readSingers 32 = .ok (.ldc_w 329, 3) := by decide +kernel
theorem dX8_readSingers_35 : decode cX8_readSingers 35 = .ok (.invokevirtual 331, 3) := by decide +kernel
theorem dX8_readSingers_38 : decode cX8_readSingers 38 = .ok (.pop, 1) := by decide +kernel
theorem dX8_readSingers_39 : decode cX8_readSingers 39 = .ok (.iload_n 1, 1) := by decide +kernel
theorem dX8_readSingers_40 : decode cX8_readSingers 40 = .ok (.bipush 12, 2) := by decide +kernel
theorem dX8_readSingers_42 : decode cX8_readSingers 42 = .ok (.if_icmp .lt 14, 3) := by decide +kernel
theorem dX8_readSingers_45 : decode cX8_readSingers 45 = .ok (.aload_n 0, 1) := by decide +kernel
theorem dX8_readSingers_46 : decode cX8_readSingers 46 = .ok (.getfield 10, 3) := by decide +kernel
theorem dX8_readSingers_49 : decode cX8_readSingers 49 = .ok (.iconst 3, 1) := by decide +kernel
theorem dX8_readSingers_50 : decode cX8_readSingers 50 = .ok (.invokevirtual 335, 3) := by decide +kernel
theorem dX8_readSingers_53 : decode cX8_readSingers 53 = .ok (.goto 19, 3) := by decide +kernel
theorem dX8_readSingers_56 : decode cX8_readSingers 56 = .ok (.aload_n 0, 1) := by decide +kernel
theorem dX8_readSingers_57 : decode cX8_readSingers 57 = .ok (.getfield 40, 3) := by decide +kernel
theorem dX8_readSingers_60 : decode cX8_readSingers 60 = .ok (.iload_n 1, 1) := by decide +kernel
theorem dX8_readSingers_61 : decode cX8_readSingers 61 = .ok (.aaload, 1) := by decide +kernel
theorem dX8_readSingers_62 : decode cX8_readSingers 62 = .ok (.aload_n 0, 1) := by decide +kernel
theorem dX8_readSingers_63 : decode cX8_readSingers 63 = .ok (.getfield 10, 3) := by decide +kernel
theorem dX8_readSingers_66 : decode cX8_readSingers 66 = .ok (.invokevirtual 338, 3) := by decide +kernel
theorem dX8_readSingers_69 : decode cX8_readSingers 69 = .ok (.iinc 1 1, 3) := by decide +kernel
theorem dX8_readSingers_72 : decode cX8_readSingers 72 = .ok (.iinc 2 1, 3) := by decide +kernel
theorem dX8_readSingers_75 : decode cX8_readSingers 75 = .ok (.goto (-64), 3) := by decide +kernel
theorem dX8_readSingers_78 : decode cX8_readSingers 78 = .ok (.iload_n 1, 1) := by decide +kernel
theorem dX8_readSingers_79 : decode cX8_readSingers 79 = .ok (.ireturn, 1) := by decide +kernel
theorem dX8_singInto_0 : decode cX8_singInto 0 = .ok (.aload_n 1, 1) := by decide +kernel
theorem dX8_singInto_1 : decode cX8_singInto 1 = .ok (.aload_n 0, 1) := by decide +kernel
theorem dX8_singInto_2 : decode cX8_singInto 2 = .ok (.getfield 19, 3) := by decide +kernel
theorem dX8_singInto_5 : decode cX8_singInto 5 = .ok (.getfield 124, 3) := by decide +kernel
theorem dX8_singInto_8 : decode cX8_singInto 8 = .ok (.putfield 339, 3) := by decide +kernel
theorem dX8_singInto_11 : decode cX8_singInto 11 = .ok (.aload_n 2, 1) := by decide +kernel
theorem dX8_singInto_12 : decode cX8_singInto 12 = .ok (.getfield 169, 3) := by decide +kernel
theorem dX8_singInto_15 : decode cX8_singInto 15 = .ok (.bipush 7, 2) := by decide +kernel
theorem dX8_singInto_17 : decode cX8_singInto 17 = .ok (.if_icmp .eq 11, 3) := by decide +kernel
theorem dX8_singInto_20 : decode cX8_singInto 20 = .ok (.aload_n 2, 1) := by decide +kernel
theorem dX8_singInto_21 : decode cX8_singInto 21 = .ok (.getfield 169, 3) := by decide +kernel
theorem dX8_singInto_24 : decode cX8_singInto 24 = .ok (.iconst 4, 1) := by decide +kernel
theorem dX8_singInto_25 : decode cX8_singInto 25 = .ok (.if_icmp .ne 31, 3) := by decide +kernel
theorem dX8_singInto_28 : decode cX8_singInto 28 = .ok (.aload_n 1, 1) := by decide +kernel
theorem dX8_singInto_29 : decode cX8_singInto 29 = .ok (.getfield 340, 3) := by decide +kernel
theorem dX8_singInto_32 : decode cX8_singInto 32 = .ok (.aload_n 2, 1) := by decide +kernel
theorem dX8_singInto_33 : decode cX8_singInto 33 = .ok (.getfield 169, 3) := by decide +kernel
theorem dX8_singInto_36 : decode cX8_singInto 36 = .ok (.bipush 7, 2) := by decide +kernel
theorem dX8_singInto_38 : decode cX8_singInto 38 = .ok (.if_icmp .ne 7, 3) := by decide +kernel
theorem dX8_singInto_41 : decode cX8_singInto 41 = .ok (.iconst (-1), 1) := by decide +kernel
theorem dX8_singInto_42 : decode cX8_singInto 42 = .ok (.goto 10, 3) := by decide +kernel
theorem dX8_singInto_45 : decode cX8_singInto 45 = .ok (.bipush 100, 2) := by decide +kernel
theorem dX8_singInto_47 : decode cX8_singInto 47 = .ok (.aload_n 2, 1) := by decide +kernel
theorem dX8_singInto_48 : decode cX8_singInto 48 = .ok (.getfield 184, 3) := by decide +kernel
theorem dX8_singInto_51 : decode cX8_singInto 51 = .ok (.imul, 1) := by decide +kernel
theorem dX8_singInto_52 : decode cX8_singInto 52 = .ok (.invokestatic 343, 3) := by decide +kernel
theorem dX8_singInto_55 : decode cX8_singInto 55 = .ok (.return_, 1) := by decide +kernel
theorem dX8_singInto_56 : decode cX8_singInto 56 = .ok (.iconst 0, 1) := by decide +kernel
theorem dX8_singInto_57 : decode cX8_singInto 57 = .ok (.istore 4, 2) := by decide +kernel
theorem dX8_singInto_59 : decode cX8_singInto 59 = .ok (.iconst 0, 1) := by decide +kernel
theorem dX8_singInto_60 : decode cX8_singInto 60 = .ok (.istore 5, 2) := by decide +kernel
theorem dX8_singInto_62 : decode cX8_singInto 62 = .ok (.iconst 0, 1) := by decide +kernel
theorem dX8_singInto_63 : decode cX8_singInto 63 = .ok (.istore 6, 2) := by decide +kernel
theorem dX8_singInto_65 : decode cX8_singInto 65 = .ok (.iload 6, 2) := by decide +kernel
theorem dX8_singInto_67 : decode cX8_singInto 67 = .ok (.aload_n 0, 1) := by decide +kernel
theorem dX8_singInto_68 : decode cX8_singInto 68 = .ok (.getfield 19, 3) := by decide +kernel
theorem dX8_singInto_71 : decode cX8_singInto 71 = .ok (.getfield 124, 3) := by decide +kernel
theorem dX8_singInto_74 : decode cX8_singInto 74 = .ok (.if_icmp .ge 99, 3) := by decide +kernel
theorem dX8_singInto_77 : decode cX8_singInto 77 = .ok (.aload_n 0, 1) := by decide +kernel
theorem dX8_singInto_78 : decode cX8_singInto 78 = .ok (.getfield 19, 3) := by decide +kernel
theorem dX8_singInto_81 : decode cX8_singInto 81 = .ok (.getfield 162, 3) := by decide +kernel
theorem dX8_singInto_84 : decode cX8_singInto 84 = .ok (.iload 6, 2) := by decide +kernel
theorem dX8_singInto_86 : decode cX8_singInto 86 = .ok (.iaload, 1) := by decide +kernel
theorem dX8_singInto_87 : decode cX8_singInto 87 = .ok (.iconst 1, 1) := by decide +kernel
theorem dX8_singInto_88 : decode cX8_singInto 88 = .ok (.if_icmp .ne 6, 3) := by decide +kernel
theorem dX8_singInto_91 : decode cX8_singInto 91 = .ok (.iconst 0, 1) := by decide +kernel
theorem dX8_singInto_92 : decode cX8_singInto 92 = .ok (.istore 5, 2) := by decide +kernel
theorem dX8_singInto_94 : decode cX8_singInto 94 = .ok (.iload 6, 2) := by decide +kernel
theorem dX8_singInto_96 : decode cX8_singInto 96 = .ok (.ifCond .ne 21, 3) := by decide +kernel
theorem dX8_singInto_99 : decode cX8_singInto 99 = .ok (.aload_n 0, 1) := by decide +kernel
theorem dX8_singInto_100 : decode cX8_singInto 100 = .ok (.getfield 19, 3) := by decide +kernel
theorem dX8_singInto_103 : decode cX8_singInto 103 = .ok (.getfield 159, 3) := by decide +kernel
theorem dX8_singInto_106 : decode cX8_singInto 106 = .ok (.iconst 0, 1) := by decide +kernel
theorem dX8_singInto_107 : decode cX8_singInto 107 = .ok (.iaload, 1) := by decide +kernel
theorem dX8_singInto_108 : decode cX8_singInto 108 = .ok (.aload_n 0, 1) := by decide +kernel
theorem dX8_singInto_109 : decode cX8_singInto 109 = .ok (.iload_n 3, 1) := by decide +kernel
theorem dX8_singInto_110 : decode cX8_singInto 110 = .ok (.invokevirtual 349, 3) := by decide +kernel
theorem dX8_singInto_113 : decode cX8_singInto 113 = .ok (.iadd, 1) := by decide +kernel
theorem dX8_singInto_114 : decode cX8_singInto 114 = .ok (.goto 21, 3) := by decide +kernel
theorem dX8_singInto_117 : decode cX8_singInto 117 = .ok (.iload 4, 2) := by decide +kernel
theorem dX8_singInto_119 : decode cX8_singInto 119 = .ok (.aload_n 2, 1) := by decide +kernel
theorem dX8_singInto_120 : decode cX8_singInto 120 = .ok (.aload_n 0, 1) := by decide +kernel
theorem dX8_singInto_121 : decode cX8_singInto 121 = .ok (.getfield 19, 3) := by decide +kernel
theorem dX8_singInto_124 : decode cX8_singInto 124 = .ok (.iload 6, 2) := by decide +kernel
theorem dX8_singInto_126 : decode cX8_singInto 126 = .ok (.invokevirtual 352, 3) := by decide +kernel
theorem dX8_singInto_129 : decode cX8_singInto 129 = .ok (.iload 5, 2) := by decide +kernel
theorem dX8_singInto_131 : decode cX8_singInto 131 = .ok (.invokevirtual 355, 3) := by decide +kernel
theorem dX8_singInto_134 : decode cX8_singInto 134 = .ok (.iadd, 1) := by decide +kernel
theorem dX8_singInto_135 : decode cX8_singInto 135 = .ok (.istore 4, 2) := by decide +kernel
theorem dX8_singInto_137 : decode cX8_singInto 137 = .ok (.aload_n 1, 1) := by decide +kernel
theorem dX8_singInto_138 : decode cX8_singInto 138 = .ok (.getfield 340, 3) := by decide +kernel
theorem dX8_singInto_141 : decode cX8_singInto 141 = .ok (.iload 6, 2) := by decide +kernel
theorem dX8_singInto_143 : decode cX8_singInto 143 = .ok (.aload_n 2, 1) := by decide +kernel
theorem dX8_singInto_144 : decode cX8_singInto 144 = .ok (.iload 4, 2) := by decide +kernel
theorem dX8_singInto_146 : decode cX8_singInto 146 = .ok (.aload_n 2, 1) := by decide +kernel
theorem dX8_singInto_147 : decode cX8_singInto 147 = .ok (.invokevirtual 359, 3) := by decide +kernel
theorem dX8_singInto_150 : decode cX8_singInto 150 = .ok (.iadd, 1) := by decide +kernel
theorem dX8_singInto_151 : decode cX8_singInto 151 = .ok (.aload_n 0, 1) := by decide +kernel
theorem dX8_singInto_152 : decode cX8_singInto 152 = .ok (.aload_n 2, 1) := by decide +kernel
theorem dX8_singInto_153 : decode cX8_singInto 153 = .ok (.iload 6, 2) := by decide +kernel
theorem dX8_singInto_155 : decode cX8_singInto 155 = .ok (.iload_n 3, 1) := by decide +kernel
theorem dX8_singInto_156 : decode cX8_singInto 156 = .ok (.invokevirtual 362, 3) := by decide +kernel
theorem dX8_singInto_159 : decode cX8_singInto 159 = .ok (.iadd, 1) := by decide +kernel
theorem dX8_singInto_160 : decode cX8_singInto 160 = .ok (.invokevirtual 366, 3) := by decide +kernel
theorem dX8_singInto_163 : decode cX8_singInto 163 = .ok (.iastore, 1) := by decide +kernel
theorem dX8_singInto_164 : decode cX8_singInto 164 = .ok (.iinc 5 1, 3) := by decide +kernel
theorem dX8_singInto_167 : decode cX8_singInto 167 = .ok (.iinc 6 1, 3) := by decide +kernel
theorem dX8_singInto_170 : decode cX8_singInto 170 = .ok (.goto (-105), 3) := by decide +kernel
theorem dX8_singInto_173 : decode cX8_singInto 173 = .ok (.return_, 1) := by decide +kernel
theorem dX8_startOff_0 : decode cX8_startOff 0 = .ok (.iload_n 1, 1) := by decide +kernel
theorem dX8_startOff_1 : decode cX8_startOff 1 = .ok (.ifCond .ne 19, 3) := by decide +kernel
theorem dX8_startOff_4 : decode cX8_startOff 4 = .ok (.aload_n 0, 1) := by decide +kernel
theorem dX8_startOff_5 : decode cX8_startOff 5 = .ok (.getfield 47, 3) := by decide +kernel
theorem dX8_startOff_8 : decode cX8_startOff 8 = .ok (.bipush 13, 2) := by decide +kernel
theorem dX8_startOff_10 : decode cX8_startOff 10 = .ok (.invokevirtual 369, 3) := by decide +kernel
theorem dX8_startOff_13 : decode cX8_startOff 13 = .ok (.bipush 6, 2) := by decide +kernel
theorem dX8_startOff_15 : decode cX8_startOff 15 = .ok (.isub, 1) := by decide +kernel
theorem dX8_startOff_16 : decode cX8_startOff 16 = .ok (.bipush 100, 2) := by decide +kernel
theorem dX8_startOff_18 : decode cX8_startOff 18 = .ok (.imul, 1) := by decide +kernel
theorem dX8_startOff_19 : decode cX8_startOff 19 = .ok (.ireturn, 1) := by decide +kernel
theorem dX8_startOff_20 : decode cX8_startOff 20 = .ok (.iload_n 1, 1) := by decide +kernel
theorem dX8_startOff_21 : decode cX8_startOff 21 = .ok (.iconst 1, 1) := by decide +kernel
theorem dX8_startOff_22 : decode cX8_startOff 22 = .ok (.if_icmp .ne 18, 3) := by decide +kernel
theorem dX8_startOff_25 : decode cX8_startOff 25 = .ok (.aload_n 0, 1) := by decide +kernel
theorem dX8_startOff_26 : decode cX8_startOff 26 = .ok (.getfield 47, 3) := by decide +kernel
theorem dX8_startOff_29 : decode cX8_startOff 29 = .ok (.iconst 2, 1) := by decide +kernel
theorem dX8_startOff_30 : decode cX8_startOff 30 = .ok (.invokevirtual 369, 3) := by decide +kernel
theorem dX8_startOff_33 : decode cX8_startOff 33 = .ok (.iconst 1, 1) := by decide +kernel
theorem dX8_startOff_34 : decode cX8_startOff 34 = .ok (.isub, 1) := by decide +kernel
theorem dX8_startOff_35 : decode cX8_startOff 35 = .ok (.sipush 1200, 3) := by decide +kernel
theorem dX8_startOff_38 : decode cX8_startOff 38 = .ok (.imul, 1) := by decide +kernel
theorem dX8_startOff_39 : decode cX8_startOff 39 = .ok (.ireturn, 1) := by decide +kernel
theorem dX8_startOff_40 : decode cX8_startOff 40 = .ok (.iconst 0, 1) := by decide +kernel
theorem dX8_startOff_41 : decode cX8_startOff 41 = .ok (.ireturn, 1) := by decide +kernel
theorem dX8_waver_0 : decode cX8_waver 0 = .ok (.aload_n 1, 1) := by decide +kernel
theorem dX8_waver_1 : decode cX8_waver 1 = .ok (.getfield 169, 3) := by decide +kernel
theorem dX8_waver_4 : decode cX8_waver 4 = .ok (.iconst 1, 1) := by decide +kernel
theorem dX8_waver_5 : decode cX8_waver 5 = .ok (.if_icmp .ne 5, 3) := by decide +kernel
theorem dX8_waver_8 : decode cX8_waver 8 = .ok (.iconst 0, 1) := by decide +kernel
theorem dX8_waver_9 : decode cX8_waver 9 = .ok (.ireturn, 1) := by decide +kernel
theorem dX8_waver_10 : decode cX8_waver 10 = .ok (.iload_n 3, 1) := by decide +kernel
theorem dX8_waver_11 : decode cX8_waver 11 = .ok (.iconst 3, 1) := by decide +kernel
theorem dX8_waver_12 : decode cX8_waver 12 = .ok (.if_icmp .ne 22, 3) := by decide +kernel
theorem dX8_waver_15 : decode cX8_waver 15 = .ok (.iload_n 2, 1) := by decide +kernel
theorem dX8_waver_16 : decode cX8_waver 16 = .ok (.iconst 2, 1) := by decide +kernel
theorem dX8_waver_17 : decode cX8_waver 17 = .ok (.irem, 1) := by decide +kernel
theorem dX8_waver_18 : decode cX8_waver 18 = .ok (.ifCond .ne 10, 3) := by decide +kernel
theorem dX8_waver_21 : decode cX8_waver 21 = .ok (.aload_n 1, 1) := by decide +kernel
theorem dX8_waver_22 : decode cX8_waver 22 = .ok (.getfield 178, 3) := by decide +kernel
theorem dX8_waver_25 : decode cX8_waver 25 = .ok (.goto 8, 3) := by decide +kernel
theorem dX8_waver_28 : decode cX8_waver 28 = .ok (.aload_n 1, 1) := by decide +kernel
theorem dX8_waver_29 : decode cX8_waver 29 = .ok (.getfield 178, 3) := by decide +kernel
theorem dX8_waver_32 : decode cX8_waver 32 = .ok (.ineg, 1) := by decide +kernel
theorem dX8_waver_33 : decode cX8_waver 33 = .ok (.ireturn, 1) := by decide +kernel
theorem dX8_waver_34 : decode cX8_waver 34 = .ok (.aload_n 0, 1) := by decide +kernel
theorem dX8_waver_35 : decode cX8_waver 35 = .ok (.getfield 47, 3) := by decide +kernel
theorem dX8_waver_38 : decode cX8_waver 38 = .ok (.iconst 2, 1) := by decide +kernel
theorem dX8_waver_39 : decode cX8_waver 39 = .ok (.aload_n 1, 1) := by decide +kernel
theorem dX8_waver_40 : decode cX8_waver 40 = .ok (.getfield 178, 3) := by decide +kernel
theorem dX8_waver_43 : decode cX8_waver 43 = .ok (.imul, 1) := by decide +kernel
theorem dX8_waver_44 : decode cX8_waver 44 = .ok (.iconst 1, 1) := by decide +kernel
theorem dX8_waver_45 : decode cX8_waver 45 = .ok (.iadd, 1) := by decide +kernel
theorem dX8_waver_46 : decode cX8_waver 46 = .ok (.invokevirtual 369, 3) := by decide +kernel
theorem dX8_waver_49 : decode cX8_waver 49 = .ok (.aload_n 1, 1) := by decide +kernel
theorem dX8_waver_50 : decode cX8_waver 50 = .ok (.getfield 178, 3) := by decide +kernel
theorem dX8_waver_53 : decode cX8_waver 53 = .ok (.isub, 1) := by decide +kernel
theorem dX8_waver_54 : decode cX8_waver 54 = .ok (.ireturn, 1) := by decide +kernel
theorem dX8_plainPoints_0 : decode cX8_plainPoints 0 = .ok (.aload_n 0, 1) := by decide +kernel
theorem dX8_plainPoints_1 : decode cX8_plainPoints 1 = .ok (.aload_n 0, 1) := by decide +kernel
theorem dX8_plainPoints_2 : decode cX8_plainPoints 2 = .ok (.getfield 80, 3) := by decide +kernel
theorem dX8_plainPoints_5 : decode cX8_plainPoints 5 = .ok (.aload_n 1, 1) := by decide +kernel
theorem dX8_plainPoints_6 : decode cX8_plainPoints 6 = .ok (.iconst 3, 1) := by decide +kernel
theorem dX8_plainPoints_7 : decode cX8_plainPoints 7 = .ok (.invokevirtual 208, 3) := by decide +kernel
theorem dX8_plainPoints_10 : decode cX8_plainPoints 10 = .ok (.aload_n 0, 1) := by decide +kernel
theorem dX8_plainPoints_11 : decode cX8_plainPoints 11 = .ok (.getfield 80, 3) := by decide +kernel
theorem dX8_plainPoints_14 : decode cX8_plainPoints 14 = .ok (.iconst 0, 1) := by decide +kernel
theorem dX8_plainPoints_15 : decode cX8_plainPoints 15 = .ok (.aload_n 0, 1) := by decide +kernel
theorem dX8_plainPoints_16 : decode cX8_plainPoints 16 = .ok (.getfield 19, 3) := by decide +kernel
theorem dX8_plainPoints_19 : decode cX8_plainPoints 19 = .ok (.invokevirtual 212, 3) := by decide +kernel
theorem dX8_plainPoints_22 : decode cX8_plainPoints 22 = .ok (.aload_n 0, 1) := by decide +kernel
theorem dX8_plainPoints_23 : decode cX8_plainPoints 23 = .ok (.getfield 80, 3) := by decide +kernel
theorem dX8_plainPoints_26 : decode cX8_plainPoints 26 = .ok (.iconst 1, 1) := by decide +kernel
theorem dX8_plainPoints_27 : decode cX8_plainPoints 27 = .ok (.aload_n 0, 1) := by decide +kernel
theorem dX8_plainPoints_28 : decode cX8_plainPoints 28 = .ok (.getfield 19, 3) := by decide +kernel
theorem dX8_plainPoints_31 : decode cX8_plainPoints 31 = .ok (.invokevirtual 212, 3) := by decide +kernel
theorem dX8_plainPoints_34 : decode cX8_plainPoints 34 = .ok (.iadd, 1) := by decide +kernel
theorem dX8_plainPoints_35 : decode cX8_plainPoints 35 = .ok (.ireturn, 1) := by decide +kernel
theorem dX8_partOfWeek_0 : decode cX8_partOfWeek 0 = .ok (.iload_n 0, 1) := by decide +kernel
theorem dX8_partOfWeek_1 : decode cX8_partOfWeek 1 = .ok (.iconst 2, 1) := by decide +kernel
theorem dX8_partOfWeek_2 : decode cX8_partOfWeek 2 = .ok (.iload_n 1, 1) := by decide +kernel
theorem dX8_partOfWeek_3 : decode cX8_partOfWeek 3 = .ok (.iload_n 2, 1) := by decide +kernel
theorem dX8_partOfWeek_4 : decode cX8_partOfWeek 4 = .ok (.isub, 1) := by decide +kernel
theorem dX8_partOfWeek_5 : decode cX8_partOfWeek 5 = .ok (.imul, 1) := by decide +kernel
theorem dX8_partOfWeek_6 : decode cX8_partOfWeek 6 = .ok (.ishr, 1) := by decide +kernel
theorem dX8_partOfWeek_7 : decode cX8_partOfWeek 7 = .ok (.iconst 3, 1) := by decide +kernel
theorem dX8_partOfWeek_8 : decode cX8_partOfWeek 8 = .ok (.iand, 1) := by decide +kernel
theorem dX8_partOfWeek_9 : decode cX8_partOfWeek 9 = .ok (.ireturn, 1) := by decide +kernel
theorem dX8_isRising_0 : decode cX8_isRising 0 = .ok (.iconst 2, 1) := by decide +kernel
theorem dX8_isRising_1 : decode cX8_isRising 1 = .ok (.istore_n 2, 1) := by decide +kernel
theorem dX8_isRising_2 : decode cX8_isRising 2 = .ok (.iload_n 2, 1) := by decide +kernel
theorem dX8_isRising_3 : decode cX8_isRising 3 = .ok (.iload_n 1, 1) := by decide +kernel
theorem dX8_isRising_4 : decode cX8_isRising 4 = .ok (.if_icmp .gt 28, 3) := by decide +kernel
theorem dX8_isRising_7 : decode cX8_isRising 7 = .ok (.iload_n 0, 1) := by decide +kernel
theorem dX8_isRising_8 : decode cX8_isRising 8 = .ok (.iload_n 1, 1) := by decide +kernel
theorem dX8_isRising_9 : decode cX8_isRising 9 = .ok (.iload_n 2, 1) := by decide +kernel
theorem dX8_isRising_10 : decode cX8_isRising 10 = .ok (.invokestatic 285, 3) := by decide +kernel
theorem dX8_isRising_13 : decode cX8_isRising 13 = .ok (.iload_n 0, 1) := by decide +kernel
theorem dX8_isRising_14 : decode cX8_isRising 14 = .ok (.iload_n 1, 1) := by decide +kernel
theorem dX8_isRising_15 : decode cX8_isRising 15 = .ok (.iload_n 2, 1) := by decide +kernel
theorem dX8_isRising_16 : decode cX8_isRising 16 = .ok (.iconst 1, 1) := by decide +kernel
theorem dX8_isRising_17 : decode cX8_isRising 17 = .ok (.isub, 1) := by decide +kernel
theorem dX8_isRising_18 : decode cX8_isRising 18 = .ok (.invokestatic 285, 3) := by decide +kernel
theorem dX8_isRising_21 : decode cX8_isRising 21 = .ok (.if_icmp .ge 5, 3) := by decide +kernel
theorem dX8_isRising_24 : decode cX8_isRising 24 = .ok (.iconst 0, 1) := by decide +kernel
theorem dX8_isRising_25 : decode cX8_isRising 25 = .ok (.ireturn, 1) := by decide +kernel
theorem dX8_isRising_26 : decode cX8_isRising 26 = .ok (.iinc 2 1, 3) := by decide +kernel
theorem dX8_isRising_29 : decode cX8_isRising 29 = .ok (.goto (-27), 3) := by decide +kernel
theorem dX8_isRising_32 : decode cX8_isRising 32 = .ok (.iconst 1, 1) := by decide +kernel
theorem dX8_isRising_33 : decode cX8_isRising 33 = .ok (.ireturn, 1) := by decide +kernel
theorem dX8_countAble_0 : decode cX8_countAble 0 = .ok (.iconst 0, 1) := by decide +kernel
theorem dX8_countAble_1 : decode cX8_countAble 1 = .ok (.istore_n 2, 1) := by decide +kernel
theorem dX8_countAble_2 : decode cX8_countAble 2 = .ok (.iconst 0, 1) := by decide +kernel
theorem dX8_countAble_3 : decode cX8_countAble 3 = .ok (.istore_n 3, 1) := by decide +kernel
theorem dX8_countAble_4 : decode cX8_countAble 4 = .ok (.iload_n 3, 1) := by decide +kernel
theorem dX8_countAble_5 : decode cX8_countAble 5 = .ok (.aload_n 0, 1) := by decide +kernel
theorem dX8_countAble_6 : decode cX8_countAble 6 = .ok (.getfield 47, 3) := by decide +kernel
theorem dX8_countAble_9 : decode cX8_countAble 9 = .ok (.getfield 134, 3) := by decide +kernel
theorem dX8_countAble_12 : decode cX8_countAble 12 = .ok (.if_icmp .ge 75, 3) := by decide +kernel
theorem dX8_countAble_15 : decode cX8_countAble 15 = .ok (.aload_n 0, 1) := by decide +kernel
theorem dX8_countAble_16 : decode cX8_countAble 16 = .ok (.getfield 47, 3) := by decide +kernel
theorem dX8_countAble_19 : decode cX8_countAble 19 = .ok (.getfield 131, 3) := by decide +kernel
theorem dX8_countAble_22 : decode cX8_countAble 22 = .ok (.iload_n 3, 1) := by decide +kernel
theorem dX8_countAble_23 : decode cX8_countAble 23 = .ok (.aaload, 1) := by decide +kernel
theorem dX8_countAble_24 : decode cX8_countAble 24 = .ok (.astore 4, 2) := by decide +kernel
theorem dX8_countAble_26 : decode cX8_countAble 26 = .ok (.aload 4, 2) := by decide +kernel
theorem dX8_countAble_28 : decode cX8_countAble 28 = .ok (.getfield 169, 3) := by decide +kernel
theorem dX8_countAble_31 : decode cX8_countAble 31 = .ok (.iconst 4, 1) := by decide +kernel
theorem dX8_countAble_32 : decode cX8_countAble 32 = .ok (.if_icmp .eq 49, 3) := by decide +kernel
theorem dX8_countAble_35 : decode cX8_countAble 35 = .ok (.aload 4, 2) := by decide +kernel
theorem dX8_countAble_37 : decode cX8_countAble 37 = .ok (.getfield 169, 3) := by decide +kernel
theorem dX8_countAble_40 : decode cX8_countAble 40 = .ok (.bipush 7, 2) := by decide +kernel
theorem dX8_countAble_42 : decode cX8_countAble 42 = .ok (.if_icmp .ne 6, 3) := by decide +kernel
theorem dX8_countAble_45 : decode cX8_countAble 45 = .ok (.goto 36, 3) := by decide +kernel
theorem dX8_countAble_48 : decode cX8_countAble 48 = .ok (.aload_n 0, 1) := by decide +kernel
theorem dX8_countAble_49 : decode cX8_countAble 49 = .ok (.getfield 19, 3) := by decide +kernel
theorem dX8_countAble_52 : decode cX8_countAble 52 = .ok (.bipush 100, 2) := by decide +kernel
theorem dX8_countAble_54 : decode cX8_countAble 54 = .ok (.aload 4, 2) := by decide +kernel
theorem dX8_countAble_56 : decode cX8_countAble 56 = .ok (.getfield 184, 3) := by decide +kernel
theorem dX8_countAble_59 : decode cX8_countAble 59 = .ok (.iload_n 1, 1) := by decide +kernel
theorem dX8_countAble_60 : decode cX8_countAble 60 = .ok (.isub, 1) := by decide +kernel
theorem dX8_countAble_61 : decode cX8_countAble 61 = .ok (.imul, 1) := by decide +kernel
theorem dX8_countAble_62 : decode cX8_countAble 62 = .ok (.bipush 100, 2) := by decide +kernel
theorem dX8_countAble_64 : decode cX8_countAble 64 = .ok (.aload 4, 2) := by decide +kernel
theorem dX8_countAble_66 : decode cX8_countAble 66 = .ok (.invokevirtual 372, 3) := by decide +kernel
theorem dX8_countAble_69 : decode cX8_countAble 69 = .ok (.iload_n 1, 1) := by decide +kernel
theorem dX8_countAble_70 : decode cX8_countAble 70 = .ok (.isub, 1) := by decide +kernel
theorem dX8_countAble_71 : decode cX8_countAble 71 = .ok (.imul, 1) := by decide +kernel
theorem dX8_countAble_72 : decode cX8_countAble 72 = .ok (.invokevirtual 375, 3) := by decide +kernel
theorem dX8_countAble_75 : decode cX8_countAble 75 = .ok (.ifCond .eq 6, 3) := by decide +kernel
theorem dX8_countAble_78 : decode cX8_countAble 78 = .ok (.iinc 2 1, 3) := by decide +kernel
theorem dX8_countAble_81 : decode cX8_countAble 81 = .ok (.iinc 3 1, 3) := by decide +kernel
theorem dX8_countAble_84 : decode cX8_countAble 84 = .ok (.goto (-80), 3) := by decide +kernel
theorem dX8_countAble_87 : decode cX8_countAble 87 = .ok (.iload_n 2, 1) := by decide +kernel
theorem dX8_countAble_88 : decode cX8_countAble 88 = .ok (.ireturn, 1) := by decide +kernel
theorem dX8_oddsNow_0 : decode cX8_oddsNow 0 = .ok (.aload_n 0, 1) := by decide +kernel
theorem dX8_oddsNow_1 : decode cX8_oddsNow 1 = .ok (.getfield 47, 3) := by decide +kernel
theorem dX8_oddsNow_4 : decode cX8_oddsNow 4 = .ok (.getfield 237, 3) := by decide +kernel
theorem dX8_oddsNow_7 : decode cX8_oddsNow 7 = .ok (.iload_n 1, 1) := by decide +kernel
theorem dX8_oddsNow_8 : decode cX8_oddsNow 8 = .ok (.iaload, 1) := by decide +kernel
theorem dX8_oddsNow_9 : decode cX8_oddsNow 9 = .ok (.i2l, 1) := by decide +kernel
theorem dX8_oddsNow_10 : decode cX8_oddsNow 10 = .ok (.lstore_n 2, 1) := by decide +kernel
theorem dX8_oddsNow_11 : decode cX8_oddsNow 11 = .ok (.iconst 0, 1) := by decide +kernel
theorem dX8_oddsNow_12 : decode cX8_oddsNow 12 = .ok (.istore 4, 2) := by decide +kernel
theorem dX8_oddsNow_14 : decode cX8_oddsNow 14 = .ok (.iload 4, 2) := by decide +kernel
theorem dX8_oddsNow_16 : decode cX8_oddsNow 16 = .ok (.aload_n 0, 1) := by decide +kernel
theorem dX8_oddsNow_17 : decode cX8_oddsNow 17 = .ok (.getfield 29, 3) := by decide +kernel
theorem dX8_oddsNow_20 : decode cX8_oddsNow 20 = .ok (.getfield 141, 3) := by decide +kernel
theorem dX8_oddsNow_23 : decode cX8_oddsNow 23 = .ok (.if_icmp .ge 44, 3) := by decide +kernel
theorem dX8_oddsNow_26 : decode cX8_oddsNow 26 = .ok (.aload_n 0, 1) := by decide +kernel
theorem dX8_oddsNow_27 : decode cX8_oddsNow 27 = .ok (.getfield 47, 3) := by decide +kernel
theorem dX8_oddsNow_30 : decode cX8_oddsNow 30 = .ok (.iload 4, 2) := by decide +kernel
theorem dX8_oddsNow_32 : decode cX8_oddsNow 32 = .ok (.invokevirtual 240, 3) := by decide +kernel
theorem dX8_oddsNow_35 : decode cX8_oddsNow 35 = .ok (.ifCond .eq 26, 3) := by decide +kernel
theorem dX8_oddsNow_38 : decode cX8_oddsNow 38 = .ok (.lload_n 2, 1) := by decide +kernel
theorem dX8_oddsNow_39 : decode cX8_oddsNow 39 = .ok (.aload_n 0, 1) := by decide +kernel
theorem dX8_oddsNow_40 : decode cX8_oddsNow 40 = .ok (.getfield 29, 3) := by decide +kernel
theorem dX8_oddsNow_43 : decode cX8_oddsNow 43 = .ok (.iload 4, 2) := by decide +kernel
theorem dX8_oddsNow_45 : decode cX8_oddsNow 45 = .ok (.iload_n 1, 1) := by decide +kernel
theorem dX8_oddsNow_46 : decode cX8_oddsNow 46 = .ok (.aload_n 0, 1) := by decide +kernel
theorem dX8_oddsNow_47 : decode cX8_oddsNow 47 = .ok (.getfield 47, 3) := by decide +kernel
theorem dX8_oddsNow_50 : decode cX8_oddsNow 50 = .ok (.iload 4, 2) := by decide +kernel
theorem dX8_oddsNow_52 : decode cX8_oddsNow 52 = .ok (.invokevirtual 378, 3) := by decide +kernel
theorem dX8_oddsNow_55 : decode cX8_oddsNow 55 = .ok (.invokevirtual 381, 3) := by decide +kernel
theorem dX8_oddsNow_58 : decode cX8_oddsNow 58 = .ok (.i2l, 1) := by decide +kernel
theorem dX8_oddsNow_59 : decode cX8_oddsNow 59 = .ok (.lmul, 1) := by decide +kernel
theorem dX8_oddsNow_60 : decode cX8_oddsNow 60 = .ok (.lstore_n 2, 1) := by decide +kernel
theorem dX8_oddsNow_61 : decode cX8_oddsNow 61 = .ok (.iinc 4 1, 3) := by decide +kernel
theorem dX8_oddsNow_64 : decode cX8_oddsNow 64 = .ok (.goto (-50), 3) := by decide +kernel
theorem dX8_oddsNow_67 : decode cX8_oddsNow 67 = .ok (.lload_n 2, 1) := by decide +kernel
theorem dX8_oddsNow_68 : decode cX8_oddsNow 68 = .ok (.lreturn, 1) := by decide +kernel
theorem dX8_greatestWith_0 : decode cX8_greatestWith 0 = .ok (.lconst 0, 1) := by decide +kernel
theorem dX8_greatestWith_1 : decode cX8_greatestWith 1 = .ok (.lstore_n 3, 1) := by decide +kernel
theorem dX8_greatestWith_2 : decode cX8_greatestWith 2 = .ok (.iconst 0, 1) := by decide +kernel
theorem dX8_greatestWith_3 : decode cX8_greatestWith 3 = .ok (.istore 5, 2) := by decide +kernel
theorem dX8_greatestWith_5 : decode cX8_greatestWith 5 = .ok (.iload 5, 2) := by decide +kernel
theorem dX8_greatestWith_7 : decode cX8_greatestWith 7 = .ok (.bipush 16, 2) := by decide +kernel
theorem dX8_greatestWith_9 : decode cX8_greatestWith 9 = .ok (.if_icmp .ge 33, 3) := by decide +kernel
theorem dX8_greatestWith_12 : decode cX8_greatestWith 12 = .ok (.lload_n 3, 1) := by decide +kernel
theorem dX8_greatestWith_13 : decode cX8_greatestWith 13 = .ok (.aload_n 0, 1) := by decide +kernel
theorem dX8_greatestWith_14 : decode cX8_greatestWith 14 = .ok (.iload 5, 2) := by decide +kernel
theorem dX8_greatestWith_16 : decode cX8_greatestWith 16 = .ok (.invokevirtual 248, 3) := by decide +kernel
theorem dX8_greatestWith_19 : decode cX8_greatestWith 19 = .ok (.aload_n 0, 1) := by decide +kernel
theorem dX8_greatestWith_20 : decode cX8_greatestWith 20 = .ok (.getfield 29, 3) := by decide +kernel
theorem dX8_greatestWith_23 : decode cX8_greatestWith 23 = .ok (.iload_n 1, 1) := by decide +kernel
theorem dX8_greatestWith_24 : decode cX8_greatestWith 24 = .ok (.iload 5, 2) := by decide +kernel
theorem dX8_greatestWith_26 : decode cX8_greatestWith 26 = .ok (.iload_n 2, 1) := by decide +kernel
theorem dX8_greatestWith_27 : decode cX8_greatestWith 27 = .ok (.invokevirtual 381, 3) := by decide +kernel
theorem dX8_greatestWith_30 : decode cX8_greatestWith 30 = .ok (.i2l, 1) := by decide +kernel
theorem dX8_greatestWith_31 : decode cX8_greatestWith 31 = .ok (.lmul, 1) := by decide +kernel
theorem dX8_greatestWith_32 : decode cX8_greatestWith 32 = .ok (.invokestatic 385, 3) := by decide +kernel
theorem dX8_greatestWith_35 : decode cX8_greatestWith 35 = .ok (.lstore_n 3, 1) := by decide +kernel
theorem dX8_greatestWith_36 : decode cX8_greatestWith 36 = .ok (.iinc 5 1, 3) := by decide +kernel
theorem dX8_greatestWith_39 : decode cX8_greatestWith 39 = .ok (.goto (-34), 3) := by decide +kernel
theorem dX8_greatestWith_42 : decode cX8_greatestWith 42 = .ok (.lload_n 3, 1) := by decide +kernel
theorem dX8_greatestWith_43 : decode cX8_greatestWith 43 = .ok (.lreturn, 1) := by decide +kernel
theorem dX8_answersNeeded_0 : decode cX8_answersNeeded 0 = .ok (.iload_n 1, 1) := by decide +kernel
theorem dX8_answersNeeded_1 : decode cX8_answersNeeded 1 = .ok (.ifCond .eq 8, 3) := by decide +kernel
theorem dX8_answersNeeded_4 : decode cX8_answersNeeded 4 = .ok (.iload_n 0, 1) := by decide +kernel
theorem dX8_answersNeeded_5 : decode cX8_answersNeeded 5 = .ok (.iconst 1, 1) := by decide +kernel
theorem dX8_answersNeeded_6 : decode cX8_answersNeeded 6 = .ok (.if_icmp .ne 5, 3) := by decide +kernel
theorem dX8_answersNeeded_9 : decode cX8_answersNeeded 9 = .ok (.iload_n 0, 1) := by decide +kernel
theorem dX8_answersNeeded_10 : decode cX8_answersNeeded 10 = .ok (.ireturn, 1) := by decide +kernel
theorem dX8_answersNeeded_11 : decode cX8_answersNeeded 11 = .ok (.iload_n 0, 1) := by decide +kernel
theorem dX8_answersNeeded_12 : decode cX8_answersNeeded 12 = .ok (.iload_n 2, 1) := by decide +kernel
theorem dX8_answersNeeded_13 : decode cX8_answersNeeded 13 = .ok (.iconst 1, 1) := by decide +kernel
theorem dX8_answersNeeded_14 : decode cX8_answersNeeded 14 = .ok (.iadd, 1) := by decide +kernel
theorem dX8_answersNeeded_15 : decode cX8_answersNeeded 15 = .ok (.imul, 1) := by decide +kernel
theorem dX8_answersNeeded_16 : decode cX8_answersNeeded 16 = .ok (.iload_n 0, 1) := by decide +kernel
theorem dX8_answersNeeded_17 : decode cX8_answersNeeded 17 = .ok (.iconst 2, 1) := by decide +kernel
theorem dX8_answersNeeded_18 : decode cX8_answersNeeded 18 = .ok (.irem, 1) := by decide +kernel
theorem dX8_answersNeeded_19 : decode cX8_answersNeeded 19 = .ok (.iconst 1, 1) := by decide +kernel
theorem dX8_answersNeeded_20 : decode cX8_answersNeeded 20 = .ok (.if_icmp .ne 9, 3) := by decide +kernel
theorem dX8_answersNeeded_23 : decode cX8_answersNeeded 23 = .ok (.iload_n 2, 1) := by decide +kernel
theorem dX8_answersNeeded_24 : decode cX8_answersNeeded 24 = .ok (.iconst 1, 1) := by decide +kernel
theorem dX8_answersNeeded_25 : decode cX8_answersNeeded 25 = .ok (.isub, 1) := by decide +kernel
theorem dX8_answersNeeded_26 : decode cX8_answersNeeded 26 = .ok (.goto 4, 3) := by decide +kernel
theorem dX8_answersNeeded_29 : decode cX8_answersNeeded 29 = .ok (.iconst 0, 1) := by decide +kernel
theorem dX8_answersNeeded_30 : decode cX8_answersNeeded 30 = .ok (.iadd, 1) := by decide +kernel
theorem dX8_answersNeeded_31 : decode cX8_answersNeeded 31 = .ok (.ireturn, 1) := by decide +kernel
theorem dX9_init_0 : decode cX9_init 0 = .ok (.aload_n 0, 1) := by decide +kernel
theorem dX9_init_1 : decode cX9_init 1 = .ok (.invokespecial 1, 3) := by decide +kernel
theorem dX9_init_4 : decode cX9_init 4 = .ok (.aload_n 0, 1) := by decide +kernel
theorem dX9_init_5 : decode cX9_init 5 = .ok (.bipush 40, 2) := by decide +kernel
theorem dX9_init_7 : decode cX9_init 7 = .ok (.newarray .int, 2) := by decide +kernel
theorem dX9_init_9 : decode cX9_init 9 = .ok (.putfield 7, 3) := by decide +kernel
theorem dX9_init_12 : decode cX9_init 12 = .ok (.aload_n 0, 1) := by decide +kernel
theorem dX9_init_13 : decode cX9_init 13 = .ok (.bipush 40, 2) := by decide +kernel
theorem dX9_init_15 : decode cX9_init 15 = .ok (.newarray .boolean, 2) := by decide +kernel
theorem dX9_init_17 : decode cX9_init 17 = .ok (.putfield 13, 3) := by decide +kernel
theorem dX9_init_20 : decode cX9_init 20 = .ok (.aload_n 0, 1) := by decide +kernel
theorem dX9_init_21 : decode cX9_init 21 = .ok (.bipush 96, 2) := by decide +kernel
theorem dX9_init_23 : decode cX9_init 23 = .ok (.newarray .int, 2) := by decide +kernel
theorem dX9_init_25 : decode cX9_init 25 = .ok (.putfield 17, 3) := by decide +kernel
theorem dX9_init_28 : decode cX9_init 28 = .ok (.aload_n 0, 1) := by decide +kernel
theorem dX9_init_29 : decode cX9_init 29 = .ok (.bipush 24, 2) := by decide +kernel
theorem dX9_init_31 : decode cX9_init 31 = .ok (.newarray .int, 2) := by decide +kernel
theorem dX9_init_33 : decode cX9_init 33 = .ok (.putfield 20, 3) := by decide +kernel
theorem dX9_init_36 : decode cX9_init 36 = .ok (.aload_n 0, 1) := by decide +kernel
theorem dX9_init_37 : decode cX9_init 37 = .ok (.bipush 16, 2) := by decide +kernel
theorem dX9_init_39 : decode cX9_init 39 = .ok (.newarray .int, 2) := by decide +kernel
theorem dX9_init_41 : decode cX9_init 41 = .ok (.putfield 23, 3) := by decide +kernel
theorem dX9_init_44 : decode cX9_init 44 = .ok (.aload_n 0, 1) := by decide +kernel
theorem dX9_init_45 : decode cX9_init 45 = .ok (.bipush 6, 2) := by decide +kernel
theorem dX9_init_47 : decode cX9_init 47 = .ok (.newarray .int, 2) := by decide +kernel
theorem dX9_init_49 : decode cX9_init 49 = .ok (.putfield 26, 3) := by decide +kernel
theorem dX9_init_52 : decode cX9_init 52 = .ok (.aload_n 0, 1) := by decide +kernel
theorem dX9_init_53 : decode cX9_init 53 = .ok (.iconst (-1), 1) := by decide +kernel
theorem dX9_init_54 : decode cX9_init 54 = .ok (.putfield 29, 3) := by decide +kernel
theorem dX9_init_57 : decode cX9_init 57 = .ok (.aload_n 0, 1) := by decide +kernel
theorem dX9_init_58 : decode cX9_init 58 = .ok (.bipush 40, 2) := by decide +kernel
theorem dX9_init_60 : decode cX9_init 60 = .ok (.newarray .int, 2) := by decide +kernel
theorem dX9_init_62 : decode cX9_init 62 = .ok (.putfield 33, 3) := by decide +kernel
theorem dX9_init_65 : decode cX9_init 65 = .ok (.aload_n 0, 1) := by decide +kernel
theorem dX9_init_66 : decode cX9_init 66 = .ok (.sipush 400, 3) := by decide +kernel
theorem dX9_init_69 : decode cX9_init 69 = .ok (.newarray .int, 2) := by decide +kernel
theorem dX9_init_71 : decode cX9_init 71 = .ok (.putfield 36, 3) := by decide +kernel
theorem dX9_init_74 : decode cX9_init 74 = .ok (.aload_n 0, 1) := by decide +kernel
theorem dX9_init_75 : decode cX9_init 75 = .ok (.iconst (-1), 1) := by decide +kernel
theorem dX9_init_76 : decode cX9_init 76 = .ok (.putfield 39, 3) := by decide +kernel
theorem dX9_init_79 : decode cX9_init 79 = .ok (.aload_n 0, 1) := by decide +kernel
theorem dX9_init_80 : decode cX9_init 80 = .ok (.bipush 40, 2) := by decide +kernel
theorem dX9_init_82 : decode cX9_init 82 = .ok (.newarray .int, 2) := by decide +kernel
theorem dX9_init_84 : decode cX9_init 84 = .ok (.putfield 42, 3) := by decide +kernel
theorem dX9_init_87 : decode cX9_init 87 = .ok (.aload_n 0, 1) := by decide +kernel
theorem dX9_init_88 : decode cX9_init 88 = .ok (.bipush 40, 2) := by decide +kernel
theorem dX9_init_90 : decode cX9_init 90 = .ok (.newarray .boolean, 2) := by decide +kernel
theorem dX9_init_92 : decode cX9_init 92 = .ok (.putfield 45, 3) := by decide +kernel
theorem dX9_init_95 : decode cX9_init 95 = .ok (.aload_n 0, 1) := by decide +kernel
theorem dX9_init_96 : decode cX9_init 96 = .ok (.bipush 96, 2) := by decide +kernel
theorem dX9_init_98 : decode cX9_init 98 = .ok (.newarray .int, 2) := by decide +kernel
theorem dX9_init_100 : decode cX9_init 100 = .ok (.putfield 48, 3) := by decide +kernel
theorem dX9_init_103 : decode cX9_init 103 = .ok (.aload_n 0, 1) := by decide +kernel
theorem dX9_init_104 : decode cX9_init 104 = .ok (.bipush 24, 2) := by decide +kernel
theorem dX9_init_106 : decode cX9_init 106 = .ok (.newarray .int, 2) := by decide +kernel
theorem dX9_init_108 : decode cX9_init 108 = .ok (.putfield 51, 3) := by decide +kernel
theorem dX9_init_111 : decode cX9_init 111 = .ok (.aload_n 0, 1) := by decide +kernel
theorem dX9_init_112 : decode cX9_init 112 = .ok (.sipush 729, 3) := by decide +kernel
theorem dX9_init_115 : decode cX9_init 115 = .ok (.newarray .int, 2) := by decide +kernel
theorem dX9_init_117 : decode cX9_init 117 = .ok (.putfield 54, 3) := by decide +kernel
theorem dX9_init_120 : decode cX9_init 120 = .ok (.aload_n 0, 1) := by decide +kernel
theorem dX9_init_121 : decode cX9_init 121 = .ok (.bipush 6, 2) := by decide +kernel
theorem dX9_init_123 : decode cX9_init 123 = .ok (.newarray .int, 2) := by decide +kernel
theorem dX9_init_125 : decode cX9_init 125 = .ok (.putfield 57, 3) := by decide +kernel
theorem dX9_init_128 : decode cX9_init 128 = .ok (.aload_n 0, 1) := by decide +kernel
theorem dX9_init_129 : decode cX9_init 129 = .ok (.bipush 40, 2) := by decide +kernel
theorem dX9_init_131 : decode cX9_init 131 = .ok (.newarray .int, 2) := by decide +kernel
theorem dX9_init_133 : decode cX9_init 133 = .ok (.putfield 60, 3) := by decide +kernel
theorem dX9_init_136 : decode cX9_init 136 = .ok (.aload_n 0, 1) := by decide +kernel
theorem dX9_init_137 : decode cX9_init 137 = .ok (.bipush 8, 2) := by decide +kernel
theorem dX9_init_139 : decode cX9_init 139 = .ok (.newarray .int, 2) := by decide +kernel
theorem dX9_init_141 : decode cX9_init 141 = .ok (.putfield 63, 3) := by decide +kernel
theorem dX9_init_144 : decode cX9_init 144 = .ok (.aload_n 0, 1) := by decide +kernel
theorem dX9_init_145 : decode cX9_init 145 = .ok (.sipush 1089, 3) := by decide +kernel
theorem dX9_init_148 : decode cX9_init 148 = .ok (.newarray .boolean, 2) := by decide +kernel
theorem dX9_init_150 : decode cX9_init 150 = .ok (.putfield 66, 3) := by decide +kernel
theorem dX9_init_153 : decode cX9_init 153 = .ok (.aload_n 0, 1) := by decide +kernel
theorem dX9_init_154 : decode cX9_init 154 = .ok (.sipush 1089, 3) := by decide +kernel
theorem dX9_init_157 : decode cX9_init 157 = .ok (.newarray .boolean, 2) := by decide +kernel
theorem dX9_init_159 : decode cX9_init 159 = .ok (.putfield 69, 3) := by decide +kernel
theorem dX9_init_162 : decode cX9_init 162 = .ok (.aload_n 0, 1) := by decide +kernel
theorem dX9_init_163 : decode cX9_init 163 = .ok (.bipush 8, 2) := by decide +kernel
theorem dX9_init_165 : decode cX9_init 165 = .ok (.newarray .int, 2) := by decide +kernel
theorem dX9_init_167 : decode cX9_init 167 = .ok (.putfield 72, 3) := by decide +kernel
theorem dX9_init_170 : decode cX9_init 170 = .ok (.aload_n 0, 1) := by decide +kernel
theorem dX9_init_171 : decode cX9_init 171 = .ok (.bipush 8, 2) := by decide +kernel
theorem dX9_init_173 : decode cX9_init 173 = .ok (.newarray .int, 2) := by decide +kernel
theorem dX9_init_175 : decode cX9_init 175 = .ok (.putfield 75, 3) := by decide +kernel
theorem dX9_init_178 : decode cX9_init 178 = .ok (.aload_n 0, 1) := by decide +kernel
theorem dX9_init_179 : decode cX9_init 179 = .ok (.bipush 40, 2) := by decide +kernel
theorem dX9_init_181 : decode cX9_init 181 = .ok (.newarray .int, 2) := by decide +kernel
theorem dX9_init_183 : decode cX9_init 183 = .ok (.putfield 78, 3) := by decide +kernel
theorem dX9_init_186 : decode cX9_init 186 = .ok (.aload_n 0, 1) := by decide +kernel
theorem dX9_init_187 : decode cX9_init 187 = .ok (.sipush 400, 3) := by decide +kernel
theorem dX9_init_190 : decode cX9_init 190 = .ok (.newarray .int, 2) := by decide +kernel
theorem dX9_init_192 : decode cX9_init 192 = .ok (.putfield 81, 3) := by decide +kernel
theorem dX9_init_195 : decode cX9_init 195 = .ok (.aload_n 0, 1) := by decide +kernel
theorem dX9_init_196 : decode cX9_init 196 = .ok (.iconst 2, 1) := by decide +kernel
theorem dX9_init_197 : decode cX9_init 197 = .ok (.newarray .boolean, 2) := by decide +kernel
theorem dX9_init_199 : decode cX9_init 199 = .ok (.putfield 84, 3) := by decide +kernel
theorem dX9_init_202 : decode cX9_init 202 = .ok (.iconst 0, 1) := by decide +kernel
theorem dX9_init_203 : decode cX9_init 203 = .ok (.istore_n 1, 1) := by decide +kernel
theorem dX9_init_204 : decode cX9_init 204 = .ok (.iload_n 1, 1) := by decide +kernel
theorem dX9_init_205 : decode cX9_init 205 = .ok (.bipush 16, 2) := by decide +kernel
theorem dX9_init_207 : decode cX9_init 207 = .ok (.if_icmp .ge 16, 3) := by decide +kernel
theorem dX9_init_210 : decode cX9_init 210 = .ok (.aload_n 0, 1) := by decide +kernel
theorem dX9_init_211 : decode cX9_init 211 = .ok (.getfield 23, 3) := by decide +kernel
theorem dX9_init_214 : decode cX9_init 214 = .ok (.iload_n 1, 1) := by decide +kernel
theorem dX9_init_215 : decode cX9_init 215 = .ok (.iconst 1, 1) := by decide +kernel
theorem dX9_init_216 : decode cX9_init 216 = .ok (.iastore, 1) := by decide +kernel
theorem dX9_init_217 : decode cX9_init 217 = .ok (.iinc 1 1, 3) := by decide +kernel
theorem dX9_init_220 : decode cX9_init 220 = .ok (.goto (-16), 3) := by decide +kernel
theorem dX9_init_223 : decode cX9_init 223 = .ok (.return_, 1) := by decide +kernel
theorem dX9_in_0 : decode cX9_in 0 = .ok (.lload_n 0, 1) := by decide +kernel
theorem dX9_in_1 : decode cX9_in 1 = .ok (.lload_n 2, 1) := by decide +kernel
theorem dX9_in_2 : decode cX9_in 2 = .ok (.lcmp, 1) := by decide +kernel
theorem dX9_in_3 : decode cX9_in 3 = .ok (.ifCond .lt 14, 3) := by decide +kernel
theorem dX9_in_6 : decode cX9_in 6 = .ok (.lload_n 0, 1) := by decide +kernel
theorem dX9_in_7 : decode cX9_in 7 = .ok (.lload 4, 2) := by decide +kernel
theorem dX9_in_9 : decode cX9_in 9 = .ok (.lcmp, 1) := by decide +kernel
theorem dX9_in_10 : decode cX9_in 10 = .ok (.ifCond .gt 7, 3) := by decide +kernel
theorem dX9_in_13 : decode cX9_in 13 = .ok (.iconst 1, 1) := by decide +kernel
theorem dX9_in_14 : decode cX9_in 14 = .ok (.goto 4, 3) := by decide +kernel
theorem dX9_in_17 : decode cX9_in 17 = .ok (.iconst 0, 1) := by decide +kernel
theorem dX9_in_18 : decode cX9_in 18 = .ok (.ireturn, 1) := by decide +kernel
theorem dX9_has_0 : decode cX9_has 0 = .ok (.iload_n 0, 1) := by decide +kernel
theorem dX9_has_1 : decode cX9_has 1 = .ok (.iload_n 1, 1) := by decide +kernel
theorem dX9_has_2 : decode cX9_has 2 = .ok (.ishr, 1) := by decide +kernel
theorem dX9_has_3 : decode cX9_has 3 = .ok (.iconst 1, 1) := by decide +kernel
theorem dX9_has_4 : decode cX9_has 4 = .ok (.iand, 1) := by decide +kernel
theorem dX9_has_5 : decode cX9_has 5 = .ok (.iconst 1, 1) := by decide +kernel
theorem dX9_has_6 : decode cX9_has 6 = .ok (.if_icmp .ne 7, 3) := by decide +kernel
theorem dX9_has_9 : decode cX9_has 9 = .ok (.iconst 1, 1) := by decide +kernel
theorem dX9_has_10 : decode cX9_has 10 = .ok (.goto 4, 3) := by decide +kernel
theorem dX9_has_13 : decode cX9_has 13 = .ok (.iconst 0, 1) := by decide +kernel
theorem dX9_has_14 : decode cX9_has 14 = .ok (.ireturn, 1) := by decide +kernel
theorem dX9_size_0 : decode cX9_size 0 = .ok (.iload_n 0, 1) := by decide +kernel
theorem dX9_size_1 : decode cX9_size 1 = .ok (.ifCond .ge 8, 3) := by decide +kernel
theorem dX9_size_4 : decode cX9_size 4 = .ok (.iload_n 0, 1) := by decide +kernel
theorem dX9_size_5 : decode cX9_size 5 = .ok (.ineg, 1) := by decide +kernel
theorem dX9_size_6 : decode cX9_size 6 = .ok (.goto 4, 3) := by decide +kernel
theorem dX9_size_9 : decode cX9_size 9 = .ok (.iload_n 0, 1) := by decide +kernel
theorem dX9_size_10 : decode cX9_size 10 = .ok (.ireturn, 1) := by decide +kernel
theorem dX9_isSinger_0 : decode cX9_isSinger 0 = .ok (.iload_n 1, 1) := by decide +kernel
theorem dX9_isSinger_1 : decode cX9_isSinger 1 = .ok (.i2l, 1) := by decide +kernel
theorem dX9_isSinger_2 : decode cX9_isSinger 2 = .ok (.lconst 0, 1) := by decide +kernel
theorem dX9_isSinger_3 : decode cX9_isSinger 3 = .ok (.aload_n 0, 1) := by decide +kernel
theorem dX9_isSinger_4 : decode cX9_isSinger 4 = .ok (.getfield 87, 3) := by decide +kernel
theorem dX9_isSinger_7 : decode cX9_isSinger 7 = .ok (.iconst 1, 1) := by decide +kernel
theorem dX9_isSinger_8 : decode cX9_isSinger 8 = .ok (.isub, 1) := by decide +kernel
theorem dX9_isSinger_9 : decode cX9_isSinger 9 = .ok (.i2l, 1) := by decide +kernel
theorem dX9_isSinger_10 : decode cX9_isSinger 10 = .ok (.invokestatic 90, 3) := by decide +kernel
theorem dX9_isSinger_13 : decode cX9_isSinger 13 = .ok (.ireturn, 1) := by decide +kernel
theorem dX9_isTask_0 : decode cX9_isTask 0 = .ok (.iload_n 1, 1) := by decide +kernel
theorem dX9_isTask_1 : decode cX9_isTask 1 = .ok (.i2l, 1) := by decide +kernel
theorem dX9_isTask_2 : decode cX9_isTask 2 = .ok (.lconst 0, 1) := by decide +kernel
theorem dX9_isTask_3 : decode cX9_isTask 3 = .ok (.aload_n 0, 1) := by decide +kernel
theorem dX9_isTask_4 : decode cX9_isTask 4 = .ok (.getfield 94, 3) := by decide +kernel
theorem dX9_isTask_7 : decode cX9_isTask 7 = .ok (.iconst 1, 1) := by decide +kernel
theorem dX9_isTask_8 : decode cX9_isTask 8 = .ok (.isub, 1) := by decide +kernel
theorem dX9_isTask_9 : decode cX9_isTask 9 = .ok (.i2l, 1) := by decide +kernel
theorem dX9_isTask_10 : decode cX9_isTask 10 = .ok (.invokestatic 90, 3) := by decide +kernel
theorem dX9_isTask_13 : decode cX9_isTask 13 = .ok (.ireturn, 1) := by decide +kernel
theorem dX9_feed_0 : decode cX9_feed 0 = .ok (.iload_n 1, 1) := by decide +kernel
theorem dX9_feed_1 : decode cX9_feed 1 = .ok (.i2l, 1) := by decide +kernel
theorem dX9_feed_2 : decode cX9_feed 2 = .ok (.lconst 1, 1) := by decide +kernel
theorem dX9_feed_3 : decode cX9_feed 3 = .ok (.ldc2_w 97, 3) := by decide +kernel
theorem dX9_feed_6 : decode cX9_feed 6 = .ok (.invokestatic 90, 3) := by decide +kernel
theorem dX9_feed_9 : decode cX9_feed 9 = .ok (.ifCond .ne 6, 3) := by decide +kernel
theorem dX9_feed_12 : decode cX9_feed 12 = .ok (.ldc 99, 2) := by decide +kernel
theorem dX9_feed_14 : decode cX9_feed 14 = .ok (.ireturn, 1) := by decide +kernel
theorem dX9_feed_15 : decode cX9_feed 15 = .ok (.aload_n 0, 1) := by decide +kernel
theorem dX9_feed_16 : decode cX9_feed 16 = .ok (.getfield 100, 3) := by decide +kernel
theorem dX9_feed_19 : decode cX9_feed 19 = .ok (.iload_n 1, 1) := by decide +kernel
theorem dX9_feed_20 : decode cX9_feed 20 = .ok (.iadd, 1) := by decide +kernel
theorem dX9_feed_21 : decode cX9_feed 21 = .ok (.sipush 400, 3) := by decide +kernel
theorem dX9_feed_24 : decode cX9_feed 24 = .ok (.if_icmp .le 6, 3) := by decide +kernel
theorem dX9_feed_27 : decode cX9_feed 27 = .ok (.ldc 103, 2) := by decide +kernel
theorem dX9_feed_29 : decode cX9_feed 29 = .ok (.ireturn, 1) := by decide +kernel
theorem dX9_feed_30 : decode cX9_feed 30 = .ok (.iload_n 1, 1) := by decide +kernel
theorem dX9_feed_31 : decode cX9_feed 31 = .ok (.iconst 1, 1) := by decide +kernel
theorem dX9_feed_32 : decode cX9_feed 32 = .ok (.isub, 1) := by decide +kernel
theorem dX9_feed_33 : decode cX9_feed 33 = .ok (.istore 4, 2) := by decide +kernel
theorem dX9_feed_35 : decode cX9_feed 35 = .ok (.iload 4, 2) := by decide +kernel
theorem dX9_feed_37 : decode cX9_feed 37 = .ok (.ifCond .lt 40, 3) := by decide +kernel
theorem dX9_feed_40 : decode cX9_feed 40 = .ok (.aload_n 0, 1) := by decide +kernel
theorem dX9_feed_41 : decode cX9_feed 41 = .ok (.getfield 36, 3) := by decide +kernel
theorem dX9_feed_44 : decode cX9_feed 44 = .ok (.aload_n 0, 1) := by decide +kernel
theorem dX9_feed_45 : decode cX9_feed 45 = .ok (.getfield 100, 3) := by decide +kernel
theorem dX9_feed_48 : decode cX9_feed 48 = .ok (.lload_n 2, 1) := by decide +kernel
theorem dX9_feed_49 : decode cX9_feed 49 = .ok (.bipush 8, 2) := by decide +kernel
theorem dX9_feed_51 : decode cX9_feed 51 = .ok (.iload 4, 2) := by decide +kernel
theorem dX9_feed_53 : decode cX9_feed 53 = .ok (.imul, 1) := by decide +kernel
theorem dX9_feed_54 : decode cX9_feed 54 = .ok (.lshr, 1) := by decide +kernel
theorem dX9_feed_55 : decode cX9_feed 55 = .ok (.ldc2_w 104, 3) := by decide +kernel
theorem dX9_feed_58 : decode cX9_feed 58 = .ok (.land, 1) := by decide +kernel
theorem dX9_feed_59 : decode cX9_feed 59 = .ok (.l2i, 1) := by decide +kernel
theorem dX9_feed_60 : decode cX9_feed 60 = .ok (.iastore, 1) := by decide +kernel
theorem dX9_feed_61 : decode cX9_feed 61 = .ok (.aload_n 0, 1) := by decide +kernel
theorem dX9_feed_62 : decode cX9_feed 62 = .ok (.dup, 1) := by decide +kernel
theorem dX9_feed_63 : decode cX9_feed 63 = .ok (.getfield 100, 3) := by decide +kernel
theorem dX9_feed_66 : decode cX9_feed 66 = .ok (.iconst 1, 1) := by decide +kernel
theorem dX9_feed_67 : decode cX9_feed 67 = .ok (.iadd, 1) := by decide +kernel
theorem dX9_feed_68 : decode cX9_feed 68 = .ok (.putfield 100, 3) := by decide +kernel
theorem dX9_feed_71 : decode cX9_feed 71 = .ok (.iinc 4 (-1), 3) := by decide +kernel
theorem dX9_feed_74 : decode cX9_feed 74 = .ok (.goto (-39), 3) := by decide +kernel
theorem dX9_feed_77 : decode cX9_feed 77 = .ok (.aload_n 0, 1) := by decide +kernel
theorem dX9_feed_78 : decode cX9_feed 78 = .ok (.getfield 100, 3) := by decide +kernel
theorem dX9_feed_81 : decode cX9_feed 81 = .ok (.ireturn, 1) := by decide +kernel
theorem dX9_here_0 : decode cX9_here 0 = .ok (.aload_n 0, 1) := by decide +kernel
theorem dX9_here_1 : decode cX9_here 1 = .ok (.getfield 106, 3) := by decide +kernel
theorem dX9_here_4 : decode cX9_here 4 = .ok (.aload_n 0, 1) := by decide +kernel
theorem dX9_here_5 : decode cX9_here 5 = .ok (.getfield 100, 3) := by decide +kernel
theorem dX9_here_8 : decode cX9_here 8 = .ok (.if_icmp .ge 30, 3) := by decide +kernel
theorem dX9_here_11 : decode cX9_here 11 = .ok (.aload_n 0, 1) := by decide +kernel
theorem dX9_here_12 : decode cX9_here 12 = .ok (.getfield 36, 3) := by decide +kernel
theorem dX9_here_15 : decode cX9_here 15 = .ok (.aload_n 0, 1) := by decide +kernel
theorem dX9_here_16 : decode cX9_here 16 = .ok (.getfield 106, 3) := by decide +kernel
theorem dX9_here_19 : decode cX9_here 19 = .ok (.iaload, 1) := by decide +kernel
theorem dX9_here_20 : decode cX9_here 20 = .ok (.bipush 32, 2) := by decide +kernel
theorem dX9_here_22 : decode cX9_here 22 = .ok (.if_icmp .ne 16, 3) := by decide +kernel
theorem dX9_here_25 : decode cX9_here 25 = .ok (.aload_n 0, 1) := by decide +kernel
theorem dX9_here_26 : decode cX9_here 26 = .ok (.dup, 1) := by decide +kernel
theorem dX9_here_27 : decode cX9_here 27 = .ok (.getfield 106, 3) := by decide +kernel
theorem dX9_here_30 : decode cX9_here 30 = .ok (.iconst 1, 1) := by decide +kernel
theorem dX9_here_31 : decode cX9_here 31 = .ok (.iadd, 1) := by decide +kernel
theorem dX9_here_32 : decode cX9_here 32 = .ok (.putfield 106, 3) := by decide +kernel
theorem dX9_here_35 : decode cX9_here 35 = .ok (.goto (-35), 3) := by decide +kernel
theorem dX9_here_38 : decode cX9_here 38 = .ok (.aload_n 0, 1) := by decide +kernel
theorem dX9_here_39 : decode cX9_here 39 = .ok (.getfield 106, 3) := by decide +kernel
theorem dX9_here_42 : decode cX9_here 42 = .ok (.aload_n 0, 1) := by decide +kernel
theorem dX9_here_43 : decode cX9_here 43 = .ok (.getfield 100, 3) := by decide +kernel
theorem dX9_here_46 : decode cX9_here 46 = .ok (.if_icmp .ge 15, 3) := by decide +kernel
theorem dX9_here_49 : decode cX9_here 49 = .ok (.aload_n 0, 1) := by decide +kernel
theorem dX9_here_50 : decode cX9_here 50 = .ok (.getfield 36, 3) := by decide +kernel
theorem dX9_here_53 : decode cX9_here 53 = .ok (.aload_n 0, 1) := by decide +kernel
theorem dX9_here_54 : decode cX9_here 54 = .ok (.getfield 106, 3) := by decide +kernel
theorem dX9_here_57 : decode cX9_here 57 = .ok (.iaload, 1) := by decide +kernel
theorem dX9_here_58 : decode cX9_here 58 = .ok (.goto 4, 3) := by decide +kernel
theorem dX9_here_61 : decode cX9_here 61 = .ok (.iconst (-1), 1) := by decide +kernel
theorem dX9_here_62 : decode cX9_here 62 = .ok (.ireturn, 1) := by decide +kernel
theorem dX9_fails_0 : decode cX9_fails 0 = .ok (.aload_n 0, 1) := by decide +kernel
theorem dX9_fails_1 : decode cX9_fails 1 = .ok (.iload_n 2, 1) := by decide +kernel
theorem dX9_fails_2 : decode cX9_fails 2 = .ok (.putfield 39, 3) := by decide +kernel
theorem dX9_fails_5 : decode cX9_fails 5 = .ok (.iload_n 1, 1) := by decide +kernel
theorem dX9_fails_6 : decode cX9_fails 6 = .ok (.ireturn, 1) := by decide +kernel
theorem dX9_readWord_0 : decode cX9_readWord 0 = .ok (.aload_n 0, 1) := by decide +kernel
theorem dX9_readWord_1 : decode cX9_readWord 1 = .ok (.invokevirtual 109, 3) := by decide +kernel
theorem dX9_readWord_4 : decode cX9_readWord 4 = .ok (.istore_n 1, 1) := by decide +kernel
theorem dX9_readWord_5 : decode cX9_readWord 5 = .ok (.aload_n 0, 1) := by decide +kernel
theorem dX9_readWord_6 : decode cX9_readWord 6 = .ok (.lconst 0, 1) := by decide +kernel
theorem dX9_readWord_7 : decode cX9_readWord 7 = .ok (.putfield 113, 3) := by decide +kernel
theorem dX9_readWord_10 : decode cX9_readWord 10 = .ok (.aload_n 0, 1) := by decide +kernel
theorem dX9_readWord_11 : decode cX9_readWord 11 = .ok (.aload_n 0, 1) := by decide +kernel
theorem dX9_readWord_12 : decode cX9_readWord 12 = .ok (.getfield 106, 3) := by decide +kernel
theorem dX9_readWord_15 : decode cX9_readWord 15 = .ok (.putfield 117, 3) := by decide +kernel
theorem dX9_readWord_18 : decode cX9_readWord 18 = .ok (.aload_n 0, 1) := by decide +kernel
theorem dX9_readWord_19 : decode cX9_readWord 19 = .ok (.getfield 117, 3) := by decide +kernel
theorem dX9_readWord_22 : decode cX9_readWord 22 = .ok (.aload_n 0, 1) := by decide +kernel
theorem dX9_readWord_23 : decode cX9_readWord 23 = .ok (.getfield 100, 3) := by decide +kernel
theorem dX9_readWord_26 : decode cX9_readWord 26 = .ok (.if_icmp .ge 82, 3) := by decide +kernel
theorem dX9_readWord_29 : decode cX9_readWord 29 = .ok (.aload_n 0, 1) := by decide +kernel
theorem dX9_readWord_30 : decode cX9_readWord 30 = .ok (.getfield 36, 3) := by decide +kernel
theorem dX9_readWord_33 : decode cX9_readWord 33 = .ok (.aload_n 0, 1) := by decide +kernel
theorem dX9_readWord_34 : decode cX9_readWord 34 = .ok (.getfield 117, 3) := by decide +kernel
theorem dX9_readWord_37 : decode cX9_readWord 37 = .ok (.iaload, 1) := by decide +kernel
theorem dX9_readWord_38 : decode cX9_readWord 38 = .ok (.i2l, 1) := by decide +kernel
theorem dX9_readWord_39 : decode cX9_readWord 39 = .ok (.ldc2_w 120, 3) := by decide +kernel
theorem dX9_readWord_42 : decode cX9_readWord 42 = .ok (.ldc2_w 122, 3) := by decide +kernel
theorem dX9_readWord_45 : decode cX9_readWord 45 = .ok (.invokestatic 90, 3) := by decide +kernel
theorem dX9_readWord_48 : decode cX9_readWord 48 = .ok (.ifCond .eq 60, 3) := by decide +kernel
theorem dX9_readWord_51 : decode cX9_readWord 51 = .ok (.aload_n 0, 1) := by decide +kernel
theorem dX9_readWord_52 : decode cX9_readWord 52 = .ok (.aload_n 0, 1) := by decide +kernel
theorem dX9_readWord_53 : decode cX9_readWord 53 = .ok (.getfield 113, 3) := by decide +kernel
theorem dX9_readWord_56 : decode cX9_readWord 56 = .ok (.ldc2_w 124, 3) := by decide +kernel
theorem dX9_readWord_59 : decode cX9_readWord 59 = .ok (.lcmp, 1) := by decide +kernel
theorem dX9_readWord_60 : decode cX9_readWord 60 = .ok (.ifCond .le 9, 3) := by decide +kernel
theorem dX9_readWord_63 : decode cX9_readWord 63 = .ok (.ldc2_w 126, 3) := by decide +kernel
theorem dX9_readWord_66 : decode cX9_readWord 66 = .ok (.goto 26, 3) := by decide +kernel
theorem dX9_readWord_69 : decode cX9_readWord 69 = .ok (.ldc2_w 128, 3) := by decide +kernel
theorem dX9_readWord_72 : decode cX9_readWord 72 = .ok (.aload_n 0, 1) := by decide +kernel
theorem dX9_readWord_73 : decode cX9_readWord 73 = .ok (.getfield 113, 3) := by decide +kernel
theorem dX9_readWord_76 : decode cX9_readWord 76 = .ok (.lmul, 1) := by decide +kernel
theorem dX9_readWord_77 : decode cX9_readWord 77 = .ok (.aload_n 0, 1) := by decide +kernel
theorem dX9_readWord_78 : decode cX9_readWord 78 = .ok (.getfield 36, 3) := by decide +kernel
theorem dX9_readWord_81 : decode cX9_readWord 81 = .ok (.aload_n 0, 1) := by decide +kernel
theorem dX9_readWord_82 : decode cX9_readWord 82 = .ok (.getfield 117, 3) := by decide +kernel
theorem dX9_readWord_85 : decode cX9_readWord 85 = .ok (.iaload, 1) := by decide +kernel
theorem dX9_readWord_86 : decode cX9_readWord 86 = .ok (.i2l, 1) := by decide +kernel
theorem dX9_readWord_87 : decode cX9_readWord 87 = .ok (.ladd, 1) := by decide +kernel
theorem dX9_readWord_88 : decode cX9_readWord 88 = .ok (.ldc2_w 130, 3) := by decide +kernel
theorem dX9_readWord_91 : decode cX9_readWord 91 = .ok (.lsub, 1) := by decide +kernel
theorem dX9_readWord_92 : decode cX9_readWord 92 = .ok (.putfield 113, 3) := by decide +kernel
theorem dX9_readWord_95 : decode cX9_readWord 95 = .ok (.aload_n 0, 1) := by decide +kernel
theorem dX9_readWord_96 : decode cX9_readWord 96 = .ok (.dup, 1) := by decide +kernel
theorem dX9_readWord_97 : decode cX9_readWord 97 = .ok (.getfield 117, 3) := by decide +kernel
theorem dX9_readWord_100 : decode cX9_readWord 100 = .ok (.iconst 1, 1) := by decide +kernel
theorem dX9_readWord_101 : decode cX9_readWord 101 = .ok (.iadd, 1) := by decide +kernel
theorem dX9_readWord_102 : decode cX9_readWord 102 = .ok (.putfield 117, 3) := by decide +kernel
theorem dX9_readWord_105 : decode cX9_readWord 105 = .ok (.goto (-87), 3) := by decide +kernel
theorem dX9_readWord_108 : decode cX9_readWord 108 = .ok (.return_, 1) := by decide +kernel
theorem dX9_code_0 : decode cX9_code 0 = .ok (.ldc2_w 128, 3) := by decide +kernel
theorem dX9_code_3 : decode cX9_code 3 = .ok (.ldc2_w 128, 3) := by decide +kernel
theorem dX9_code_6 : decode cX9_code 6 = .ok (.ldc2_w 128, 3) := by decide +kernel
theorem dX9_code_9 : decode cX9_code 9 = .ok (.iload_n 0, 1) := by decide +kernel
theorem dX9_code_10 : decode cX9_code 10 = .ok (.i2l, 1) := by decide +kernel
theorem dX9_code_11 : decode cX9_code 11 = .ok (.ldc2_w 130, 3) := by decide +kernel
theorem dX9_code_14 : decode cX9_code 14 = .ok (.lsub, 1) := by decide +kernel
theorem dX9_code_15 : decode cX9_code 15 = .ok (.lmul, 1) := by decide +kernel
theorem dX9_code_16 : decode cX9_code 16 = .ok (.iload_n 1, 1) := by decide +kernel
theorem dX9_code_17 : decode cX9_code 17 = .ok (.i2l, 1) := by decide +kernel
theorem dX9_code_18 : decode cX9_code 18 = .ok (.ladd, 1) := by decide +kernel
theorem dX9_code_19 : decode cX9_code 19 = .ok (.ldc2_w 130, 3) := by decide +kernel
theorem dX9_code_22 : decode cX9_code 22 = .ok (.lsub, 1) := by decide +kernel
theorem dX9_code_23 : decode cX9_code 23 = .ok (.lmul, 1) := by decide +kernel
theorem dX9_code_24 : decode cX9_code 24 = .ok (.iload_n 2, 1) := by decide +kernel
theorem dX9_code_25 : decode cX9_code 25 = .ok (.i2l, 1) := by decide +kernel
theorem dX9_code_26 : decode cX9_code 26 = .ok (.ladd, 1) := by decide +kernel
theorem dX9_code_27 : decode cX9_code 27 = .ok (.ldc2_w 130, 3) := by decide +kernel
theorem dX9_code_30 : decode cX9_code 30 = .ok (.lsub, 1) := by decide +kernel
theorem dX9_code_31 : decode cX9_code 31 = .ok (.lmul, 1) := by decide +kernel
theorem dX9_code_32 : decode cX9_code 32 = .ok (.iload_n 3, 1) := by decide +kernel
theorem dX9_code_33 : decode cX9_code 33 = .ok (.i2l, 1) := by decide +kernel
theorem dX9_code_34 : decode cX9_code 34 = .ok (.ladd, 1) := by decide +kernel
theorem dX9_code_35 : decode cX9_code 35 = .ok (.ldc2_w 130, 3) := by decide +kernel
theorem dX9_code_38 : decode cX9_code 38 = .ok (.lsub, 1) := by decide +kernel
theorem dX9_code_39 : decode cX9_code 39 = .ok (.lreturn, 1) := by decide +kernel
theorem dX9_longer_0 : decode cX9_longer 0 = .ok (.ldc2_w 128, 3) := by decide +kernel
theorem dX9_longer_3 : decode cX9_longer 3 = .ok (.lload_n 0, 1) := by decide +kernel
theorem dX9_longer_4 : decode cX9_longer 4 = .ok (.lmul, 1) := by decide +kernel
theorem dX9_longer_5 : decode cX9_longer 5 = .ok (.iload_n 2, 1) := by decide +kernel
theorem dX9_longer_6 : decode cX9_longer 6 = .ok (.i2l, 1) := by decide +kernel
theorem dX9_longer_7 : decode cX9_longer 7 = .ok (.ladd, 1) := by decide +kernel
theorem dX9_longer_8 : decode cX9_longer 8 = .ok (.ldc2_w 130, 3) := by decide +kernel
theorem dX9_longer_11 : decode cX9_longer 11 = .ok (.lsub, 1) := by decide +kernel
theorem dX9_longer_12 : decode cX9_longer 12 = .ok (.lreturn, 1) := by decide +kernel
theorem dX9_takeNumber_0 : decode cX9_takeNumber 0 = .ok (.aload_n 0, 1) := by decide +kernel
theorem dX9_takeNumber_1 : decode cX9_takeNumber 1 = .ok (.invokevirtual 109, 3) := by decide +kernel
theorem dX9_takeNumber_4 : decode cX9_takeNumber 4 = .ok (.istore_n 3, 1) := by decide +kernel
theorem dX9_takeNumber_5 : decode cX9_takeNumber 5 = .ok (.iload_n 3, 1) := by decide +kernel
theorem dX9_takeNumber_6 : decode cX9_takeNumber 6 = .ok (.i2l, 1) := by decide +kernel
theorem dX9_takeNumber_7 : decode cX9_takeNumber 7 = .ok (.ldc2_w 132, 3) := by decide +kernel
theorem dX9_takeNumber_10 : decode cX9_takeNumber 10 = .ok (.ldc2_w 134, 3) := by decide +kernel
theorem dX9_takeNumber_13 : decode cX9_takeNumber 13 = .ok (.invokestatic 90, 3) := by decide +kernel
theorem dX9_takeNumber_16 : decode cX9_takeNumber 16 = .ok (.ifCond .ne 13, 3) := by decide +kernel
theorem dX9_takeNumber_19 : decode cX9_takeNumber 19 = .ok (.aload_n 0, 1) := by decide +kernel
theorem dX9_takeNumber_20 : decode cX9_takeNumber 20 = .ok (.iconst 1, 1) := by decide +kernel
theorem dX9_takeNumber_21 : decode cX9_takeNumber 21 = .ok (.aload_n 0, 1) := by decide +kernel
theorem dX9_takeNumber_22 : decode cX9_takeNumber 22 = .ok (.getfield 106, 3) := by decide +kernel
theorem dX9_takeNumber_25 : decode cX9_takeNumber 25 = .ok (.invokevirtual 136, 3) := by decide +kernel
theorem dX9_takeNumber_28 : decode cX9_takeNumber 28 = .ok (.ireturn, 1) := by decide +kernel
theorem dX9_takeNumber_29 : decode cX9_takeNumber 29 = .ok (.aload_n 0, 1) := by decide +kernel
theorem dX9_takeNumber_30 : decode cX9_takeNumber 30 = .ok (.aload_n 0, 1) := by decide +kernel
theorem dX9_takeNumber_31 : decode cX9_takeNumber 31 = .ok (.getfield 106, 3) := by decide +kernel
theorem dX9_takeNumber_34 : decode cX9_takeNumber 34 = .ok (.putfield 140, 3) := by decide +kernel
theorem dX9_takeNumber_37 : decode cX9_takeNumber 37 = .ok (.aload_n 0, 1) := by decide +kernel
theorem dX9_takeNumber_38 : decode cX9_takeNumber 38 = .ok (.iconst 0, 1) := by decide +kernel
theorem dX9_takeNumber_39 : decode cX9_takeNumber 39 = .ok (.putfield 143, 3) := by decide +kernel
theorem dX9_takeNumber_42 : decode cX9_takeNumber 42 = .ok (.aload_n 0, 1) := by decide +kernel
theorem dX9_takeNumber_43 : decode cX9_takeNumber 43 = .ok (.getfield 106, 3) := by decide +kernel
theorem dX9_takeNumber_46 : decode cX9_takeNumber 46 = .ok (.aload_n 0, 1) := by decide +kernel
theorem dX9_takeNumber_47 : decode cX9_takeNumber 47 = .ok (.getfield 100, 3) := by decide +kernel
theorem dX9_takeNumber_50 : decode cX9_takeNumber 50 = .ok (.if_icmp .ge 79, 3) := by decide +kernel
theorem dX9_takeNumber_53 : decode cX9_takeNumber 53 = .ok (.aload_n 0, 1) := by decide +kernel
theorem dX9_takeNumber_54 : decode cX9_takeNumber 54 = .ok (.getfield 36, 3) := by decide +kernel
theorem dX9_takeNumber_57 : decode cX9_takeNumber 57 = .ok (.aload_n 0, 1) := by decide +kernel
theorem dX9_takeNumber_58 : decode cX9_takeNumber 58 = .ok (.getfield 106, 3) := by decide +kernel
theorem dX9_takeNumber_61 : decode cX9_takeNumber 61 = .ok (.iaload, 1) := by decide +kernel
theorem dX9_takeNumber_62 : decode cX9_takeNumber 62 = .ok (.i2l, 1) := by decide +kernel
theorem dX9_takeNumber_63 : decode cX9_takeNumber 63 = .ok (.ldc2_w 132, 3) := by decide +kernel
theorem dX9_takeNumber_66 : decode cX9_takeNumber 66 = .ok (.ldc2_w 134, 3) := by decide +kernel
theorem dX9_takeNumber_69 : decode cX9_takeNumber 69 = .ok (.invokestatic 90, 3) := by decide +kernel
theorem dX9_takeNumber_72 : decode cX9_takeNumber 72 = .ok (.ifCond .eq 57, 3) := by decide +kernel
theorem dX9_takeNumber_75 : decode cX9_takeNumber 75 = .ok (.aload_n 0, 1) := by decide +kernel
theorem dX9_takeNumber_76 : decode cX9_takeNumber 76 = .ok (.aload_n 0, 1) := by decide +kernel
theorem dX9_takeNumber_77 : decode cX9_takeNumber 77 = .ok (.getfield 143, 3) := by decide +kernel
theorem dX9_takeNumber_80 : decode cX9_takeNumber 80 = .ok (.sipush 10000, 3) := by decide +kernel
theorem dX9_takeNumber_83 : decode cX9_takeNumber 83 = .ok (.if_icmp .le 10, 3) := by decide +kernel
theorem dX9_takeNumber_86 : decode cX9_takeNumber 86 = .ok (.aload_n 0, 1) := by decide +kernel
theorem dX9_takeNumber_87 : decode cX9_takeNumber 87 = .ok (.getfield 143, 3) := by decide +kernel
theorem dX9_takeNumber_90 : decode cX9_takeNumber 90 = .ok (.goto 23, 3) := by decide +kernel
theorem dX9_takeNumber_93 : decode cX9_takeNumber 93 = .ok (.bipush 10, 2) := by decide +kernel
theorem dX9_takeNumber_95 : decode cX9_takeNumber 95 = .ok (.aload_n 0, 1) := by decide +kernel
theorem dX9_takeNumber_96 : decode cX9_takeNumber 96 = .ok (.getfield 143, 3) := by decide +kernel
theorem dX9_takeNumber_99 : decode cX9_takeNumber 99 = .ok (.imul, 1) := by decide +kernel
theorem dX9_takeNumber_100 : decode cX9_takeNumber 100 = .ok (.aload_n 0, 1) := by decide +kernel
theorem dX9_takeNumber_101 : decode cX9_takeNumber 101 = .ok (.getfield 36, 3) := by decide +kernel
theorem dX9_takeNumber_104 : decode cX9_takeNumber 104 = .ok (.aload_n 0, 1) := by decide +kernel
theorem dX9_takeNumber_105 : decode cX9_takeNumber 105 = .ok (.getfield 106, 3) := by decide +kernel
theorem dX9_takeNumber_108 : decode cX9_takeNumber 108 = .ok (.iaload, 1) := by decide +kernel
theorem dX9_takeNumber_109 : decode cX9_takeNumber 109 = .ok (.iadd, 1) := by decide +kernel
theorem dX9_takeNumber_110 : decode cX9_takeNumber 110 = .ok (.bipush 48, 2) := by decide +kernel
theorem dX9_takeNumber_112 : decode cX9_takeNumber 112 = .ok (.isub, 1) := by decide +kernel
theorem dX9_takeNumber_113 : decode cX9_takeNumber 113 = .ok (.putfield 143, 3) := by decide +kernel
theorem dX9_takeNumber_116 : decode cX9_takeNumber 116 = .ok (.aload_n 0, 1) := by decide +kernel
theorem dX9_takeNumber_117 : decode cX9_takeNumber 117 = .ok (.dup, 1) := by decide +kernel
theorem dX9_takeNumber_118 : decode cX9_takeNumber 118 = .ok (.getfield 106, 3) := by decide +kernel
theorem dX9_takeNumber_121 : decode cX9_takeNumber 121 = .ok (.iconst 1, 1) := by decide +kernel
theorem dX9_takeNumber_122 : decode cX9_takeNumber 122 = .ok (.iadd, 1) := by decide +kernel
theorem dX9_takeNumber_123 : decode cX9_takeNumber 123 = .ok (.putfield 106, 3) := by decide +kernel
theorem dX9_takeNumber_126 : decode cX9_takeNumber 126 = .ok (.goto (-84), 3) := by decide +kernel
theorem dX9_takeNumber_129 : decode cX9_takeNumber 129 = .ok (.aload_n 0, 1) := by decide +kernel
theorem dX9_takeNumber_130 : decode cX9_takeNumber 130 = .ok (.getfield 106, 3) := by decide +kernel
theorem dX9_takeNumber_133 : decode cX9_takeNumber 133 = .ok (.aload_n 0, 1) := by decide +kernel
theorem dX9_takeNumber_134 : decode cX9_takeNumber 134 = .ok (.getfield 140, 3) := by decide +kernel
theorem dX9_takeNumber_137 : decode cX9_takeNumber 137 = .ok (.isub, 1) := by decide +kernel
theorem dX9_takeNumber_138 : decode cX9_takeNumber 138 = .ok (.iconst 3, 1) := by decide +kernel
theorem dX9_takeNumber_139 : decode cX9_takeNumber 139 = .ok (.if_icmp .gt 18, 3) := by decide +kernel
theorem dX9_takeNumber_142 : decode cX9_takeNumber 142 = .ok (.aload_n 0, 1) := by decide +kernel
theorem dX9_takeNumber_143 : decode cX9_takeNumber 143 = .ok (.getfield 143, 3) := by decide +kernel
theorem dX9_takeNumber_146 : decode cX9_takeNumber 146 = .ok (.i2l, 1) := by decide +kernel
theorem dX9_takeNumber_147 : decode cX9_takeNumber 147 = .ok (.iload_n 1, 1) := by decide +kernel
theorem dX9_takeNumber_148 : decode cX9_takeNumber 148 = .ok (.i2l, 1) := by decide +kernel
theorem dX9_takeNumber_149 : decode cX9_takeNumber 149 = .ok (.iload_n 2, 1) := by decide +kernel
theorem dX9_takeNumber_150 : decode cX9_takeNumber 150 = .ok (.i2l, 1) := by decide +kernel
theorem dX9_takeNumber_151 : decode cX9_takeNumber 151 = .ok (.invokestatic 90, 3) := by decide +kernel
theorem dX9_takeNumber_154 : decode cX9_takeNumber 154 = .ok (.ifCond .ne 15, 3) := by decide +kernel
theorem dX9_takeNumber_157 : decode cX9_takeNumber 157 = .ok (.aload_n 0, 1) := by decide +kernel
theorem dX9_takeNumber_158 : decode cX9_takeNumber 158 = .ok (.iconst 2, 1) := by decide +kernel
theorem dX9_takeNumber_159 : decode cX9_takeNumber 159 = .ok (.aload_n 0, 1) := by decide +kernel
theorem dX9_takeNumber_160 : decode cX9_takeNumber 160 = .ok (.getfield 140, 3) := by decide +kernel
theorem dX9_takeNumber_163 : decode cX9_takeNumber 163 = .ok (.invokevirtual 136, 3) := by decide +kernel
theorem dX9_takeNumber_166 : decode cX9_takeNumber 166 = .ok (.goto 4, 3) := by decide +kernel
theorem dX9_takeNumber_169 : decode cX9_takeNumber 169 = .ok (.iconst 0, 1) := by decide +kernel
theorem dX9_takeNumber_170 : decode cX9_takeNumber 170 = .ok (.ireturn, 1) := by decide +kernel
theorem dX9_takeStop_0 : decode cX9_takeStop 0 = .ok (.aload_n 0, 1) := by decide +kernel
theorem dX9_takeStop_1 : decode cX9_takeStop 1 = .ok (.invokevirtual 109, 3) := by decide +kernel
theorem dX9_takeStop_4 : decode cX9_takeStop 4 = .ok (.bipush 59, 2) := by decide +kernel
theorem dX9_takeStop_6 : decode cX9_takeStop 6 = .ok (.if_icmp .eq 13, 3) := by decide +kernel
theorem dX9_takeStop_9 : decode cX9_takeStop 9 = .ok (.aload_n 0, 1) := by decide +kernel
theorem dX9_takeStop_10 : decode cX9_takeStop 10 = .ok (.iconst 1, 1) := by decide +kernel
theorem dX9_takeStop_11 : decode cX9_takeStop 11 = .ok (.aload_n 0, 1) := by decide +kernel
theorem dX9_takeStop_12 : decode cX9_takeStop 12 = .ok (.getfield 106, 3) := by decide +kernel
theorem dX9_takeStop_15 : decode cX9_takeStop 15 = .ok (.invokevirtual 136, 3) := by decide +kernel
theorem dX9_takeStop_18 : decode cX9_takeStop 18 = .ok (.ireturn, 1) := by decide +kernel
theorem dX9_takeStop_19 : decode cX9_takeStop 19 = .ok (.aload_n 0, 1) := by decide +kernel
theorem dX9_takeStop_20 : decode cX9_takeStop 20 = .ok (.dup, 1) := by decide +kernel
theorem dX9_takeStop_21 : decode cX9_takeStop 21 = .ok (.getfield 106, 3) := by decide +kernel
theorem dX9_takeStop_24 : decode cX9_takeStop 24 = .ok (.iconst 1, 1) := by decide +kernel
theorem dX9_takeStop_25 : decode cX9_takeStop 25 = .ok (.iadd, 1) := by decide +kernel
theorem dX9_takeStop_26 : decode cX9_takeStop 26 = .ok (.putfield 106, 3) := by decide +kernel
theorem dX9_takeStop_29 : decode cX9_takeStop 29 = .ok (.iconst 0, 1) := by decide +kernel
theorem dX9_takeStop_30 : decode cX9_takeStop 30 = .ok (.ireturn, 1) := by decide +kernel
theorem dX9_into_0 : decode cX9_into 0 = .ok (.aload_n 0, 1) := by decide +kernel
theorem dX9_into_1 : decode cX9_into 1 = .ok (.iload_n 3, 1) := by decide +kernel
theorem dX9_into_2 : decode cX9_into 2 = .ok (.iload 4, 2) := by decide +kernel
theorem dX9_into_4 : decode cX9_into 4 = .ok (.invokevirtual 146, 3) := by decide +kernel
theorem dX9_into_7 : decode cX9_into 7 = .ok (.istore 5, 2) := by decide +kernel
theorem dX9_into_9 : decode cX9_into 9 = .ok (.aload_n 1, 1) := by decide +kernel
theorem dX9_into_10 : decode cX9_into 10 = .ok (.iload_n 2, 1) := by decide +kernel
theorem dX9_into_11 : decode cX9_into 11 = .ok (.aload_n 0, 1) := by decide +kernel
theorem dX9_into_12 : decode cX9_into 12 = .ok (.getfield 143, 3) := by decide +kernel
theorem dX9_into_15 : decode cX9_into 15 = .ok (.iastore, 1) := by decide +kernel
theorem dX9_into_16 : decode cX9_into 16 = .ok (.iload 5, 2) := by decide +kernel
theorem dX9_into_18 : decode cX9_into 18 = .ok (.ireturn, 1) := by decide +kernel
theorem dX9_takeNote_0 : decode cX9_takeNote 0 = .ok (.aload_n 0, 1) := by decide +kernel
theorem dX9_takeNote_1 : decode cX9_takeNote 1 = .ok (.invokevirtual 149, 3) := by decide +kernel
theorem dX9_takeNote_4 : decode cX9_takeNote 4 = .ok (.aload_n 0, 1) := by decide +kernel
theorem dX9_takeNote_5 : decode cX9_takeNote 5 = .ok (.getfield 113, 3) := by decide +kernel
theorem dX9_takeNote_8 : decode cX9_takeNote 8 = .ok (.bipush 110, 2) := by decide +kernel
theorem dX9_takeNote_10 : decode cX9_takeNote 10 = .ok (.bipush 111, 2) := by decide +kernel
theorem dX9_takeNote_12 : decode cX9_takeNote 12 = .ok (.bipush 116, 2) := by decide +kernel
theorem dX9_takeNote_14 : decode cX9_takeNote 14 = .ok (.bipush 101, 2) := by decide +kernel
theorem dX9_takeNote_16 : decode cX9_takeNote 16 = .ok (.invokestatic 152, 3) := by decide +kernel
theorem dX9_takeNote_19 : decode cX9_takeNote 19 = .ok (.lcmp, 1) := by decide +kernel
theorem dX9_takeNote_20 : decode cX9_takeNote 20 = .ok (.ifCond .ne 7, 3) := by decide +kernel
theorem dX9_takeNote_23 : decode cX9_takeNote 23 = .ok (.iconst 1, 1) := by decide +kernel
theorem dX9_takeNote_24 : decode cX9_takeNote 24 = .ok (.goto 4, 3) := by decide +kernel
theorem dX9_takeNote_27 : decode cX9_takeNote 27 = .ok (.iconst 0, 1) := by decide +kernel
theorem dX9_takeNote_28 : decode cX9_takeNote 28 = .ok (.istore_n 2, 1) := by decide +kernel
theorem dX9_takeNote_29 : decode cX9_takeNote 29 = .ok (.iload_n 2, 1) := by decide +kernel
theorem dX9_takeNote_30 : decode cX9_takeNote 30 = .ok (.ifCond .ne 42, 3) := by decide +kernel
theorem dX9_takeNote_33 : decode cX9_takeNote 33 = .ok (.aload_n 0, 1) := by decide +kernel
theorem dX9_takeNote_34 : decode cX9_takeNote 34 = .ok (.getfield 113, 3) := by decide +kernel
theorem dX9_takeNote_37 : decode cX9_takeNote 37 = .ok (.bipush 98, 2) := by decide +kernel
theorem dX9_takeNote_39 : decode cX9_takeNote 39 = .ok (.bipush 114, 2) := by decide +kernel
theorem dX9_takeNote_41 : decode cX9_takeNote 41 = .ok (.bipush 101, 2) := by decide +kernel
theorem dX9_takeNote_43 : decode cX9_takeNote 43 = .ok (.bipush 97, 2) := by decide +kernel
theorem dX9_takeNote_45 : decode cX9_takeNote 45 = .ok (.invokestatic 152, 3) := by decide +kernel
theorem dX9_takeNote_48 : decode cX9_takeNote 48 = .ok (.bipush 116, 2) := by decide +kernel
theorem dX9_takeNote_50 : decode cX9_takeNote 50 = .ok (.invokestatic 156, 3) := by decide +kernel
theorem dX9_takeNote_53 : decode cX9_takeNote 53 = .ok (.bipush 104, 2) := by decide +kernel
theorem dX9_takeNote_55 : decode cX9_takeNote 55 = .ok (.invokestatic 156, 3) := by decide +kernel
theorem dX9_takeNote_58 : decode cX9_takeNote 58 = .ok (.lcmp, 1) := by decide +kernel
theorem dX9_takeNote_59 : decode cX9_takeNote 59 = .ok (.ifCond .eq 13, 3) := by decide +kernel
theorem dX9_takeNote_62 : decode cX9_takeNote 62 = .ok (.aload_n 0, 1) := by decide +kernel
theorem dX9_takeNote_63 : decode cX9_takeNote 63 = .ok (.iconst 1, 1) := by decide +kernel
theorem dX9_takeNote_64 : decode cX9_takeNote 64 = .ok (.aload_n 0, 1) := by decide +kernel
theorem dX9_takeNote_65 : decode cX9_takeNote 65 = .ok (.getfield 106, 3) := by decide +kernel
theorem dX9_takeNote_68 : decode cX9_takeNote 68 = .ok (.invokevirtual 136, 3) := by decide +kernel
theorem dX9_takeNote_71 : decode cX9_takeNote 71 = .ok (.ireturn, 1) := by decide +kernel
theorem dX9_takeNote_72 : decode cX9_takeNote 72 = .ok (.iload_n 2, 1) := by decide +kernel
theorem dX9_takeNote_73 : decode cX9_takeNote 73 = .ok (.ifCond .eq 22, 3) := by decide +kernel
theorem dX9_takeNote_76 : decode cX9_takeNote 76 = .ok (.aload_n 0, 1) := by decide +kernel
theorem dX9_takeNote_77 : decode cX9_takeNote 77 = .ok (.getfield 160, 3) := by decide +kernel
theorem dX9_takeNote_80 : decode cX9_takeNote 80 = .ok (.bipush 40, 2) := by decide +kernel
theorem dX9_takeNote_82 : decode cX9_takeNote 82 = .ok (.if_icmp .ne 13, 3) := by decide +kernel
theorem dX9_takeNote_85 : decode cX9_takeNote 85 = .ok (.aload_n 0, 1) := by decide +kernel
theorem dX9_takeNote_86 : decode cX9_takeNote 86 = .ok (.iconst 3, 1) := by decide +kernel
theorem dX9_takeNote_87 : decode cX9_takeNote 87 = .ok (.aload_n 0, 1) := by decide +kernel
theorem dX9_takeNote_88 : decode cX9_takeNote 88 = .ok (.getfield 106, 3) := by decide +kernel
theorem dX9_takeNote_91 : decode cX9_takeNote 91 = .ok (.invokevirtual 136, 3) := by decide +kernel
theorem dX9_takeNote_94 : decode cX9_takeNote 94 = .ok (.ireturn, 1) := by decide +kernel
theorem dX9_takeNote_95 : decode cX9_takeNote 95 = .ok (.aload_n 0, 1) := by decide +kernel
theorem dX9_takeNote_96 : decode cX9_takeNote 96 = .ok (.aload_n 0, 1) := by decide +kernel
theorem dX9_takeNote_97 : decode cX9_takeNote 97 = .ok (.getfield 117, 3) := by decide +kernel
theorem dX9_takeNote_100 : decode cX9_takeNote 100 = .ok (.putfield 106, 3) := by decide +kernel
theorem dX9_takeNote_103 : decode cX9_takeNote 103 = .ok (.aload_n 0, 1) := by decide +kernel
theorem dX9_takeNote_104 : decode cX9_takeNote 104 = .ok (.iload_n 2, 1) := by decide +kernel
theorem dX9_takeNote_105 : decode cX9_takeNote 105 = .ok (.ifCond .ne 7, 3) := by decide +kernel
theorem dX9_takeNote_108 : decode cX9_takeNote 108 = .ok (.iconst 1, 1) := by decide +kernel
theorem dX9_takeNote_109 : decode cX9_takeNote 109 = .ok (.goto 4, 3) := by decide +kernel
theorem dX9_takeNote_112 : decode cX9_takeNote 112 = .ok (.iconst 0, 1) := by decide +kernel
theorem dX9_takeNote_113 : decode cX9_takeNote 113 = .ok (.putfield 163, 3) := by decide +kernel
theorem dX9_takeNote_116 : decode cX9_takeNote 116 = .ok (.iconst 0, 1) := by decide +kernel
theorem dX9_takeNote_117 : decode cX9_takeNote 117 = .ok (.istore_n 3, 1) := by decide +kernel
theorem dX9_takeNote_118 : decode cX9_takeNote 118 = .ok (.iload_n 2, 1) := by decide +kernel
theorem dX9_takeNote_119 : decode cX9_takeNote 119 = .ok (.ifCond .eq 39, 3) := by decide +kernel
theorem dX9_takeNote_122 : decode cX9_takeNote 122 = .ok (.aload_n 0, 1) := by decide +kernel
theorem dX9_takeNote_123 : decode cX9_takeNote 123 = .ok (.aload_n 0, 1) := by decide +kernel
theorem dX9_takeNote_124 : decode cX9_takeNote 124 = .ok (.getfield 42, 3) := by decide +kernel
theorem dX9_takeNote_127 : decode cX9_takeNote 127 = .ok (.aload_n 0, 1) := by decide +kernel
theorem dX9_takeNote_128 : decode cX9_takeNote 128 = .ok (.getfield 160, 3) := by decide +kernel
theorem dX9_takeNote_131 : decode cX9_takeNote 131 = .ok (.iconst 0, 1) := by decide +kernel
theorem dX9_takeNote_132 : decode cX9_takeNote 132 = .ok (.bipush 36, 2) := by decide +kernel
theorem dX9_takeNote_134 : decode cX9_takeNote 134 = .ok (.invokevirtual 167, 3) := by decide +kernel
theorem dX9_takeNote_137 : decode cX9_takeNote 137 = .ok (.istore_n 3, 1) := by decide +kernel
theorem dX9_takeNote_138 : decode cX9_takeNote 138 = .ok (.aload_n 0, 1) := by decide +kernel
theorem dX9_takeNote_139 : decode cX9_takeNote 139 = .ok (.getfield 45, 3) := by decide +kernel
theorem dX9_takeNote_142 : decode cX9_takeNote 142 = .ok (.aload_n 0, 1) := by decide +kernel
theorem dX9_takeNote_143 : decode cX9_takeNote 143 = .ok (.getfield 160, 3) := by decide +kernel
theorem dX9_takeNote_146 : decode cX9_takeNote 146 = .ok (.iload_n 1, 1) := by decide +kernel
theorem dX9_takeNote_147 : decode cX9_takeNote 147 = .ok (.bastore, 1) := by decide +kernel
theorem dX9_takeNote_148 : decode cX9_takeNote 148 = .ok (.aload_n 0, 1) := by decide +kernel
theorem dX9_takeNote_149 : decode cX9_takeNote 149 = .ok (.dup, 1) := by decide +kernel
theorem dX9_takeNote_150 : decode cX9_takeNote 150 = .ok (.getfield 160, 3) := by decide +kernel
theorem dX9_takeNote_153 : decode cX9_takeNote 153 = .ok (.iconst 1, 1) := by decide +kernel
theorem dX9_takeNote_154 : decode cX9_takeNote 154 = .ok (.iadd, 1) := by decide +kernel
theorem dX9_takeNote_155 : decode cX9_takeNote 155 = .ok (.putfield 160, 3) := by decide +kernel
theorem dX9_takeNote_158 : decode cX9_takeNote 158 = .ok (.iload_n 3, 1) := by decide +kernel
theorem dX9_takeNote_159 : decode cX9_takeNote 159 = .ok (.ifCond .le 7, 3) := by decide +kernel
theorem dX9_takeNote_162 : decode cX9_takeNote 162 = .ok (.iload_n 3, 1) := by decide +kernel
theorem dX9_takeNote_163 : decode cX9_takeNote 163 = .ok (.goto 7, 3) := by decide +kernel
theorem dX9_takeNote_166 : decode cX9_takeNote 166 = .ok (.aload_n 0, 1) := by decide +kernel
theorem dX9_takeNote_167 : decode cX9_takeNote 167 = .ok (.invokevirtual 171, 3) := by decide +kernel
theorem dX9_takeNote_170 : decode cX9_takeNote 170 = .ok (.ireturn, 1) := by decide +kernel
theorem dX9_tune_0 : decode cX9_tune 0 = .ok (.aload_n 0, 1) := by decide +kernel
theorem dX9_tune_1 : decode cX9_tune 1 = .ok (.iconst (-1), 1) := by decide +kernel
theorem dX9_tune_2 : decode cX9_tune 2 = .ok (.putfield 39, 3) := by decide +kernel
theorem dX9_tune_5 : decode cX9_tune 5 = .ok (.aload_n 0, 1) := by decide +kernel
theorem dX9_tune_6 : decode cX9_tune 6 = .ok (.iconst 0, 1) := by decide +kernel
theorem dX9_tune_7 : decode cX9_tune 7 = .ok (.putfield 106, 3) := by decide +kernel
theorem dX9_tune_10 : decode cX9_tune 10 = .ok (.aload_n 0, 1) := by decide +kernel
theorem dX9_tune_11 : decode cX9_tune 11 = .ok (.iconst 0, 1) := by decide +kernel
theorem dX9_tune_12 : decode cX9_tune 12 = .ok (.putfield 160, 3) := by decide +kernel
theorem dX9_tune_15 : decode cX9_tune 15 = .ok (.iconst 0, 1) := by decide +kernel
theorem dX9_tune_16 : decode cX9_tune 16 = .ok (.istore_n 1, 1) := by decide +kernel
theorem dX9_tune_17 : decode cX9_tune 17 = .ok (.iconst 0, 1) := by decide +kernel
theorem dX9_tune_18 : decode cX9_tune 18 = .ok (.istore_n 2, 1) := by decide +kernel
theorem dX9_tune_19 : decode cX9_tune 19 = .ok (.iload_n 1, 1) := by decide +kernel
theorem dX9_tune_20 : decode cX9_tune 20 = .ok (.ifCond .ne 24, 3) := by decide +kernel
theorem dX9_tune_23 : decode cX9_tune 23 = .ok (.aload_n 0, 1) := by decide +kernel
theorem dX9_tune_24 : decode cX9_tune 24 = .ok (.invokevirtual 109, 3) := by decide +kernel
theorem dX9_tune_27 : decode cX9_tune 27 = .ok (.ifCond .lt 17, 3) := by decide +kernel
theorem dX9_tune_30 : decode cX9_tune 30 = .ok (.aload_n 0, 1) := by decide +kernel
theorem dX9_tune_31 : decode cX9_tune 31 = .ok (.iload_n 2, 1) := by decide +kernel
theorem dX9_tune_32 : decode cX9_tune 32 = .ok (.invokevirtual 174, 3) := by decide +kernel
theorem dX9_tune_35 : decode cX9_tune 35 = .ok (.istore_n 1, 1) := by decide +kernel
theorem dX9_tune_36 : decode cX9_tune 36 = .ok (.aload_n 0, 1) := by decide +kernel
theorem dX9_tune_37 : decode cX9_tune 37 = .ok (.getfield 163, 3) := by decide +kernel
theorem dX9_tune_40 : decode cX9_tune 40 = .ok (.istore_n 2, 1) := by decide +kernel
theorem dX9_tune_41 : decode cX9_tune 41 = .ok (.goto (-22), 3) := by decide +kernel
theorem dX9_tune_44 : decode cX9_tune 44 = .ok (.aload_n 0, 1) := by decide +kernel
theorem dX9_tune_45 : decode cX9_tune 45 = .ok (.iconst 0, 1) := by decide +kernel
theorem dX9_tune_46 : decode cX9_tune 46 = .ok (.putfield 100, 3) := by decide +kernel
theorem dX9_tune_49 : decode cX9_tune 49 = .ok (.iload_n 1, 1) := by decide +kernel
theorem dX9_tune_50 : decode cX9_tune 50 = .ok (.ifCond .le 8, 3) := by decide +kernel
theorem dX9_tune_53 : decode cX9_tune 53 = .ok (.bipush (-10), 2) := by decide +kernel
theorem dX9_tune_55 : decode cX9_tune 55 = .ok (.iload_n 1, 1) := by decide +kernel
theorem dX9_tune_56 : decode cX9_tune 56 = .ok (.isub, 1) := by decide +kernel
theorem dX9_tune_57 : decode cX9_tune 57 = .ok (.ireturn, 1) := by decide +kernel
theorem dX9_tune_58 : decode cX9_tune 58 = .ok (.aload_n 0, 1) := by decide +kernel
theorem dX9_tune_59 : decode cX9_tune 59 = .ok (.aload_n 0, 1) := by decide +kernel
theorem dX9_tune_60 : decode cX9_tune 60 = .ok (.getfield 160, 3) := by decide +kernel
theorem dX9_tune_63 : decode cX9_tune 63 = .ok (.putfield 178, 3) := by decide +kernel
theorem dX9_tune_66 : decode cX9_tune 66 = .ok (.iconst 0, 1) := by decide +kernel
theorem dX9_tune_67 : decode cX9_tune 67 = .ok (.istore_n 3, 1) := by decide +kernel
theorem dX9_tune_68 : decode cX9_tune 68 = .ok (.iload_n 3, 1) := by decide +kernel
theorem dX9_tune_69 : decode cX9_tune 69 = .ok (.bipush 40, 2) := by decide +kernel
theorem dX9_tune_71 : decode cX9_tune 71 = .ok (.if_icmp .ge 36, 3) := by decide +kernel
theorem dX9_tune_74 : decode cX9_tune 74 = .ok (.aload_n 0, 1) := by decide +kernel
theorem dX9_tune_75 : decode cX9_tune 75 = .ok (.getfield 7, 3) := by decide +kernel
theorem dX9_tune_78 : decode cX9_tune 78 = .ok (.iload_n 3, 1) := by decide +kernel
theorem dX9_tune_79 : decode cX9_tune 79 = .ok (.bipush 100, 2) := by decide +kernel
theorem dX9_tune_81 : decode cX9_tune 81 = .ok (.aload_n 0, 1) := by decide +kernel
theorem dX9_tune_82 : decode cX9_tune 82 = .ok (.getfield 42, 3) := by decide +kernel
theorem dX9_tune_85 : decode cX9_tune 85 = .ok (.iload_n 3, 1) := by decide +kernel
theorem dX9_tune_86 : decode cX9_tune 86 = .ok (.iaload, 1) := by decide +kernel
theorem dX9_tune_87 : decode cX9_tune 87 = .ok (.imul, 1) := by decide +kernel
theorem dX9_tune_88 : decode cX9_tune 88 = .ok (.iastore, 1) := by decide +kernel
theorem dX9_tune_89 : decode cX9_tune 89 = .ok (.aload_n 0, 1) := by decide +kernel
theorem dX9_tune_90 : decode cX9_tune 90 = .ok (.getfield 13, 3) := by decide +kernel
theorem dX9_tune_93 : decode cX9_tune 93 = .ok (.iload_n 3, 1) := by decide +kernel
theorem dX9_tune_94 : decode cX9_tune 94 = .ok (.aload_n 0, 1) := by decide +kernel
theorem dX9_tune_95 : decode cX9_tune 95 = .ok (.getfield 45, 3) := by decide +kernel
theorem dX9_tune_98 : decode cX9_tune 98 = .ok (.iload_n 3, 1) := by decide +kernel
theorem dX9_tune_99 : decode cX9_tune 99 = .ok (.baload, 1) := by decide +kernel
theorem dX9_tune_100 : decode cX9_tune 100 = .ok (.bastore, 1) := by decide +kernel
theorem dX9_tune_101 : decode cX9_tune 101 = .ok (.iinc 3 1, 3) := by decide +kernel
theorem dX9_tune_104 : decode cX9_tune 104 = .ok (.goto (-36), 3) := by decide +kernel
theorem dX9_tune_107 : decode cX9_tune 107 = .ok (.aload_n 0, 1) := by decide +kernel
theorem dX9_tune_108 : decode cX9_tune 108 = .ok (.invokevirtual 181, 3) := by decide +kernel
theorem dX9_tune_111 : decode cX9_tune 111 = .ok (.aload_n 0, 1) := by decide +kernel
theorem dX9_tune_112 : decode cX9_tune 112 = .ok (.getfield 178, 3) := by decide +kernel
theorem dX9_tune_115 : decode cX9_tune 115 = .ok (.ireturn, 1) := by decide +kernel
theorem dX9_endSong_0 : decode cX9_endSong 0 = .ok (.aload_n 0, 1) := by decide +kernel
theorem dX9_endSong_1 : decode cX9_endSong 1 = .ok (.iconst (-1), 1) := by decide +kernel
theorem dX9_endSong_2 : decode cX9_endSong 2 = .ok (.putfield 29, 3) := by decide +kernel
theorem dX9_endSong_5 : decode cX9_endSong 5 = .ok (.aload_n 0, 1) := by decide +kernel
theorem dX9_endSong_6 : decode cX9_endSong 6 = .ok (.iconst 0, 1) := by decide +kernel
theorem dX9_endSong_7 : decode cX9_endSong 7 = .ok (.putfield 184, 3) := by decide +kernel
theorem dX9_endSong_10 : decode cX9_endSong 10 = .ok (.aload_n 0, 1) := by decide +kernel
theorem dX9_endSong_11 : decode cX9_endSong 11 = .ok (.getfield 84, 3) := by decide +kernel
theorem dX9_endSong_14 : decode cX9_endSong 14 = .ok (.iconst 0, 1) := by decide +kernel
theorem dX9_endSong_15 : decode cX9_endSong 15 = .ok (.iconst 0, 1) := by decide +kernel
theorem dX9_endSong_16 : decode cX9_endSong 16 = .ok (.bastore, 1) := by decide +kernel
theorem dX9_endSong_17 : decode cX9_endSong 17 = .ok (.aload_n 0, 1) := by decide +kernel
theorem dX9_endSong_18 : decode cX9_endSong 18 = .ok (.getfield 84, 3) := by decide +kernel
theorem dX9_endSong_21 : decode cX9_endSong 21 = .ok (.iconst 1, 1) := by decide +kernel
theorem dX9_endSong_22 : decode cX9_endSong 22 = .ok (.iconst 0, 1) := by decide +kernel
theorem dX9_endSong_23 : decode cX9_endSong 23 = .ok (.bastore, 1) := by decide +kernel
theorem dX9_endSong_24 : decode cX9_endSong 24 = .ok (.return_, 1) := by decide +kernel
theorem dX9_kindOf_0 : decode cX9_kindOf 0 = .ok (.aload_n 0, 1) := by decide +kernel
theorem dX9_kindOf_1 : decode cX9_kindOf 1 = .ok (.getfield 113, 3) := by decide +kernel
theorem dX9_kindOf_4 : decode cX9_kindOf 4 = .ok (.bipush 112, 2) := by decide +kernel
theorem dX9_kindOf_6 : decode cX9_kindOf 6 = .ok (.bipush 108, 2) := by decide +kernel
theorem dX9_kindOf_8 : decode cX9_kindOf 8 = .ok (.bipush 97, 2) := by decide +kernel
theorem dX9_kindOf_10 : decode cX9_kindOf 10 = .ok (.bipush 105, 2) := by decide +kernel
theorem dX9_kindOf_12 : decode cX9_kindOf 12 = .ok (.invokestatic 152, 3) := by decide +kernel
theorem dX9_kindOf_15 : decode cX9_kindOf 15 = .ok (.bipush 110, 2) := by decide +kernel
theorem dX9_kindOf_17 : decode cX9_kindOf 17 = .ok (.invokestatic 156, 3) := by decide +kernel
theorem dX9_kindOf_20 : decode cX9_kindOf 20 = .ok (.lcmp, 1) := by decide +kernel
theorem dX9_kindOf_21 : decode cX9_kindOf 21 = .ok (.ifCond .ne 7, 3) := by decide +kernel
theorem dX9_kindOf_24 : decode cX9_kindOf 24 = .ok (.iconst 0, 1) := by decide +kernel
theorem dX9_kindOf_25 : decode cX9_kindOf 25 = .ok (.goto 103, 3) := by decide +kernel
theorem dX9_kindOf_28 : decode cX9_kindOf 28 = .ok (.aload_n 0, 1) := by decide +kernel
theorem dX9_kindOf_29 : decode cX9_kindOf 29 = .ok (.getfield 113, 3) := by decide +kernel
theorem dX9_kindOf_32 : decode cX9_kindOf 32 = .ok (.bipush 116, 2) := by decide +kernel
theorem dX9_kindOf_34 : decode cX9_kindOf 34 = .ok (.bipush 114, 2) := by decide +kernel
theorem dX9_kindOf_36 : decode cX9_kindOf 36 = .ok (.bipush 117, 2) := by decide +kernel
theorem dX9_kindOf_38 : decode cX9_kindOf 38 = .ok (.bipush 101, 2) := by decide +kernel
theorem dX9_kindOf_40 : decode cX9_kindOf 40 = .ok (.invokestatic 152, 3) := by decide +kernel
theorem dX9_kindOf_43 : decode cX9_kindOf 43 = .ok (.lcmp, 1) := by decide +kernel
theorem dX9_kindOf_44 : decode cX9_kindOf 44 = .ok (.ifCond .ne 7, 3) := by decide +kernel
theorem dX9_kindOf_47 : decode cX9_kindOf 47 = .ok (.iconst 1, 1) := by decide +kernel
theorem dX9_kindOf_48 : decode cX9_kindOf 48 = .ok (.goto 80, 3) := by decide +kernel
theorem dX9_kindOf_51 : decode cX9_kindOf 51 = .ok (.aload_n 0, 1) := by decide +kernel
theorem dX9_kindOf_52 : decode cX9_kindOf 52 = .ok (.getfield 113, 3) := by decide +kernel
theorem dX9_kindOf_55 : decode cX9_kindOf 55 = .ok (.bipush 100, 2) := by decide +kernel
theorem dX9_kindOf_57 : decode cX9_kindOf 57 = .ok (.bipush 114, 2) := by decide +kernel
theorem dX9_kindOf_59 : decode cX9_kindOf 59 = .ok (.bipush 105, 2) := by decide +kernel
theorem dX9_kindOf_61 : decode cX9_kindOf 61 = .ok (.bipush 102, 2) := by decide +kernel
theorem dX9_kindOf_63 : decode cX9_kindOf 63 = .ok (.invokestatic 152, 3) := by decide +kernel
theorem dX9_kindOf_66 : decode cX9_kindOf 66 = .ok (.bipush 116, 2) := by decide +kernel
theorem dX9_kindOf_68 : decode cX9_kindOf 68 = .ok (.invokestatic 156, 3) := by decide +kernel
theorem dX9_kindOf_71 : decode cX9_kindOf 71 = .ok (.bipush 105, 2) := by decide +kernel
theorem dX9_kindOf_73 : decode cX9_kindOf 73 = .ok (.invokestatic 156, 3) := by decide +kernel
theorem dX9_kindOf_76 : decode cX9_kindOf 76 = .ok (.bipush 110, 2) := by decide +kernel
theorem dX9_kindOf_78 : decode cX9_kindOf 78 = .ok (.invokestatic 156, 3) := by decide +kernel
theorem dX9_kindOf_81 : decode cX9_kindOf 81 = .ok (.bipush 103, 2) := by decide +kernel
theorem dX9_kindOf_83 : decode cX9_kindOf 83 = .ok (.invokestatic 156, 3) := by decide +kernel
theorem dX9_kindOf_86 : decode cX9_kindOf 86 = .ok (.lcmp, 1) := by decide +kernel
theorem dX9_kindOf_87 : decode cX9_kindOf 87 = .ok (.ifCond .ne 7, 3) := by decide +kernel
theorem dX9_kindOf_90 : decode cX9_kindOf 90 = .ok (.iconst 2, 1) := by decide +kernel
theorem dX9_kindOf_91 : decode cX9_kindOf 91 = .ok (.goto 37, 3) := by decide +kernel
theorem dX9_kindOf_94 : decode cX9_kindOf 94 = .ok (.aload_n 0, 1) := by decide +kernel
theorem dX9_kindOf_95 : decode cX9_kindOf 95 = .ok (.getfield 113, 3) := by decide +kernel
theorem dX9_kindOf_98 : decode cX9_kindOf 98 = .ok (.bipush 110, 2) := by decide +kernel
theorem dX9_kindOf_100 : decode cX9_kindOf 100 = .ok (.bipush 97, 2) := by decide +kernel
theorem dX9_kindOf_102 : decode cX9_kindOf 102 = .ok (.bipush 114, 2) := by decide +kernel
theorem dX9_kindOf_104 : decode cX9_kindOf 104 = .ok (.bipush 114, 2) := by decide +kernel
theorem dX9_kindOf_106 : decode cX9_kindOf 106 = .ok (.invokestatic 152, 3) := by decide +kernel
theorem dX9_kindOf_109 : decode cX9_kindOf 109 = .ok (.bipush 111, 2) := by decide +kernel
theorem dX9_kindOf_111 : decode cX9_kindOf 111 = .ok (.invokestatic 156, 3) := by decide +kernel
theorem dX9_kindOf_114 : decode cX9_kindOf 114 = .ok (.bipush 119, 2) := by decide +kernel
theorem dX9_kindOf_116 : decode cX9_kindOf 116 = .ok (.invokestatic 156, 3) := by decide +kernel
theorem dX9_kindOf_119 : decode cX9_kindOf 119 = .ok (.lcmp, 1) := by decide +kernel
theorem dX9_kindOf_120 : decode cX9_kindOf 120 = .ok (.ifCond .ne 7, 3) := by decide +kernel
theorem dX9_kindOf_123 : decode cX9_kindOf 123 = .ok (.iconst 3, 1) := by decide +kernel
theorem dX9_kindOf_124 : decode cX9_kindOf 124 = .ok (.goto 4, 3) := by decide +kernel
theorem dX9_kindOf_127 : decode cX9_kindOf 127 = .ok (.iconst (-1), 1) := by decide +kernel
theorem dX9_kindOf_128 : decode cX9_kindOf 128 = .ok (.istore_n 1, 1) := by decide +kernel
theorem dX9_kindOf_129 : decode cX9_kindOf 129 = .ok (.aload_n 0, 1) := by decide +kernel
theorem dX9_kindOf_130 : decode cX9_kindOf 130 = .ok (.getfield 113, 3) := by decide +kernel
theorem dX9_kindOf_133 : decode cX9_kindOf 133 = .ok (.bipush 103, 2) := by decide +kernel
theorem dX9_kindOf_135 : decode cX9_kindOf 135 = .ok (.bipush 114, 2) := by decide +kernel
theorem dX9_kindOf_137 : decode cX9_kindOf 137 = .ok (.bipush 111, 2) := by decide +kernel
theorem dX9_kindOf_139 : decode cX9_kindOf 139 = .ok (.bipush 119, 2) := by decide +kernel
theorem dX9_kindOf_141 : decode cX9_kindOf 141 = .ok (.invokestatic 152, 3) := by decide +kernel
theorem dX9_kindOf_144 : decode cX9_kindOf 144 = .ok (.bipush 108, 2) := by decide +kernel
theorem dX9_kindOf_146 : decode cX9_kindOf 146 = .ok (.invokestatic 156, 3) := by decide +kernel
theorem dX9_kindOf_149 : decode cX9_kindOf 149 = .ok (.bipush 105, 2) := by decide +kernel
theorem dX9_kindOf_151 : decode cX9_kindOf 151 = .ok (.invokestatic 156, 3) := by decide +kernel
theorem dX9_kindOf_154 : decode cX9_kindOf 154 = .ok (.bipush 110, 2) := by decide +kernel
theorem dX9_kindOf_156 : decode cX9_kindOf 156 = .ok (.invokestatic 156, 3) := by decide +kernel
theorem dX9_kindOf_159 : decode cX9_kindOf 159 = .ok (.bipush 103, 2) := by decide +kernel
theorem dX9_kindOf_161 : decode cX9_kindOf 161 = .ok (.invokestatic 156, 3) := by decide +kernel
theorem dX9_kindOf_164 : decode cX9_kindOf 164 = .ok (.lcmp, 1) := by decide +kernel
theorem dX9_kindOf_165 : decode cX9_kindOf 165 = .ok (.ifCond .ne 7, 3) := by decide +kernel
theorem dX9_kindOf_168 : decode cX9_kindOf 168 = .ok (.iconst 4, 1) := by decide +kernel
theorem dX9_kindOf_169 : decode cX9_kindOf 169 = .ok (.goto 90, 3) := by decide +kernel
theorem dX9_kindOf_172 : decode cX9_kindOf 172 = .ok (.aload_n 0, 1) := by decide +kernel
theorem dX9_kindOf_173 : decode cX9_kindOf 173 = .ok (.getfield 113, 3) := by decide +kernel
theorem dX9_kindOf_176 : decode cX9_kindOf 176 = .ok (.bipush 115, 2) := by decide +kernel
theorem dX9_kindOf_178 : decode cX9_kindOf 178 = .ok (.bipush 104, 2) := by decide +kernel
theorem dX9_kindOf_180 : decode cX9_kindOf 180 = .ok (.bipush 111, 2) := by decide +kernel
theorem dX9_kindOf_182 : decode cX9_kindOf 182 = .ok (.bipush 114, 2) := by decide +kernel
theorem dX9_kindOf_184 : decode cX9_kindOf 184 = .ok (.invokestatic 152, 3) := by decide +kernel
theorem dX9_kindOf_187 : decode cX9_kindOf 187 = .ok (.bipush 116, 2) := by decide +kernel
theorem dX9_kindOf_189 : decode cX9_kindOf 189 = .ok (.invokestatic 156, 3) := by decide +kernel
theorem dX9_kindOf_192 : decode cX9_kindOf 192 = .ok (.lcmp, 1) := by decide +kernel
theorem dX9_kindOf_193 : decode cX9_kindOf 193 = .ok (.ifCond .ne 7, 3) := by decide +kernel
theorem dX9_kindOf_196 : decode cX9_kindOf 196 = .ok (.iconst 5, 1) := by decide +kernel
theorem dX9_kindOf_197 : decode cX9_kindOf 197 = .ok (.goto 62, 3) := by decide +kernel
theorem dX9_kindOf_200 : decode cX9_kindOf 200 = .ok (.aload_n 0, 1) := by decide +kernel
theorem dX9_kindOf_201 : decode cX9_kindOf 201 = .ok (.getfield 113, 3) := by decide +kernel
theorem dX9_kindOf_204 : decode cX9_kindOf 204 = .ok (.bipush 100, 2) := by decide +kernel
theorem dX9_kindOf_206 : decode cX9_kindOf 206 = .ok (.bipush 101, 2) := by decide +kernel
theorem dX9_kindOf_208 : decode cX9_kindOf 208 = .ok (.bipush 97, 2) := by decide +kernel
theorem dX9_kindOf_210 : decode cX9_kindOf 210 = .ok (.bipush 102, 2) := by decide +kernel
theorem dX9_kindOf_212 : decode cX9_kindOf 212 = .ok (.invokestatic 152, 3) := by decide +kernel
theorem dX9_kindOf_215 : decode cX9_kindOf 215 = .ok (.lcmp, 1) := by decide +kernel
theorem dX9_kindOf_216 : decode cX9_kindOf 216 = .ok (.ifCond .ne 8, 3) := by decide +kernel
theorem dX9_kindOf_219 : decode cX9_kindOf 219 = .ok (.bipush 6, 2) := by decide +kernel
theorem dX9_kindOf_221 : decode cX9_kindOf 221 = .ok (.goto 38, 3) := by decide +kernel
theorem dX9_kindOf_224 : decode cX9_kindOf 224 = .ok (.aload_n 0, 1) := by decide +kernel
theorem dX9_kindOf_225 : decode cX9_kindOf 225 = .ok (.getfield 113, 3) := by decide +kernel
theorem dX9_kindOf_228 : decode cX9_kindOf 228 = .ok (.bipush 104, 2) := by decide +kernel
theorem dX9_kindOf_230 : decode cX9_kindOf 230 = .ok (.bipush 117, 2) := by decide +kernel
theorem dX9_kindOf_232 : decode cX9_kindOf 232 = .ok (.bipush 115, 2) := by decide +kernel
theorem dX9_kindOf_234 : decode cX9_kindOf 234 = .ok (.bipush 104, 2) := by decide +kernel
theorem dX9_kindOf_236 : decode cX9_kindOf 236 = .ok (.invokestatic 152, 3) := by decide +kernel
theorem dX9_kindOf_239 : decode cX9_kindOf 239 = .ok (.bipush 101, 2) := by decide +kernel
theorem dX9_kindOf_241 : decode cX9_kindOf 241 = .ok (.invokestatic 156, 3) := by decide +kernel
theorem dX9_kindOf_244 : decode cX9_kindOf 244 = .ok (.bipush 100, 2) := by decide +kernel
theorem dX9_kindOf_246 : decode cX9_kindOf 246 = .ok (.invokestatic 156, 3) := by decide +kernel
theorem dX9_kindOf_249 : decode cX9_kindOf 249 = .ok (.lcmp, 1) := by decide +kernel
theorem dX9_kindOf_250 : decode cX9_kindOf 250 = .ok (.ifCond .ne 8, 3) := by decide +kernel
theorem dX9_kindOf_253 : decode cX9_kindOf 253 = .ok (.bipush 7, 2) := by decide +kernel
theorem dX9_kindOf_255 : decode cX9_kindOf 255 = .ok (.goto 4, 3) := by decide +kernel
theorem dX9_kindOf_258 : decode cX9_kindOf 258 = .ok (.iconst (-1), 1) := by decide +kernel
theorem dX9_kindOf_259 : decode cX9_kindOf 259 = .ok (.istore_n 2, 1) := by decide +kernel
theorem dX9_kindOf_260 : decode cX9_kindOf 260 = .ok (.iload_n 1, 1) := by decide +kernel
theorem dX9_kindOf_261 : decode cX9_kindOf 261 = .ok (.ifCond .lt 7, 3) := by decide +kernel
theorem dX9_kindOf_264 : decode cX9_kindOf 264 = .ok (.iload_n 1, 1) := by decide +kernel
theorem dX9_kindOf_265 : decode cX9_kindOf 265 = .ok (.goto 4, 3) := by decide +kernel
theorem dX9_kindOf_268 : decode cX9_kindOf 268 = .ok (.iload_n 2, 1) := by decide +kernel
theorem dX9_kindOf_269 : decode cX9_kindOf 269 = .ok (.ireturn, 1) := by decide +kernel
theorem dX9_takeSinger_0 : decode cX9_takeSinger 0 = .ok (.aload_n 0, 1) := by decide +kernel
theorem dX9_takeSinger_1 : decode cX9_takeSinger 1 = .ok (.invokevirtual 149, 3) := by decide +kernel
theorem dX9_takeSinger_4 : decode cX9_takeSinger 4 = .ok (.aload_n 0, 1) := by decide +kernel
theorem dX9_takeSinger_5 : decode cX9_takeSinger 5 = .ok (.getfield 113, 3) := by decide +kernel
theorem dX9_takeSinger_8 : decode cX9_takeSinger 8 = .ok (.bipush 115, 2) := by decide +kernel
theorem dX9_takeSinger_10 : decode cX9_takeSinger 10 = .ok (.bipush 105, 2) := by decide +kernel
theorem dX9_takeSinger_12 : decode cX9_takeSinger 12 = .ok (.bipush 110, 2) := by decide +kernel
theorem dX9_takeSinger_14 : decode cX9_takeSinger 14 = .ok (.bipush 103, 2) := by decide +kernel
theorem dX9_takeSinger_16 : decode cX9_takeSinger 16 = .ok (.invokestatic 152, 3) := by decide +kernel
theorem dX9_takeSinger_19 : decode cX9_takeSinger 19 = .ok (.bipush 101, 2) := by decide +kernel
theorem dX9_takeSinger_21 : decode cX9_takeSinger 21 = .ok (.invokestatic 156, 3) := by decide +kernel
theorem dX9_takeSinger_24 : decode cX9_takeSinger 24 = .ok (.bipush 114, 2) := by decide +kernel
theorem dX9_takeSinger_26 : decode cX9_takeSinger 26 = .ok (.invokestatic 156, 3) := by decide +kernel
theorem dX9_takeSinger_29 : decode cX9_takeSinger 29 = .ok (.lcmp, 1) := by decide +kernel
theorem dX9_takeSinger_30 : decode cX9_takeSinger 30 = .ok (.ifCond .eq 13, 3) := by decide +kernel
theorem dX9_takeSinger_33 : decode cX9_takeSinger 33 = .ok (.aload_n 0, 1) := by decide +kernel
theorem dX9_takeSinger_34 : decode cX9_takeSinger 34 = .ok (.iconst 1, 1) := by decide +kernel
theorem dX9_takeSinger_35 : decode cX9_takeSinger 35 = .ok (.aload_n 0, 1) := by decide +kernel
theorem dX9_takeSinger_36 : decode cX9_takeSinger 36 = .ok (.getfield 106, 3) := by decide +kernel
theorem dX9_takeSinger_39 : decode cX9_takeSinger 39 = .ok (.invokevirtual 136, 3) := by decide +kernel
theorem dX9_takeSinger_42 : decode cX9_takeSinger 42 = .ok (.ireturn, 1) := by decide +kernel
theorem dX9_takeSinger_43 : decode cX9_takeSinger 43 = .ok (.aload_n 0, 1) := by decide +kernel
theorem dX9_takeSinger_44 : decode cX9_takeSinger 44 = .ok (.getfield 160, 3) := by decide +kernel
theorem dX9_takeSinger_47 : decode cX9_takeSinger 47 = .ok (.bipush 12, 2) := by decide +kernel
theorem dX9_takeSinger_49 : decode cX9_takeSinger 49 = .ok (.if_icmp .ne 13, 3) := by decide +kernel
theorem dX9_takeSinger_52 : decode cX9_takeSinger 52 = .ok (.aload_n 0, 1) := by decide +kernel
theorem dX9_takeSinger_53 : decode cX9_takeSinger 53 = .ok (.iconst 3, 1) := by decide +kernel
theorem dX9_takeSinger_54 : decode cX9_takeSinger 54 = .ok (.aload_n 0, 1) := by decide +kernel
theorem dX9_takeSinger_55 : decode cX9_takeSinger 55 = .ok (.getfield 106, 3) := by decide +kernel
theorem dX9_takeSinger_58 : decode cX9_takeSinger 58 = .ok (.invokevirtual 136, 3) := by decide +kernel
theorem dX9_takeSinger_61 : decode cX9_takeSinger 61 = .ok (.ireturn, 1) := by decide +kernel
theorem dX9_takeSinger_62 : decode cX9_takeSinger 62 = .ok (.aload_n 0, 1) := by decide +kernel
theorem dX9_takeSinger_63 : decode cX9_takeSinger 63 = .ok (.aload_n 0, 1) := by decide +kernel
theorem dX9_takeSinger_64 : decode cX9_takeSinger 64 = .ok (.getfield 117, 3) := by decide +kernel
theorem dX9_takeSinger_67 : decode cX9_takeSinger 67 = .ok (.putfield 106, 3) := by decide +kernel
theorem dX9_takeSinger_70 : decode cX9_takeSinger 70 = .ok (.aload_n 0, 1) := by decide +kernel
theorem dX9_takeSinger_71 : decode cX9_takeSinger 71 = .ok (.invokevirtual 149, 3) := by decide +kernel
theorem dX9_takeSinger_74 : decode cX9_takeSinger 74 = .ok (.bipush 8, 2) := by decide +kernel
theorem dX9_takeSinger_76 : decode cX9_takeSinger 76 = .ok (.aload_n 0, 1) := by decide +kernel
theorem dX9_takeSinger_77 : decode cX9_takeSinger 77 = .ok (.getfield 160, 3) := by decide +kernel
theorem dX9_takeSinger_80 : decode cX9_takeSinger 80 = .ok (.imul, 1) := by decide +kernel
theorem dX9_takeSinger_81 : decode cX9_takeSinger 81 = .ok (.istore_n 1, 1) := by decide +kernel
theorem dX9_takeSinger_82 : decode cX9_takeSinger 82 = .ok (.aload_n 0, 1) := by decide +kernel
theorem dX9_takeSinger_83 : decode cX9_takeSinger 83 = .ok (.getfield 48, 3) := by decide +kernel
theorem dX9_takeSinger_86 : decode cX9_takeSinger 86 = .ok (.iload_n 1, 1) := by decide +kernel
theorem dX9_takeSinger_87 : decode cX9_takeSinger 87 = .ok (.aload_n 0, 1) := by decide +kernel
theorem dX9_takeSinger_88 : decode cX9_takeSinger 88 = .ok (.invokevirtual 187, 3) := by decide +kernel
theorem dX9_takeSinger_91 : decode cX9_takeSinger 91 = .ok (.iastore, 1) := by decide +kernel
theorem dX9_takeSinger_92 : decode cX9_takeSinger 92 = .ok (.aload_n 0, 1) := by decide +kernel
theorem dX9_takeSinger_93 : decode cX9_takeSinger 93 = .ok (.getfield 48, 3) := by decide +kernel
theorem dX9_takeSinger_96 : decode cX9_takeSinger 96 = .ok (.iload_n 1, 1) := by decide +kernel
theorem dX9_takeSinger_97 : decode cX9_takeSinger 97 = .ok (.iaload, 1) := by decide +kernel
theorem dX9_takeSinger_98 : decode cX9_takeSinger 98 = .ok (.ifCond .ge 13, 3) := by decide +kernel
theorem dX9_takeSinger_101 : decode cX9_takeSinger 101 = .ok (.aload_n 0, 1) := by decide +kernel
theorem dX9_takeSinger_102 : decode cX9_takeSinger 102 = .ok (.iconst 1, 1) := by decide +kernel
theorem dX9_takeSinger_103 : decode cX9_takeSinger 103 = .ok (.aload_n 0, 1) := by decide +kernel
theorem dX9_takeSinger_104 : decode cX9_takeSinger 104 = .ok (.getfield 106, 3) := by decide +kernel
theorem dX9_takeSinger_107 : decode cX9_takeSinger 107 = .ok (.invokevirtual 136, 3) := by decide +kernel
theorem dX9_takeSinger_110 : decode cX9_takeSinger 110 = .ok (.ireturn, 1) := by decide +kernel
theorem dX9_takeSinger_111 : decode cX9_takeSinger 111 = .ok (.aload_n 0, 1) := by decide +kernel
theorem dX9_takeSinger_112 : decode cX9_takeSinger 112 = .ok (.aload_n 0, 1) := by decide +kernel
theorem dX9_takeSinger_113 : decode cX9_takeSinger 113 = .ok (.getfield 117, 3) := by decide +kernel
theorem dX9_takeSinger_116 : decode cX9_takeSinger 116 = .ok (.putfield 106, 3) := by decide +kernel
theorem dX9_takeSinger_119 : decode cX9_takeSinger 119 = .ok (.aload_n 0, 1) := by decide +kernel
theorem dX9_takeSinger_120 : decode cX9_takeSinger 120 = .ok (.aload_n 0, 1) := by decide +kernel
theorem dX9_takeSinger_121 : decode cX9_takeSinger 121 = .ok (.getfield 48, 3) := by decide +kernel
theorem dX9_takeSinger_124 : decode cX9_takeSinger 124 = .ok (.iload_n 1, 1) := by decide +kernel
theorem dX9_takeSinger_125 : decode cX9_takeSinger 125 = .ok (.iconst 1, 1) := by decide +kernel
theorem dX9_takeSinger_126 : decode cX9_takeSinger 126 = .ok (.iadd, 1) := by decide +kernel
theorem dX9_takeSinger_127 : decode cX9_takeSinger 127 = .ok (.iconst 0, 1) := by decide +kernel
theorem dX9_takeSinger_128 : decode cX9_takeSinger 128 = .ok (.bipush 99, 2) := by decide +kernel
theorem dX9_takeSinger_130 : decode cX9_takeSinger 130 = .ok (.invokevirtual 167, 3) := by decide +kernel
theorem dX9_takeSinger_133 : decode cX9_takeSinger 133 = .ok (.istore_n 2, 1) := by decide +kernel
theorem dX9_takeSinger_134 : decode cX9_takeSinger 134 = .ok (.iload_n 2, 1) := by decide +kernel
theorem dX9_takeSinger_135 : decode cX9_takeSinger 135 = .ok (.ifCond .le 7, 3) := by decide +kernel
theorem dX9_takeSinger_138 : decode cX9_takeSinger 138 = .ok (.iload_n 2, 1) := by decide +kernel
theorem dX9_takeSinger_139 : decode cX9_takeSinger 139 = .ok (.goto 17, 3) := by decide +kernel
theorem dX9_takeSinger_142 : decode cX9_takeSinger 142 = .ok (.aload_n 0, 1) := by decide +kernel
theorem dX9_takeSinger_143 : decode cX9_takeSinger 143 = .ok (.aload_n 0, 1) := by decide +kernel
theorem dX9_takeSinger_144 : decode cX9_takeSinger 144 = .ok (.getfield 48, 3) := by decide +kernel
theorem dX9_takeSinger_147 : decode cX9_takeSinger 147 = .ok (.iload_n 1, 1) := by decide +kernel
theorem dX9_takeSinger_148 : decode cX9_takeSinger 148 = .ok (.iconst 2, 1) := by decide +kernel
theorem dX9_takeSinger_149 : decode cX9_takeSinger 149 = .ok (.iadd, 1) := by decide +kernel
theorem dX9_takeSinger_150 : decode cX9_takeSinger 150 = .ok (.iconst 0, 1) := by decide +kernel
theorem dX9_takeSinger_151 : decode cX9_takeSinger 151 = .ok (.bipush 99, 2) := by decide +kernel
theorem dX9_takeSinger_153 : decode cX9_takeSinger 153 = .ok (.invokevirtual 167, 3) := by decide +kernel
theorem dX9_takeSinger_156 : decode cX9_takeSinger 156 = .ok (.istore_n 2, 1) := by decide +kernel
theorem dX9_takeSinger_157 : decode cX9_takeSinger 157 = .ok (.iload_n 2, 1) := by decide +kernel
theorem dX9_takeSinger_158 : decode cX9_takeSinger 158 = .ok (.ifCond .le 7, 3) := by decide +kernel
theorem dX9_takeSinger_161 : decode cX9_takeSinger 161 = .ok (.iload_n 2, 1) := by decide +kernel
theorem dX9_takeSinger_162 : decode cX9_takeSinger 162 = .ok (.goto 17, 3) := by decide +kernel
theorem dX9_takeSinger_165 : decode cX9_takeSinger 165 = .ok (.aload_n 0, 1) := by decide +kernel
theorem dX9_takeSinger_166 : decode cX9_takeSinger 166 = .ok (.aload_n 0, 1) := by decide +kernel
theorem dX9_takeSinger_167 : decode cX9_takeSinger 167 = .ok (.getfield 48, 3) := by decide +kernel
theorem dX9_takeSinger_170 : decode cX9_takeSinger 170 = .ok (.iload_n 1, 1) := by decide +kernel
theorem dX9_takeSinger_171 : decode cX9_takeSinger 171 = .ok (.iconst 3, 1) := by decide +kernel
theorem dX9_takeSinger_172 : decode cX9_takeSinger 172 = .ok (.iadd, 1) := by decide +kernel
theorem dX9_takeSinger_173 : decode cX9_takeSinger 173 = .ok (.iconst 0, 1) := by decide +kernel
theorem dX9_takeSinger_174 : decode cX9_takeSinger 174 = .ok (.bipush 99, 2) := by decide +kernel
theorem dX9_takeSinger_176 : decode cX9_takeSinger 176 = .ok (.invokevirtual 167, 3) := by decide +kernel
theorem dX9_takeSinger_179 : decode cX9_takeSinger 179 = .ok (.istore_n 2, 1) := by decide +kernel
theorem dX9_takeSinger_180 : decode cX9_takeSinger 180 = .ok (.iload_n 2, 1) := by decide +kernel
theorem dX9_takeSinger_181 : decode cX9_takeSinger 181 = .ok (.ifCond .le 7, 3) := by decide +kernel
theorem dX9_takeSinger_184 : decode cX9_takeSinger 184 = .ok (.iload_n 2, 1) := by decide +kernel
theorem dX9_takeSinger_185 : decode cX9_takeSinger 185 = .ok (.goto 17, 3) := by decide +kernel
theorem dX9_takeSinger_188 : decode cX9_takeSinger 188 = .ok (.aload_n 0, 1) := by decide +kernel
theorem dX9_takeSinger_189 : decode cX9_takeSinger 189 = .ok (.aload_n 0, 1) := by decide +kernel
theorem dX9_takeSinger_190 : decode cX9_takeSinger 190 = .ok (.getfield 48, 3) := by decide +kernel
theorem dX9_takeSinger_193 : decode cX9_takeSinger 193 = .ok (.iload_n 1, 1) := by decide +kernel
theorem dX9_takeSinger_194 : decode cX9_takeSinger 194 = .ok (.iconst 4, 1) := by decide +kernel
theorem dX9_takeSinger_195 : decode cX9_takeSinger 195 = .ok (.iadd, 1) := by decide +kernel
theorem dX9_takeSinger_196 : decode cX9_takeSinger 196 = .ok (.iconst 1, 1) := by decide +kernel
theorem dX9_takeSinger_197 : decode cX9_takeSinger 197 = .ok (.bipush 40, 2) := by decide +kernel
theorem dX9_takeSinger_199 : decode cX9_takeSinger 199 = .ok (.invokevirtual 167, 3) := by decide +kernel
theorem dX9_takeSinger_202 : decode cX9_takeSinger 202 = .ok (.istore_n 2, 1) := by decide +kernel
theorem dX9_takeSinger_203 : decode cX9_takeSinger 203 = .ok (.iload_n 2, 1) := by decide +kernel
theorem dX9_takeSinger_204 : decode cX9_takeSinger 204 = .ok (.ifCond .le 7, 3) := by decide +kernel
theorem dX9_takeSinger_207 : decode cX9_takeSinger 207 = .ok (.iload_n 2, 1) := by decide +kernel
theorem dX9_takeSinger_208 : decode cX9_takeSinger 208 = .ok (.goto 17, 3) := by decide +kernel
theorem dX9_takeSinger_211 : decode cX9_takeSinger 211 = .ok (.aload_n 0, 1) := by decide +kernel
theorem dX9_takeSinger_212 : decode cX9_takeSinger 212 = .ok (.aload_n 0, 1) := by decide +kernel
theorem dX9_takeSinger_213 : decode cX9_takeSinger 213 = .ok (.getfield 48, 3) := by decide +kernel
theorem dX9_takeSinger_216 : decode cX9_takeSinger 216 = .ok (.iload_n 1, 1) := by decide +kernel
theorem dX9_takeSinger_217 : decode cX9_takeSinger 217 = .ok (.iconst 5, 1) := by decide +kernel
theorem dX9_takeSinger_218 : decode cX9_takeSinger 218 = .ok (.iadd, 1) := by decide +kernel
theorem dX9_takeSinger_219 : decode cX9_takeSinger 219 = .ok (.iconst 0, 1) := by decide +kernel
theorem dX9_takeSinger_220 : decode cX9_takeSinger 220 = .ok (.bipush 36, 2) := by decide +kernel
theorem dX9_takeSinger_222 : decode cX9_takeSinger 222 = .ok (.invokevirtual 167, 3) := by decide +kernel
theorem dX9_takeSinger_225 : decode cX9_takeSinger 225 = .ok (.istore_n 2, 1) := by decide +kernel
theorem dX9_takeSinger_226 : decode cX9_takeSinger 226 = .ok (.iload_n 2, 1) := by decide +kernel
theorem dX9_takeSinger_227 : decode cX9_takeSinger 227 = .ok (.ifCond .le 7, 3) := by decide +kernel
theorem dX9_takeSinger_230 : decode cX9_takeSinger 230 = .ok (.iload_n 2, 1) := by decide +kernel
theorem dX9_takeSinger_231 : decode cX9_takeSinger 231 = .ok (.goto 18, 3) := by decide +kernel
theorem dX9_takeSinger_234 : decode cX9_takeSinger 234 = .ok (.aload_n 0, 1) := by decide +kernel
theorem dX9_takeSinger_235 : decode cX9_takeSinger 235 = .ok (.aload_n 0, 1) := by decide +kernel
theorem dX9_takeSinger_236 : decode cX9_takeSinger 236 = .ok (.getfield 48, 3) := by decide +kernel
theorem dX9_takeSinger_239 : decode cX9_takeSinger 239 = .ok (.iload_n 1, 1) := by decide +kernel
theorem dX9_takeSinger_240 : decode cX9_takeSinger 240 = .ok (.bipush 6, 2) := by decide +kernel
theorem dX9_takeSinger_242 : decode cX9_takeSinger 242 = .ok (.iadd, 1) := by decide +kernel
theorem dX9_takeSinger_243 : decode cX9_takeSinger 243 = .ok (.iconst 0, 1) := by decide +kernel
theorem dX9_takeSinger_244 : decode cX9_takeSinger 244 = .ok (.bipush 36, 2) := by decide +kernel
theorem dX9_takeSinger_246 : decode cX9_takeSinger 246 = .ok (.invokevirtual 167, 3) := by decide +kernel
theorem dX9_takeSinger_249 : decode cX9_takeSinger 249 = .ok (.istore_n 2, 1) := by decide +kernel
theorem dX9_takeSinger_250 : decode cX9_takeSinger 250 = .ok (.iload_n 2, 1) := by decide +kernel
theorem dX9_takeSinger_251 : decode cX9_takeSinger 251 = .ok (.ifCond .ne 30, 3) := by decide +kernel
theorem dX9_takeSinger_254 : decode cX9_takeSinger 254 = .ok (.aload_n 0, 1) := by decide +kernel
theorem dX9_takeSinger_255 : decode cX9_takeSinger 255 = .ok (.getfield 143, 3) := by decide +kernel
theorem dX9_takeSinger_258 : decode cX9_takeSinger 258 = .ok (.aload_n 0, 1) := by decide +kernel
theorem dX9_takeSinger_259 : decode cX9_takeSinger 259 = .ok (.getfield 48, 3) := by decide +kernel
theorem dX9_takeSinger_262 : decode cX9_takeSinger 262 = .ok (.iload_n 1, 1) := by decide +kernel
theorem dX9_takeSinger_263 : decode cX9_takeSinger 263 = .ok (.iconst 5, 1) := by decide +kernel
theorem dX9_takeSinger_264 : decode cX9_takeSinger 264 = .ok (.iadd, 1) := by decide +kernel
theorem dX9_takeSinger_265 : decode cX9_takeSinger 265 = .ok (.iaload, 1) := by decide +kernel
theorem dX9_takeSinger_266 : decode cX9_takeSinger 266 = .ok (.if_icmp .ge 15, 3) := by decide +kernel
theorem dX9_takeSinger_269 : decode cX9_takeSinger 269 = .ok (.aload_n 0, 1) := by decide +kernel
theorem dX9_takeSinger_270 : decode cX9_takeSinger 270 = .ok (.iconst 4, 1) := by decide +kernel
theorem dX9_takeSinger_271 : decode cX9_takeSinger 271 = .ok (.aload_n 0, 1) := by decide +kernel
theorem dX9_takeSinger_272 : decode cX9_takeSinger 272 = .ok (.getfield 140, 3) := by decide +kernel
theorem dX9_takeSinger_275 : decode cX9_takeSinger 275 = .ok (.invokevirtual 136, 3) := by decide +kernel
theorem dX9_takeSinger_278 : decode cX9_takeSinger 278 = .ok (.goto 4, 3) := by decide +kernel
theorem dX9_takeSinger_281 : decode cX9_takeSinger 281 = .ok (.iload_n 2, 1) := by decide +kernel
theorem dX9_takeSinger_282 : decode cX9_takeSinger 282 = .ok (.istore_n 2, 1) := by decide +kernel
theorem dX9_takeSinger_283 : decode cX9_takeSinger 283 = .ok (.iload_n 2, 1) := by decide +kernel
theorem dX9_takeSinger_284 : decode cX9_takeSinger 284 = .ok (.ifCond .le 7, 3) := by decide +kernel
theorem dX9_takeSinger_287 : decode cX9_takeSinger 287 = .ok (.iload_n 2, 1) := by decide +kernel
theorem dX9_takeSinger_288 : decode cX9_takeSinger 288 = .ok (.goto 18, 3) := by decide +kernel
theorem dX9_takeSinger_291 : decode cX9_takeSinger 291 = .ok (.aload_n 0, 1) := by decide +kernel
theorem dX9_takeSinger_292 : decode cX9_takeSinger 292 = .ok (.aload_n 0, 1) := by decide +kernel
theorem dX9_takeSinger_293 : decode cX9_takeSinger 293 = .ok (.getfield 48, 3) := by decide +kernel
theorem dX9_takeSinger_296 : decode cX9_takeSinger 296 = .ok (.iload_n 1, 1) := by decide +kernel
theorem dX9_takeSinger_297 : decode cX9_takeSinger 297 = .ok (.bipush 7, 2) := by decide +kernel
theorem dX9_takeSinger_299 : decode cX9_takeSinger 299 = .ok (.iadd, 1) := by decide +kernel
theorem dX9_takeSinger_300 : decode cX9_takeSinger 300 = .ok (.iconst 0, 1) := by decide +kernel
theorem dX9_takeSinger_301 : decode cX9_takeSinger 301 = .ok (.bipush 40, 2) := by decide +kernel
theorem dX9_takeSinger_303 : decode cX9_takeSinger 303 = .ok (.invokevirtual 167, 3) := by decide +kernel
theorem dX9_takeSinger_306 : decode cX9_takeSinger 306 = .ok (.istore_n 2, 1) := by decide +kernel
theorem dX9_takeSinger_307 : decode cX9_takeSinger 307 = .ok (.aload_n 0, 1) := by decide +kernel
theorem dX9_takeSinger_308 : decode cX9_takeSinger 308 = .ok (.getfield 48, 3) := by decide +kernel
theorem dX9_takeSinger_311 : decode cX9_takeSinger 311 = .ok (.iload_n 1, 1) := by decide +kernel
theorem dX9_takeSinger_312 : decode cX9_takeSinger 312 = .ok (.iconst 2, 1) := by decide +kernel
theorem dX9_takeSinger_313 : decode cX9_takeSinger 313 = .ok (.iadd, 1) := by decide +kernel
theorem dX9_takeSinger_314 : decode cX9_takeSinger 314 = .ok (.dup2, 1) := by decide +kernel
theorem dX9_takeSinger_315 : decode cX9_takeSinger 315 = .ok (.iaload, 1) := by decide +kernel
theorem dX9_takeSinger_316 : decode cX9_takeSinger 316 = .ok (.bipush 50, 2) := by decide +kernel
theorem dX9_takeSinger_318 : decode cX9_takeSinger 318 = .ok (.isub, 1) := by decide +kernel
theorem dX9_takeSinger_319 : decode cX9_takeSinger 319 = .ok (.iastore, 1) := by decide +kernel
theorem dX9_takeSinger_320 : decode cX9_takeSinger 320 = .ok (.aload_n 0, 1) := by decide +kernel
theorem dX9_takeSinger_321 : decode cX9_takeSinger 321 = .ok (.getfield 48, 3) := by decide +kernel
theorem dX9_takeSinger_324 : decode cX9_takeSinger 324 = .ok (.iload_n 1, 1) := by decide +kernel
theorem dX9_takeSinger_325 : decode cX9_takeSinger 325 = .ok (.bipush 7, 2) := by decide +kernel
theorem dX9_takeSinger_327 : decode cX9_takeSinger 327 = .ok (.iadd, 1) := by decide +kernel
theorem dX9_takeSinger_328 : decode cX9_takeSinger 328 = .ok (.dup2, 1) := by decide +kernel
theorem dX9_takeSinger_329 : decode cX9_takeSinger 329 = .ok (.iaload, 1) := by decide +kernel
theorem dX9_takeSinger_330 : decode cX9_takeSinger 330 = .ok (.bipush 20, 2) := by decide +kernel
theorem dX9_takeSinger_332 : decode cX9_takeSinger 332 = .ok (.isub, 1) := by decide +kernel
theorem dX9_takeSinger_333 : decode cX9_takeSinger 333 = .ok (.iastore, 1) := by decide +kernel
theorem dX9_takeSinger_334 : decode cX9_takeSinger 334 = .ok (.aload_n 0, 1) := by decide +kernel
theorem dX9_takeSinger_335 : decode cX9_takeSinger 335 = .ok (.dup, 1) := by decide +kernel
theorem dX9_takeSinger_336 : decode cX9_takeSinger 336 = .ok (.getfield 160, 3) := by decide +kernel
theorem dX9_takeSinger_339 : decode cX9_takeSinger 339 = .ok (.iconst 1, 1) := by decide +kernel
theorem dX9_takeSinger_340 : decode cX9_takeSinger 340 = .ok (.iadd, 1) := by decide +kernel
theorem dX9_takeSinger_341 : decode cX9_takeSinger 341 = .ok (.putfield 160, 3) := by decide +kernel
theorem dX9_takeSinger_344 : decode cX9_takeSinger 344 = .ok (.iload_n 2, 1) := by decide +kernel
theorem dX9_takeSinger_345 : decode cX9_takeSinger 345 = .ok (.ifCond .le 7, 3) := by decide +kernel
theorem dX9_takeSinger_348 : decode cX9_takeSinger 348 = .ok (.iload_n 2, 1) := by decide +kernel
theorem dX9_takeSinger_349 : decode cX9_takeSinger 349 = .ok (.goto 7, 3) := by decide +kernel
theorem dX9_takeSinger_352 : decode cX9_takeSinger 352 = .ok (.aload_n 0, 1) := by decide +kernel
theorem dX9_takeSinger_353 : decode cX9_takeSinger 353 = .ok (.invokevirtual 171, 3) := by decide +kernel
theorem dX9_takeSinger_356 : decode cX9_takeSinger 356 = .ok (.ireturn, 1) := by decide +kernel
theorem dX9_singers_0 : decode cX9_singers 0 = .ok (.aload_n 0, 1) := by decide +kernel
theorem dX9_singers_1 : decode cX9_singers 1 = .ok (.iconst (-1), 1) := by decide +kernel
theorem dX9_singers_2 : decode cX9_singers 2 = .ok (.putfield 39, 3) := by decide +kernel
theorem dX9_singers_5 : decode cX9_singers 5 = .ok (.aload_n 0, 1) := by decide +kernel
theorem dX9_singers_6 : decode cX9_singers 6 = .ok (.iconst 0, 1) := by decide +kernel
theorem dX9_singers_7 : decode cX9_singers 7 = .ok (.putfield 106, 3) := by decide +kernel
theorem dX9_singers_10 : decode cX9_singers 10 = .ok (.aload_n 0, 1) := by decide +kernel
theorem dX9_singers_11 : decode cX9_singers 11 = .ok (.iconst 0, 1) := by decide +kernel
theorem dX9_singers_12 : decode cX9_singers 12 = .ok (.putfield 160, 3) := by decide +kernel
theorem dX9_singers_15 : decode cX9_singers 15 = .ok (.iconst 0, 1) := by decide +kernel
theorem dX9_singers_16 : decode cX9_singers 16 = .ok (.istore_n 1, 1) := by decide +kernel
theorem dX9_singers_17 : decode cX9_singers 17 = .ok (.iload_n 1, 1) := by decide +kernel
theorem dX9_singers_18 : decode cX9_singers 18 = .ok (.ifCond .ne 18, 3) := by decide +kernel
theorem dX9_singers_21 : decode cX9_singers 21 = .ok (.aload_n 0, 1) := by decide +kernel
theorem dX9_singers_22 : decode cX9_singers 22 = .ok (.invokevirtual 109, 3) := by decide +kernel
theorem dX9_singers_25 : decode cX9_singers 25 = .ok (.ifCond .lt 11, 3) := by decide +kernel
theorem dX9_singers_28 : decode cX9_singers 28 = .ok (.aload_n 0, 1) := by decide +kernel
theorem dX9_singers_29 : decode cX9_singers 29 = .ok (.invokevirtual 190, 3) := by decide +kernel
theorem dX9_singers_32 : decode cX9_singers 32 = .ok (.istore_n 1, 1) := by decide +kernel
theorem dX9_singers_33 : decode cX9_singers 33 = .ok (.goto (-16), 3) := by decide +kernel
theorem dX9_singers_36 : decode cX9_singers 36 = .ok (.aload_n 0, 1) := by decide +kernel
theorem dX9_singers_37 : decode cX9_singers 37 = .ok (.iconst 0, 1) := by decide +kernel
theorem dX9_singers_38 : decode cX9_singers 38 = .ok (.putfield 100, 3) := by decide +kernel
theorem dX9_singers_41 : decode cX9_singers 41 = .ok (.iload_n 1, 1) := by decide +kernel
theorem dX9_singers_42 : decode cX9_singers 42 = .ok (.ifCond .le 8, 3) := by decide +kernel
theorem dX9_singers_45 : decode cX9_singers 45 = .ok (.bipush (-10), 2) := by decide +kernel
theorem dX9_singers_47 : decode cX9_singers 47 = .ok (.iload_n 1, 1) := by decide +kernel
theorem dX9_singers_48 : decode cX9_singers 48 = .ok (.isub, 1) := by decide +kernel
theorem dX9_singers_49 : decode cX9_singers 49 = .ok (.ireturn, 1) := by decide +kernel
theorem dX9_singers_50 : decode cX9_singers 50 = .ok (.aload_n 0, 1) := by decide +kernel
theorem dX9_singers_51 : decode cX9_singers 51 = .ok (.aload_n 0, 1) := by decide +kernel
theorem dX9_singers_52 : decode cX9_singers 52 = .ok (.getfield 160, 3) := by decide +kernel
theorem dX9_singers_55 : decode cX9_singers 55 = .ok (.putfield 87, 3) := by decide +kernel
theorem dX9_singers_58 : decode cX9_singers 58 = .ok (.iconst 0, 1) := by decide +kernel
