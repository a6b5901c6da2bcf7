theorem dX0_init_0 : decode cX0_init 0 = .ok (.aload_n 0, 1) := by decide +kernel
theorem dX0_init_1 : decode cX0_init 1 = .ok (.invokespecial 3, 3) := by decide +kernel
theorem dX0_init_4 : decode cX0_init 4 = .ok (.aload_n 0, 1) := by decide +kernel
theorem dX0_init_5 : decode cX0_init 5 = .ok (.sipush 256, 3) := by decide +kernel
theorem dX0_init_8 : decode cX0_init 8 = .ok (.newarray .int, 2) := by decide +kernel
theorem dX0_init_10 : decode cX0_init 10 = .ok (.putfield 9, 3) := by decide +kernel
theorem dX0_init_13 : decode cX0_init 13 = .ok (.aload_n 0, 1) := by decide +kernel
theorem dX0_init_14 : decode cX0_init 14 = .ok (.sipush 256, 3) := by decide +kernel
theorem dX0_init_17 : decode cX0_init 17 = .ok (.newarray .int, 2) := by decide +kernel
theorem dX0_init_19 : decode cX0_init 19 = .ok (.putfield 15, 3) := by decide +kernel
theorem dX0_init_22 : decode cX0_init 22 = .ok (.aload_n 0, 1) := by decide +kernel
theorem dX0_init_23 : decode cX0_init 23 = .ok (.iconst 0, 1) := by decide +kernel
theorem dX0_init_24 : decode cX0_init 24 = .ok (.putfield 18, 3) := by decide +kernel
theorem dX0_init_27 : decode cX0_init 27 = .ok (.return_, 1) := by decide +kernel
theorem dX0_fewestAirs_0 : decode cX0_fewestAirs 0 = .ok (.aload_n 0, 1) := by decide +kernel
theorem dX0_fewestAirs_1 : decode cX0_fewestAirs 1 = .ok (.getfield 9, 3) := by decide +kernel
theorem dX0_fewestAirs_4 : decode cX0_fewestAirs 4 = .ok (.bipush (-6), 2) := by decide +kernel
theorem dX0_fewestAirs_6 : decode cX0_fewestAirs 6 = .ok (.invokestatic 22, 3) := by decide +kernel
theorem dX0_fewestAirs_9 : decode cX0_fewestAirs 9 = .ok (.aload_n 0, 1) := by decide +kernel
theorem dX0_fewestAirs_10 : decode cX0_fewestAirs 10 = .ok (.iconst 0, 1) := by decide +kernel
theorem dX0_fewestAirs_11 : decode cX0_fewestAirs 11 = .ok (.putfield 18, 3) := by decide +kernel
theorem dX0_fewestAirs_14 : decode cX0_fewestAirs 14 = .ok (.aload_n 0, 1) := by decide +kernel
theorem dX0_fewestAirs_15 : decode cX0_fewestAirs 15 = .ok (.iload_n 1, 1) := by decide +kernel
theorem dX0_fewestAirs_16 : decode cX0_fewestAirs 16 = .ok (.iconst 0, 1) := by decide +kernel
theorem dX0_fewestAirs_17 : decode cX0_fewestAirs 17 = .ok (.invokevirtual 28, 3) := by decide +kernel
theorem dX0_fewestAirs_20 : decode cX0_fewestAirs 20 = .ok (.iconst 0, 1) := by decide +kernel
theorem dX0_fewestAirs_21 : decode cX0_fewestAirs 21 = .ok (.istore 5, 2) := by decide +kernel
theorem dX0_fewestAirs_23 : decode cX0_fewestAirs 23 = .ok (.iload 5, 2) := by decide +kernel
theorem dX0_fewestAirs_25 : decode cX0_fewestAirs 25 = .ok (.sipush 256, 3) := by decide +kernel
theorem dX0_fewestAirs_28 : decode cX0_fewestAirs 28 = .ok (.if_icmp .ge 77, 3) := by decide +kernel
theorem dX0_fewestAirs_31 : decode cX0_fewestAirs 31 = .ok (.iload 5, 2) := by decide +kernel
theorem dX0_fewestAirs_33 : decode cX0_fewestAirs 33 = .ok (.aload_n 0, 1) := by decide +kernel
theorem dX0_fewestAirs_34 : decode cX0_fewestAirs 34 = .ok (.getfield 18, 3) := by decide +kernel
theorem dX0_fewestAirs_37 : decode cX0_fewestAirs 37 = .ok (.if_icmp .ge 68, 3) := by decide +kernel
theorem dX0_fewestAirs_40 : decode cX0_fewestAirs 40 = .ok (.aload_n 0, 1) := by decide +kernel
theorem dX0_fewestAirs_41 : decode cX0_fewestAirs 41 = .ok (.getfield 9, 3) := by decide +kernel
theorem dX0_fewestAirs_44 : decode cX0_fewestAirs 44 = .ok (.iload_n 2, 1) := by decide +kernel
theorem dX0_fewestAirs_45 : decode cX0_fewestAirs 45 = .ok (.iaload, 1) := by decide +kernel
theorem dX0_fewestAirs_46 : decode cX0_fewestAirs 46 = .ok (.bipush (-6), 2) := by decide +kernel
theorem dX0_fewestAirs_48 : decode cX0_fewestAirs 48 = .ok (.if_icmp .ne 57, 3) := by decide +kernel
theorem dX0_fewestAirs_51 : decode cX0_fewestAirs 51 = .ok (.aload_n 0, 1) := by decide +kernel
theorem dX0_fewestAirs_52 : decode cX0_fewestAirs 52 = .ok (.getfield 15, 3) := by decide +kernel
theorem dX0_fewestAirs_55 : decode cX0_fewestAirs 55 = .ok (.iload 5, 2) := by decide +kernel
theorem dX0_fewestAirs_57 : decode cX0_fewestAirs 57 = .ok (.iaload, 1) := by decide +kernel
theorem dX0_fewestAirs_58 : decode cX0_fewestAirs 58 = .ok (.istore 6, 2) := by decide +kernel
theorem dX0_fewestAirs_60 : decode cX0_fewestAirs 60 = .ok (.aload_n 0, 1) := by decide +kernel
theorem dX0_fewestAirs_61 : decode cX0_fewestAirs 61 = .ok (.iload 6, 2) := by decide +kernel
theorem dX0_fewestAirs_63 : decode cX0_fewestAirs 63 = .ok (.iload_n 3, 1) := by decide +kernel
theorem dX0_fewestAirs_64 : decode cX0_fewestAirs 64 = .ok (.invokestatic 32, 3) := by decide +kernel
theorem dX0_fewestAirs_67 : decode cX0_fewestAirs 67 = .ok (.aload_n 0, 1) := by decide +kernel
theorem dX0_fewestAirs_68 : decode cX0_fewestAirs 68 = .ok (.getfield 9, 3) := by decide +kernel
theorem dX0_fewestAirs_71 : decode cX0_fewestAirs 71 = .ok (.iload 6, 2) := by decide +kernel
theorem dX0_fewestAirs_73 : decode cX0_fewestAirs 73 = .ok (.iaload, 1) := by decide +kernel
theorem dX0_fewestAirs_74 : decode cX0_fewestAirs 74 = .ok (.iconst 1, 1) := by decide +kernel
theorem dX0_fewestAirs_75 : decode cX0_fewestAirs 75 = .ok (.iadd, 1) := by decide +kernel
theorem dX0_fewestAirs_76 : decode cX0_fewestAirs 76 = .ok (.invokevirtual 28, 3) := by decide +kernel
theorem dX0_fewestAirs_79 : decode cX0_fewestAirs 79 = .ok (.aload_n 0, 1) := by decide +kernel
theorem dX0_fewestAirs_80 : decode cX0_fewestAirs 80 = .ok (.iload 6, 2) := by decide +kernel
theorem dX0_fewestAirs_82 : decode cX0_fewestAirs 82 = .ok (.iload 4, 2) := by decide +kernel
theorem dX0_fewestAirs_84 : decode cX0_fewestAirs 84 = .ok (.invokestatic 32, 3) := by decide +kernel
theorem dX0_fewestAirs_87 : decode cX0_fewestAirs 87 = .ok (.aload_n 0, 1) := by decide +kernel
theorem dX0_fewestAirs_88 : decode cX0_fewestAirs 88 = .ok (.getfield 9, 3) := by decide +kernel
theorem dX0_fewestAirs_91 : decode cX0_fewestAirs 91 = .ok (.iload 6, 2) := by decide +kernel
theorem dX0_fewestAirs_93 : decode cX0_fewestAirs 93 = .ok (.iaload, 1) := by decide +kernel
theorem dX0_fewestAirs_94 : decode cX0_fewestAirs 94 = .ok (.iconst 1, 1) := by decide +kernel
theorem dX0_fewestAirs_95 : decode cX0_fewestAirs 95 = .ok (.iadd, 1) := by decide +kernel
theorem dX0_fewestAirs_96 : decode cX0_fewestAirs 96 = .ok (.invokevirtual 28, 3) := by decide +kernel
theorem dX0_fewestAirs_99 : decode cX0_fewestAirs 99 = .ok (.iinc 5 1, 3) := by decide +kernel
theorem dX0_fewestAirs_102 : decode cX0_fewestAirs 102 = .ok (.goto (-79), 3) := by decide +kernel
theorem dX0_fewestAirs_105 : decode cX0_fewestAirs 105 = .ok (.aload_n 0, 1) := by decide +kernel
theorem dX0_fewestAirs_106 : decode cX0_fewestAirs 106 = .ok (.getfield 9, 3) := by decide +kernel
theorem dX0_fewestAirs_109 : decode cX0_fewestAirs 109 = .ok (.iload_n 2, 1) := by decide +kernel
theorem dX0_fewestAirs_110 : decode cX0_fewestAirs 110 = .ok (.iaload, 1) := by decide +kernel
theorem dX0_fewestAirs_111 : decode cX0_fewestAirs 111 = .ok (.ireturn, 1) := by decide +kernel
theorem dX0_reach_0 : decode cX0_reach 0 = .ok (.aload_n 0, 1) := by decide +kernel
theorem dX0_reach_1 : decode cX0_reach 1 = .ok (.getfield 9, 3) := by decide +kernel
theorem dX0_reach_4 : decode cX0_reach 4 = .ok (.iload_n 1, 1) := by decide +kernel
theorem dX0_reach_5 : decode cX0_reach 5 = .ok (.iaload, 1) := by decide +kernel
theorem dX0_reach_6 : decode cX0_reach 6 = .ok (.bipush (-6), 2) := by decide +kernel
theorem dX0_reach_8 : decode cX0_reach 8 = .ok (.if_icmp .ne 40, 3) := by decide +kernel
theorem dX0_reach_11 : decode cX0_reach 11 = .ok (.aload_n 0, 1) := by decide +kernel
theorem dX0_reach_12 : decode cX0_reach 12 = .ok (.getfield 18, 3) := by decide +kernel
theorem dX0_reach_15 : decode cX0_reach 15 = .ok (.sipush 256, 3) := by decide +kernel
theorem dX0_reach_18 : decode cX0_reach 18 = .ok (.if_icmp .ge 30, 3) := by decide +kernel
theorem dX0_reach_21 : decode cX0_reach 21 = .ok (.aload_n 0, 1) := by decide +kernel
theorem dX0_reach_22 : decode cX0_reach 22 = .ok (.getfield 9, 3) := by decide +kernel
theorem dX0_reach_25 : decode cX0_reach 25 = .ok (.iload_n 1, 1) := by decide +kernel
theorem dX0_reach_26 : decode cX0_reach 26 = .ok (.iload_n 2, 1) := by decide +kernel
theorem dX0_reach_27 : decode cX0_reach 27 = .ok (.iastore, 1) := by decide +kernel
theorem dX0_reach_28 : decode cX0_reach 28 = .ok (.aload_n 0, 1) := by decide +kernel
theorem dX0_reach_29 : decode cX0_reach 29 = .ok (.getfield 15, 3) := by decide +kernel
theorem dX0_reach_32 : decode cX0_reach 32 = .ok (.aload_n 0, 1) := by decide +kernel
theorem dX0_reach_33 : decode cX0_reach 33 = .ok (.getfield 18, 3) := by decide +kernel
theorem dX0_reach_36 : decode cX0_reach 36 = .ok (.iload_n 1, 1) := by decide +kernel
theorem dX0_reach_37 : decode cX0_reach 37 = .ok (.iastore, 1) := by decide +kernel
theorem dX0_reach_38 : decode cX0_reach 38 = .ok (.aload_n 0, 1) := by decide +kernel
theorem dX0_reach_39 : decode cX0_reach 39 = .ok (.dup, 1) := by decide +kernel
theorem dX0_reach_40 : decode cX0_reach 40 = .ok (.getfield 18, 3) := by decide +kernel
theorem dX0_reach_43 : decode cX0_reach 43 = .ok (.iconst 1, 1) := by decide +kernel
theorem dX0_reach_44 : decode cX0_reach 44 = .ok (.iadd, 1) := by decide +kernel
theorem dX0_reach_45 : decode cX0_reach 45 = .ok (.putfield 18, 3) := by decide +kernel
theorem dX0_reach_48 : decode cX0_reach 48 = .ok (.return_, 1) := by decide +kernel
theorem dX1_canGet_0 : decode cX1_canGet 0 = .ok (.aload_n 0, 1) := by decide +kernel
theorem dX1_canGet_1 : decode cX1_canGet 1 = .ok (.getfield 9, 3) := by decide +kernel
theorem dX1_canGet_4 : decode cX1_canGet 4 = .ok (.iload_n 2, 1) := by decide +kernel
theorem dX1_canGet_5 : decode cX1_canGet 5 = .ok (.iaload, 1) := by decide +kernel
theorem dX1_canGet_6 : decode cX1_canGet 6 = .ok (.istore_n 3, 1) := by decide +kernel
theorem dX1_canGet_7 : decode cX1_canGet 7 = .ok (.iload_n 3, 1) := by decide +kernel
theorem dX1_canGet_8 : decode cX1_canGet 8 = .ok (.ifCond .le 27, 3) := by decide +kernel
theorem dX1_canGet_11 : decode cX1_canGet 11 = .ok (.aload_n 0, 1) := by decide +kernel
theorem dX1_canGet_12 : decode cX1_canGet 12 = .ok (.getfield 15, 3) := by decide +kernel
theorem dX1_canGet_15 : decode cX1_canGet 15 = .ok (.iload_n 1, 1) := by decide +kernel
theorem dX1_canGet_16 : decode cX1_canGet 16 = .ok (.iaload, 1) := by decide +kernel
theorem dX1_canGet_17 : decode cX1_canGet 17 = .ok (.aload_n 0, 1) := by decide +kernel
theorem dX1_canGet_18 : decode cX1_canGet 18 = .ok (.getfield 18, 3) := by decide +kernel
theorem dX1_canGet_21 : decode cX1_canGet 21 = .ok (.iload_n 2, 1) := by decide +kernel
theorem dX1_canGet_22 : decode cX1_canGet 22 = .ok (.iaload, 1) := by decide +kernel
theorem dX1_canGet_23 : decode cX1_canGet 23 = .ok (.isub, 1) := by decide +kernel
theorem dX1_canGet_24 : decode cX1_canGet 24 = .ok (.invokestatic 21, 3) := by decide +kernel
theorem dX1_canGet_27 : decode cX1_canGet 27 = .ok (.iload_n 3, 1) := by decide +kernel
theorem dX1_canGet_28 : decode cX1_canGet 28 = .ok (.if_icmp .gt 7, 3) := by decide +kernel
theorem dX1_canGet_31 : decode cX1_canGet 31 = .ok (.iconst 1, 1) := by decide +kernel
theorem dX1_canGet_32 : decode cX1_canGet 32 = .ok (.goto 4, 3) := by decide +kernel
theorem dX1_canGet_35 : decode cX1_canGet 35 = .ok (.iconst 0, 1) := by decide +kernel
theorem dX1_canGet_36 : decode cX1_canGet 36 = .ok (.ireturn, 1) := by decide +kernel
theorem dX1_byAddressees_0 : decode cX1_byAddressees 0 = .ok (.iconst 0, 1) := by decide +kernel
theorem dX1_byAddressees_1 : decode cX1_byAddressees 1 = .ok (.istore_n 1, 1) := by decide +kernel
theorem dX1_byAddressees_2 : decode cX1_byAddressees 2 = .ok (.iconst 0, 1) := by decide +kernel
theorem dX1_byAddressees_3 : decode cX1_byAddressees 3 = .ok (.istore_n 2, 1) := by decide +kernel
theorem dX1_byAddressees_4 : decode cX1_byAddressees 4 = .ok (.iload_n 2, 1) := by decide +kernel
theorem dX1_byAddressees_5 : decode cX1_byAddressees 5 = .ok (.bipush 8, 2) := by decide +kernel
theorem dX1_byAddressees_7 : decode cX1_byAddressees 7 = .ok (.if_icmp .ge 31, 3) := by decide +kernel
theorem dX1_byAddressees_10 : decode cX1_byAddressees 10 = .ok (.aload_n 0, 1) := by decide +kernel
theorem dX1_byAddressees_11 : decode cX1_byAddressees 11 = .ok (.getfield 27, 3) := by decide +kernel
theorem dX1_byAddressees_14 : decode cX1_byAddressees 14 = .ok (.iload_n 2, 1) := by decide +kernel
theorem dX1_byAddressees_15 : decode cX1_byAddressees 15 = .ok (.iaload, 1) := by decide +kernel
theorem dX1_byAddressees_16 : decode cX1_byAddressees 16 = .ok (.istore_n 3, 1) := by decide +kernel
theorem dX1_byAddressees_17 : decode cX1_byAddressees 17 = .ok (.aload_n 0, 1) := by decide +kernel
theorem dX1_byAddressees_18 : decode cX1_byAddressees 18 = .ok (.iload_n 3, 1) := by decide +kernel
theorem dX1_byAddressees_19 : decode cX1_byAddressees 19 = .ok (.iload_n 2, 1) := by decide +kernel
theorem dX1_byAddressees_20 : decode cX1_byAddressees 20 = .ok (.invokestatic 30, 3) := by decide +kernel
theorem dX1_byAddressees_23 : decode cX1_byAddressees 23 = .ok (.ifCond .eq 9, 3) := by decide +kernel
theorem dX1_byAddressees_26 : decode cX1_byAddressees 26 = .ok (.iload_n 1, 1) := by decide +kernel
theorem dX1_byAddressees_27 : decode cX1_byAddressees 27 = .ok (.iconst 1, 1) := by decide +kernel
theorem dX1_byAddressees_28 : decode cX1_byAddressees 28 = .ok (.iload_n 3, 1) := by decide +kernel
theorem dX1_byAddressees_29 : decode cX1_byAddressees 29 = .ok (.ishl, 1) := by decide +kernel
theorem dX1_byAddressees_30 : decode cX1_byAddressees 30 = .ok (.ior, 1) := by decide +kernel
theorem dX1_byAddressees_31 : decode cX1_byAddressees 31 = .ok (.istore_n 1, 1) := by decide +kernel
theorem dX1_byAddressees_32 : decode cX1_byAddressees 32 = .ok (.iinc 2 1, 3) := by decide +kernel
theorem dX1_byAddressees_35 : decode cX1_byAddressees 35 = .ok (.goto (-31), 3) := by decide +kernel
theorem dX1_byAddressees_38 : decode cX1_byAddressees 38 = .ok (.iload_n 1, 1) := by decide +kernel
theorem dX1_byAddressees_39 : decode cX1_byAddressees 39 = .ok (.invokestatic 36, 3) := by decide +kernel
theorem dX1_byAddressees_42 : decode cX1_byAddressees 42 = .ok (.ireturn, 1) := by decide +kernel
theorem dX1_byWhoever_0 : decode cX1_byWhoever 0 = .ok (.lconst 1, 1) := by decide +kernel
theorem dX1_byWhoever_1 : decode cX1_byWhoever 1 = .ok (.lstore_n 1, 1) := by decide +kernel
theorem dX1_byWhoever_2 : decode cX1_byWhoever 2 = .ok (.iconst 0, 1) := by decide +kernel
theorem dX1_byWhoever_3 : decode cX1_byWhoever 3 = .ok (.istore_n 3, 1) := by decide +kernel
theorem dX1_byWhoever_4 : decode cX1_byWhoever 4 = .ok (.iload_n 3, 1) := by decide +kernel
theorem dX1_byWhoever_5 : decode cX1_byWhoever 5 = .ok (.bipush 8, 2) := by decide +kernel
theorem dX1_byWhoever_7 : decode cX1_byWhoever 7 = .ok (.if_icmp .ge 52, 3) := by decide +kernel
theorem dX1_byWhoever_10 : decode cX1_byWhoever 10 = .ok (.lload_n 1, 1) := by decide +kernel
theorem dX1_byWhoever_11 : decode cX1_byWhoever 11 = .ok (.lstore 4, 2) := by decide +kernel
theorem dX1_byWhoever_13 : decode cX1_byWhoever 13 = .ok (.iconst 0, 1) := by decide +kernel
theorem dX1_byWhoever_14 : decode cX1_byWhoever 14 = .ok (.istore 6, 2) := by decide +kernel
theorem dX1_byWhoever_16 : decode cX1_byWhoever 16 = .ok (.iload 6, 2) := by decide +kernel
theorem dX1_byWhoever_18 : decode cX1_byWhoever 18 = .ok (.bipush 6, 2) := by decide +kernel
theorem dX1_byWhoever_20 : decode cX1_byWhoever 20 = .ok (.if_icmp .ge 30, 3) := by decide +kernel
theorem dX1_byWhoever_23 : decode cX1_byWhoever 23 = .ok (.aload_n 0, 1) := by decide +kernel
theorem dX1_byWhoever_24 : decode cX1_byWhoever 24 = .ok (.iload 6, 2) := by decide +kernel
theorem dX1_byWhoever_26 : decode cX1_byWhoever 26 = .ok (.iload_n 3, 1) := by decide +kernel
theorem dX1_byWhoever_27 : decode cX1_byWhoever 27 = .ok (.invokestatic 30, 3) := by decide +kernel
theorem dX1_byWhoever_30 : decode cX1_byWhoever 30 = .ok (.ifCond .eq 14, 3) := by decide +kernel
theorem dX1_byWhoever_33 : decode cX1_byWhoever 33 = .ok (.lload 4, 2) := by decide +kernel
theorem dX1_byWhoever_35 : decode cX1_byWhoever 35 = .ok (.iload 6, 2) := by decide +kernel
theorem dX1_byWhoever_37 : decode cX1_byWhoever 37 = .ok (.lload_n 1, 1) := by decide +kernel
theorem dX1_byWhoever_38 : decode cX1_byWhoever 38 = .ok (.invokestatic 41, 3) := by decide +kernel
theorem dX1_byWhoever_41 : decode cX1_byWhoever 41 = .ok (.lor, 1) := by decide +kernel
theorem dX1_byWhoever_42 : decode cX1_byWhoever 42 = .ok (.lstore 4, 2) := by decide +kernel
theorem dX1_byWhoever_44 : decode cX1_byWhoever 44 = .ok (.iinc 6 1, 3) := by decide +kernel
theorem dX1_byWhoever_47 : decode cX1_byWhoever 47 = .ok (.goto (-31), 3) := by decide +kernel
theorem dX1_byWhoever_50 : decode cX1_byWhoever 50 = .ok (.lload 4, 2) := by decide +kernel
theorem dX1_byWhoever_52 : decode cX1_byWhoever 52 = .ok (.lstore_n 1, 1) := by decide +kernel
theorem dX1_byWhoever_53 : decode cX1_byWhoever 53 = .ok (.iinc 3 1, 3) := by decide +kernel
theorem dX1_byWhoever_56 : decode cX1_byWhoever 56 = .ok (.goto (-52), 3) := by decide +kernel
theorem dX1_byWhoever_59 : decode cX1_byWhoever 59 = .ok (.iconst 0, 1) := by decide +kernel
theorem dX1_byWhoever_60 : decode cX1_byWhoever 60 = .ok (.istore_n 3, 1) := by decide +kernel
theorem dX1_byWhoever_61 : decode cX1_byWhoever 61 = .ok (.iconst 0, 1) := by decide +kernel
theorem dX1_byWhoever_62 : decode cX1_byWhoever 62 = .ok (.istore 4, 2) := by decide +kernel
theorem dX1_byWhoever_64 : decode cX1_byWhoever 64 = .ok (.iload 4, 2) := by decide +kernel
theorem dX1_byWhoever_66 : decode cX1_byWhoever 66 = .ok (.bipush 64, 2) := by decide +kernel
theorem dX1_byWhoever_68 : decode cX1_byWhoever 68 = .ok (.if_icmp .ge 30, 3) := by decide +kernel
theorem dX1_byWhoever_71 : decode cX1_byWhoever 71 = .ok (.lload_n 1, 1) := by decide +kernel
theorem dX1_byWhoever_72 : decode cX1_byWhoever 72 = .ok (.iload 4, 2) := by decide +kernel
theorem dX1_byWhoever_74 : decode cX1_byWhoever 74 = .ok (.lshr, 1) := by decide +kernel
theorem dX1_byWhoever_75 : decode cX1_byWhoever 75 = .ok (.lconst 1, 1) := by decide +kernel
theorem dX1_byWhoever_76 : decode cX1_byWhoever 76 = .ok (.land, 1) := by decide +kernel
theorem dX1_byWhoever_77 : decode cX1_byWhoever 77 = .ok (.lconst 1, 1) := by decide +kernel
theorem dX1_byWhoever_78 : decode cX1_byWhoever 78 = .ok (.lcmp, 1) := by decide +kernel
theorem dX1_byWhoever_79 : decode cX1_byWhoever 79 = .ok (.ifCond .ne 13, 3) := by decide +kernel
theorem dX1_byWhoever_82 : decode cX1_byWhoever 82 = .ok (.iload_n 3, 1) := by decide +kernel
theorem dX1_byWhoever_83 : decode cX1_byWhoever 83 = .ok (.iload 4, 2) := by decide +kernel
theorem dX1_byWhoever_85 : decode cX1_byWhoever 85 = .ok (.invokestatic 36, 3) := by decide +kernel
theorem dX1_byWhoever_88 : decode cX1_byWhoever 88 = .ok (.invokestatic 45, 3) := by decide +kernel
theorem dX1_byWhoever_91 : decode cX1_byWhoever 91 = .ok (.istore_n 3, 1) := by decide +kernel
theorem dX1_byWhoever_92 : decode cX1_byWhoever 92 = .ok (.iinc 4 1, 3) := by decide +kernel
theorem dX1_byWhoever_95 : decode cX1_byWhoever 95 = .ok (.goto (-31), 3) := by decide +kernel
theorem dX1_byWhoever_98 : decode cX1_byWhoever 98 = .ok (.iload_n 3, 1) := by decide +kernel
theorem dX1_byWhoever_99 : decode cX1_byWhoever 99 = .ok (.ireturn, 1) := by decide +kernel
theorem dX1_joinedBy_0 : decode cX1_joinedBy 0 = .ok (.lconst 0, 1) := by decide +kernel
theorem dX1_joinedBy_1 : decode cX1_joinedBy 1 = .ok (.lstore_n 3, 1) := by decide +kernel
theorem dX1_joinedBy_2 : decode cX1_joinedBy 2 = .ok (.iconst 0, 1) := by decide +kernel
theorem dX1_joinedBy_3 : decode cX1_joinedBy 3 = .ok (.istore 5, 2) := by decide +kernel
theorem dX1_joinedBy_5 : decode cX1_joinedBy 5 = .ok (.iload 5, 2) := by decide +kernel
theorem dX1_joinedBy_7 : decode cX1_joinedBy 7 = .ok (.bipush 64, 2) := by decide +kernel
theorem dX1_joinedBy_9 : decode cX1_joinedBy 9 = .ok (.if_icmp .ge 40, 3) := by decide +kernel
theorem dX1_joinedBy_12 : decode cX1_joinedBy 12 = .ok (.lload_n 1, 1) := by decide +kernel
theorem dX1_joinedBy_13 : decode cX1_joinedBy 13 = .ok (.iload 5, 2) := by decide +kernel
theorem dX1_joinedBy_15 : decode cX1_joinedBy 15 = .ok (.lshr, 1) := by decide +kernel
theorem dX1_joinedBy_16 : decode cX1_joinedBy 16 = .ok (.lconst 1, 1) := by decide +kernel
theorem dX1_joinedBy_17 : decode cX1_joinedBy 17 = .ok (.land, 1) := by decide +kernel
theorem dX1_joinedBy_18 : decode cX1_joinedBy 18 = .ok (.lconst 1, 1) := by decide +kernel
theorem dX1_joinedBy_19 : decode cX1_joinedBy 19 = .ok (.lcmp, 1) := by decide +kernel
theorem dX1_joinedBy_20 : decode cX1_joinedBy 20 = .ok (.ifCond .ne 23, 3) := by decide +kernel
theorem dX1_joinedBy_23 : decode cX1_joinedBy 23 = .ok (.iload 5, 2) := by decide +kernel
theorem dX1_joinedBy_25 : decode cX1_joinedBy 25 = .ok (.iload_n 0, 1) := by decide +kernel
theorem dX1_joinedBy_26 : decode cX1_joinedBy 26 = .ok (.invokestatic 49, 3) := by decide +kernel
theorem dX1_joinedBy_29 : decode cX1_joinedBy 29 = .ok (.ifCond .ne 14, 3) := by decide +kernel
theorem dX1_joinedBy_32 : decode cX1_joinedBy 32 = .ok (.lload_n 3, 1) := by decide +kernel
theorem dX1_joinedBy_33 : decode cX1_joinedBy 33 = .ok (.lconst 1, 1) := by decide +kernel
theorem dX1_joinedBy_34 : decode cX1_joinedBy 34 = .ok (.iload 5, 2) := by decide +kernel
theorem dX1_joinedBy_36 : decode cX1_joinedBy 36 = .ok (.iconst 1, 1) := by decide +kernel
theorem dX1_joinedBy_37 : decode cX1_joinedBy 37 = .ok (.iload_n 0, 1) := by decide +kernel
theorem dX1_joinedBy_38 : decode cX1_joinedBy 38 = .ok (.ishl, 1) := by decide +kernel
theorem dX1_joinedBy_39 : decode cX1_joinedBy 39 = .ok (.ior, 1) := by decide +kernel
theorem dX1_joinedBy_40 : decode cX1_joinedBy 40 = .ok (.lshl, 1) := by decide +kernel
theorem dX1_joinedBy_41 : decode cX1_joinedBy 41 = .ok (.lor, 1) := by decide +kernel
theorem dX1_joinedBy_42 : decode cX1_joinedBy 42 = .ok (.lstore_n 3, 1) := by decide +kernel
theorem dX1_joinedBy_43 : decode cX1_joinedBy 43 = .ok (.iinc 5 1, 3) := by decide +kernel
theorem dX1_joinedBy_46 : decode cX1_joinedBy 46 = .ok (.goto (-41), 3) := by decide +kernel
theorem dX1_joinedBy_49 : decode cX1_joinedBy 49 = .ok (.lload_n 3, 1) := by decide +kernel
theorem dX1_joinedBy_50 : decode cX1_joinedBy 50 = .ok (.lreturn, 1) := by decide +kernel
theorem dX2_init_0 : decode cX2_init 0 = .ok (.aload_n 0, 1) := by decide +kernel
theorem dX2_init_1 : decode cX2_init 1 = .ok (.invokespecial 3, 3) := by decide +kernel
theorem dX2_init_4 : decode cX2_init 4 = .ok (.aload_n 0, 1) := by decide +kernel
theorem dX2_init_5 : decode cX2_init 5 = .ok (.new 9, 3) := by decide +kernel
theorem dX2_init_8 : decode cX2_init 8 = .ok (.dup, 1) := by decide +kernel
theorem dX2_init_9 : decode cX2_init 9 = .ok (.invokespecial 11, 3) := by decide +kernel
theorem dX2_init_12 : decode cX2_init 12 = .ok (.putfield 12, 3) := by decide +kernel
theorem dX2_init_15 : decode cX2_init 15 = .ok (.aload_n 0, 1) := by decide +kernel
theorem dX2_init_16 : decode cX2_init 16 = .ok (.bipush (-6), 2) := by decide +kernel
theorem dX2_init_18 : decode cX2_init 18 = .ok (.putfield 18, 3) := by decide +kernel
theorem dX2_init_21 : decode cX2_init 21 = .ok (.aload_n 0, 1) := by decide +kernel
theorem dX2_init_22 : decode cX2_init 22 = .ok (.bipush (-6), 2) := by decide +kernel
theorem dX2_init_24 : decode cX2_init 24 = .ok (.putfield 22, 3) := by decide +kernel
theorem dX2_init_27 : decode cX2_init 27 = .ok (.aload_n 0, 1) := by decide +kernel
theorem dX2_init_28 : decode cX2_init 28 = .ok (.bipush (-6), 2) := by decide +kernel
theorem dX2_init_30 : decode cX2_init 30 = .ok (.putfield 25, 3) := by decide +kernel
theorem dX2_init_33 : decode cX2_init 33 = .ok (.aload_n 0, 1) := by decide +kernel
theorem dX2_init_34 : decode cX2_init 34 = .ok (.iconst 0, 1) := by decide +kernel
theorem dX2_init_35 : decode cX2_init 35 = .ok (.putfield 28, 3) := by decide +kernel
theorem dX2_init_38 : decode cX2_init 38 = .ok (.return_, 1) := by decide +kernel
theorem dX2_live_0 : decode cX2_live 0 = .ok (.aload_n 0, 1) := by decide +kernel
theorem dX2_live_1 : decode cX2_live 1 = .ok (.aload_n 1, 1) := by decide +kernel
theorem dX2_live_2 : decode cX2_live 2 = .ok (.invokevirtual 31, 3) := by decide +kernel
theorem dX2_live_5 : decode cX2_live 5 = .ok (.iconst 0, 1) := by decide +kernel
theorem dX2_live_6 : decode cX2_live 6 = .ok (.istore_n 3, 1) := by decide +kernel
theorem dX2_live_7 : decode cX2_live 7 = .ok (.iload_n 3, 1) := by decide +kernel
theorem dX2_live_8 : decode cX2_live 8 = .ok (.aload_n 2, 1) := by decide +kernel
theorem dX2_live_9 : decode cX2_live 9 = .ok (.getfield 35, 3) := by decide +kernel
theorem dX2_live_12 : decode cX2_live 12 = .ok (.if_icmp .ge 112, 3) := by decide +kernel
theorem dX2_live_15 : decode cX2_live 15 = .ok (.aload_n 0, 1) := by decide +kernel
theorem dX2_live_16 : decode cX2_live 16 = .ok (.getfield 18, 3) := by decide +kernel
theorem dX2_live_19 : decode cX2_live 19 = .ok (.bipush (-6), 2) := by decide +kernel
theorem dX2_live_21 : decode cX2_live 21 = .ok (.if_icmp .ne 103, 3) := by decide +kernel
theorem dX2_live_24 : decode cX2_live 24 = .ok (.aload_n 0, 1) := by decide +kernel
theorem dX2_live_25 : decode cX2_live 25 = .ok (.getfield 12, 3) := by decide +kernel
theorem dX2_live_28 : decode cX2_live 28 = .ok (.aload_n 2, 1) := by decide +kernel
theorem dX2_live_29 : decode cX2_live 29 = .ok (.getfield 40, 3) := by decide +kernel
theorem dX2_live_32 : decode cX2_live 32 = .ok (.iload_n 3, 1) := by decide +kernel
theorem dX2_live_33 : decode cX2_live 33 = .ok (.iaload, 1) := by decide +kernel
theorem dX2_live_34 : decode cX2_live 34 = .ok (.aload_n 2, 1) := by decide +kernel
theorem dX2_live_35 : decode cX2_live 35 = .ok (.getfield 44, 3) := by decide +kernel
theorem dX2_live_38 : decode cX2_live 38 = .ok (.iload_n 3, 1) := by decide +kernel
theorem dX2_live_39 : decode cX2_live 39 = .ok (.iaload, 1) := by decide +kernel
theorem dX2_live_40 : decode cX2_live 40 = .ok (.invokevirtual 47, 3) := by decide +kernel
theorem dX2_live_43 : decode cX2_live 43 = .ok (.istore 4, 2) := by decide +kernel
theorem dX2_live_45 : decode cX2_live 45 = .ok (.iload 4, 2) := by decide +kernel
theorem dX2_live_47 : decode cX2_live 47 = .ok (.ifCond .ne 60, 3) := by decide +kernel
theorem dX2_live_50 : decode cX2_live 50 = .ok (.aload_n 0, 1) := by decide +kernel
theorem dX2_live_51 : decode cX2_live 51 = .ok (.getfield 12, 3) := by decide +kernel
theorem dX2_live_54 : decode cX2_live 54 = .ok (.invokevirtual 51, 3) := by decide +kernel
theorem dX2_live_57 : decode cX2_live 57 = .ok (.istore 5, 2) := by decide +kernel
theorem dX2_live_59 : decode cX2_live 59 = .ok (.aload_n 0, 1) := by decide +kernel
theorem dX2_live_60 : decode cX2_live 60 = .ok (.getfield 12, 3) := by decide +kernel
theorem dX2_live_63 : decode cX2_live 63 = .ok (.aload_n 2, 1) := by decide +kernel
theorem dX2_live_64 : decode cX2_live 64 = .ok (.getfield 40, 3) := by decide +kernel
theorem dX2_live_67 : decode cX2_live 67 = .ok (.iload_n 3, 1) := by decide +kernel
theorem dX2_live_68 : decode cX2_live 68 = .ok (.iaload, 1) := by decide +kernel
theorem dX2_live_69 : decode cX2_live 69 = .ok (.aload_n 2, 1) := by decide +kernel
theorem dX2_live_70 : decode cX2_live 70 = .ok (.getfield 44, 3) := by decide +kernel
theorem dX2_live_73 : decode cX2_live 73 = .ok (.iload_n 3, 1) := by decide +kernel
theorem dX2_live_74 : decode cX2_live 74 = .ok (.iaload, 1) := by decide +kernel
theorem dX2_live_75 : decode cX2_live 75 = .ok (.invokevirtual 55, 3) := by decide +kernel
theorem dX2_live_78 : decode cX2_live 78 = .ok (.aload_n 0, 1) := by decide +kernel
theorem dX2_live_79 : decode cX2_live 79 = .ok (.getfield 25, 3) := by decide +kernel
theorem dX2_live_82 : decode cX2_live 82 = .ok (.bipush (-6), 2) := by decide +kernel
theorem dX2_live_84 : decode cX2_live 84 = .ok (.if_icmp .ne 20, 3) := by decide +kernel
theorem dX2_live_87 : decode cX2_live 87 = .ok (.aload_n 0, 1) := by decide +kernel
theorem dX2_live_88 : decode cX2_live 88 = .ok (.getfield 12, 3) := by decide +kernel
theorem dX2_live_91 : decode cX2_live 91 = .ok (.invokevirtual 51, 3) := by decide +kernel
theorem dX2_live_94 : decode cX2_live 94 = .ok (.iload 5, 2) := by decide +kernel
theorem dX2_live_96 : decode cX2_live 96 = .ok (.if_icmp .eq 8, 3) := by decide +kernel
theorem dX2_live_99 : decode cX2_live 99 = .ok (.aload_n 0, 1) := by decide +kernel
theorem dX2_live_100 : decode cX2_live 100 = .ok (.iload_n 3, 1) := by decide +kernel
theorem dX2_live_101 : decode cX2_live 101 = .ok (.putfield 25, 3) := by decide +kernel
theorem dX2_live_104 : decode cX2_live 104 = .ok (.goto 14, 3) := by decide +kernel
theorem dX2_live_107 : decode cX2_live 107 = .ok (.aload_n 0, 1) := by decide +kernel
theorem dX2_live_108 : decode cX2_live 108 = .ok (.iload_n 3, 1) := by decide +kernel
theorem dX2_live_109 : decode cX2_live 109 = .ok (.putfield 18, 3) := by decide +kernel
theorem dX2_live_112 : decode cX2_live 112 = .ok (.aload_n 0, 1) := by decide +kernel
theorem dX2_live_113 : decode cX2_live 113 = .ok (.iload 4, 2) := by decide +kernel
theorem dX2_live_115 : decode cX2_live 115 = .ok (.putfield 22, 3) := by decide +kernel
theorem dX2_live_118 : decode cX2_live 118 = .ok (.iinc 3 1, 3) := by decide +kernel
theorem dX2_live_121 : decode cX2_live 121 = .ok (.goto (-114), 3) := by decide +kernel
theorem dX2_live_124 : decode cX2_live 124 = .ok (.return_, 1) := by decide +kernel
theorem dX2_begin_0 : decode cX2_begin 0 = .ok (.aload_n 0, 1) := by decide +kernel
theorem dX2_begin_1 : decode cX2_begin 1 = .ok (.getfield 12, 3) := by decide +kernel
theorem dX2_begin_4 : decode cX2_begin 4 = .ok (.aload_n 1, 1) := by decide +kernel
theorem dX2_begin_5 : decode cX2_begin 5 = .ok (.invokevirtual 59, 3) := by decide +kernel
theorem dX2_begin_8 : decode cX2_begin 8 = .ok (.aload_n 0, 1) := by decide +kernel
theorem dX2_begin_9 : decode cX2_begin 9 = .ok (.bipush (-6), 2) := by decide +kernel
theorem dX2_begin_11 : decode cX2_begin 11 = .ok (.putfield 18, 3) := by decide +kernel
theorem dX2_begin_14 : decode cX2_begin 14 = .ok (.aload_n 0, 1) := by decide +kernel
theorem dX2_begin_15 : decode cX2_begin 15 = .ok (.bipush (-6), 2) := by decide +kernel
theorem dX2_begin_17 : decode cX2_begin 17 = .ok (.putfield 22, 3) := by decide +kernel
theorem dX2_begin_20 : decode cX2_begin 20 = .ok (.aload_n 0, 1) := by decide +kernel
theorem dX2_begin_21 : decode cX2_begin 21 = .ok (.bipush (-6), 2) := by decide +kernel
theorem dX2_begin_23 : decode cX2_begin 23 = .ok (.putfield 25, 3) := by decide +kernel
theorem dX2_begin_26 : decode cX2_begin 26 = .ok (.aload_n 0, 1) := by decide +kernel
theorem dX2_begin_27 : decode cX2_begin 27 = .ok (.aload_n 0, 1) := by decide +kernel
theorem dX2_begin_28 : decode cX2_begin 28 = .ok (.getfield 12, 3) := by decide +kernel
theorem dX2_begin_31 : decode cX2_begin 31 = .ok (.invokevirtual 62, 3) := by decide +kernel
theorem dX2_begin_34 : decode cX2_begin 34 = .ok (.putfield 28, 3) := by decide +kernel
theorem dX2_begin_37 : decode cX2_begin 37 = .ok (.return_, 1) := by decide +kernel
theorem dX2_cameDown_0 : decode cX2_cameDown 0 = .ok (.aload_n 0, 1) := by decide +kernel
theorem dX2_cameDown_1 : decode cX2_cameDown 1 = .ok (.getfield 12, 3) := by decide +kernel
theorem dX2_cameDown_4 : decode cX2_cameDown 4 = .ok (.invokevirtual 62, 3) := by decide +kernel
theorem dX2_cameDown_7 : decode cX2_cameDown 7 = .ok (.aload_n 0, 1) := by decide +kernel
theorem dX2_cameDown_8 : decode cX2_cameDown 8 = .ok (.getfield 28, 3) := by decide +kernel
theorem dX2_cameDown_11 : decode cX2_cameDown 11 = .ok (.iconst (-1), 1) := by decide +kernel
theorem dX2_cameDown_12 : decode cX2_cameDown 12 = .ok (.ixor, 1) := by decide +kernel
theorem dX2_cameDown_13 : decode cX2_cameDown 13 = .ok (.iand, 1) := by decide +kernel
theorem dX2_cameDown_14 : decode cX2_cameDown 14 = .ok (.invokestatic 65, 3) := by decide +kernel
theorem dX2_cameDown_17 : decode cX2_cameDown 17 = .ok (.ireturn, 1) := by decide +kernel
theorem dX2_dreamYear_0 : decode cX2_dreamYear 0 = .ok (.aload_n 0, 1) := by decide +kernel
theorem dX2_dreamYear_1 : decode cX2_dreamYear 1 = .ok (.getfield 12, 3) := by decide +kernel
theorem dX2_dreamYear_4 : decode cX2_dreamYear 4 = .ok (.aload_n 1, 1) := by decide +kernel
theorem dX2_dreamYear_5 : decode cX2_dreamYear 5 = .ok (.invokevirtual 59, 3) := by decide +kernel
theorem dX2_dreamYear_8 : decode cX2_dreamYear 8 = .ok (.iload_n 2, 1) := by decide +kernel
theorem dX2_dreamYear_9 : decode cX2_dreamYear 9 = .ok (.istore 4, 2) := by decide +kernel
theorem dX2_dreamYear_11 : decode cX2_dreamYear 11 = .ok (.iconst 0, 1) := by decide +kernel
theorem dX2_dreamYear_12 : decode cX2_dreamYear 12 = .ok (.istore 5, 2) := by decide +kernel
theorem dX2_dreamYear_14 : decode cX2_dreamYear 14 = .ok (.iload 5, 2) := by decide +kernel
theorem dX2_dreamYear_16 : decode cX2_dreamYear 16 = .ok (.iload_n 3, 1) := by decide +kernel
theorem dX2_dreamYear_17 : decode cX2_dreamYear 17 = .ok (.if_icmp .ge 64, 3) := by decide +kernel
theorem dX2_dreamYear_20 : decode cX2_dreamYear 20 = .ok (.bipush 75, 2) := by decide +kernel
theorem dX2_dreamYear_22 : decode cX2_dreamYear 22 = .ok (.iload 4, 2) := by decide +kernel
theorem dX2_dreamYear_24 : decode cX2_dreamYear 24 = .ok (.imul, 1) := by decide +kernel
theorem dX2_dreamYear_25 : decode cX2_dreamYear 25 = .ok (.bipush 74, 2) := by decide +kernel
theorem dX2_dreamYear_27 : decode cX2_dreamYear 27 = .ok (.iadd, 1) := by decide +kernel
theorem dX2_dreamYear_28 : decode cX2_dreamYear 28 = .ok (.ldc 71, 2) := by decide +kernel
theorem dX2_dreamYear_30 : decode cX2_dreamYear 30 = .ok (.irem, 1) := by decide +kernel
theorem dX2_dreamYear_31 : decode cX2_dreamYear 31 = .ok (.istore 4, 2) := by decide +kernel
theorem dX2_dreamYear_33 : decode cX2_dreamYear 33 = .ok (.iload 4, 2) := by decide +kernel
theorem dX2_dreamYear_35 : decode cX2_dreamYear 35 = .ok (.bipush 8, 2) := by decide +kernel
theorem dX2_dreamYear_37 : decode cX2_dreamYear 37 = .ok (.irem, 1) := by decide +kernel
theorem dX2_dreamYear_38 : decode cX2_dreamYear 38 = .ok (.istore 6, 2) := by decide +kernel
theorem dX2_dreamYear_40 : decode cX2_dreamYear 40 = .ok (.iload 4, 2) := by decide +kernel
theorem dX2_dreamYear_42 : decode cX2_dreamYear 42 = .ok (.bipush 8, 2) := by decide +kernel
theorem dX2_dreamYear_44 : decode cX2_dreamYear 44 = .ok (.idiv, 1) := by decide +kernel
theorem dX2_dreamYear_45 : decode cX2_dreamYear 45 = .ok (.bipush 6, 2) := by decide +kernel
theorem dX2_dreamYear_47 : decode cX2_dreamYear 47 = .ok (.irem, 1) := by decide +kernel
theorem dX2_dreamYear_48 : decode cX2_dreamYear 48 = .ok (.istore 7, 2) := by decide +kernel
theorem dX2_dreamYear_50 : decode cX2_dreamYear 50 = .ok (.aload_n 0, 1) := by decide +kernel
theorem dX2_dreamYear_51 : decode cX2_dreamYear 51 = .ok (.getfield 12, 3) := by decide +kernel
theorem dX2_dreamYear_54 : decode cX2_dreamYear 54 = .ok (.iload 6, 2) := by decide +kernel
theorem dX2_dreamYear_56 : decode cX2_dreamYear 56 = .ok (.iload 7, 2) := by decide +kernel
theorem dX2_dreamYear_58 : decode cX2_dreamYear 58 = .ok (.invokevirtual 47, 3) := by decide +kernel
theorem dX2_dreamYear_61 : decode cX2_dreamYear 61 = .ok (.ifCond .ne 14, 3) := by decide +kernel
theorem dX2_dreamYear_64 : decode cX2_dreamYear 64 = .ok (.aload_n 0, 1) := by decide +kernel
theorem dX2_dreamYear_65 : decode cX2_dreamYear 65 = .ok (.getfield 12, 3) := by decide +kernel
theorem dX2_dreamYear_68 : decode cX2_dreamYear 68 = .ok (.iload 6, 2) := by decide +kernel
theorem dX2_dreamYear_70 : decode cX2_dreamYear 70 = .ok (.iload 7, 2) := by decide +kernel
theorem dX2_dreamYear_72 : decode cX2_dreamYear 72 = .ok (.invokevirtual 55, 3) := by decide +kernel
theorem dX2_dreamYear_75 : decode cX2_dreamYear 75 = .ok (.iinc 5 1, 3) := by decide +kernel
theorem dX2_dreamYear_78 : decode cX2_dreamYear 78 = .ok (.goto (-64), 3) := by decide +kernel
theorem dX2_dreamYear_81 : decode cX2_dreamYear 81 = .ok (.return_, 1) := by decide +kernel
theorem dX3_around_0 : decode cX3_around 0 = .ok (.iload_n 0, 1) := by decide +kernel
theorem dX3_around_1 : decode cX3_around 1 = .ok (.iconst 1, 1) := by decide +kernel
theorem dX3_around_2 : decode cX3_around 2 = .ok (.ishl, 1) := by decide +kernel
theorem dX3_around_3 : decode cX3_around 3 = .ok (.iload_n 1, 1) := by decide +kernel
theorem dX3_around_4 : decode cX3_around 4 = .ok (.ishr, 1) := by decide +kernel
theorem dX3_around_5 : decode cX3_around 5 = .ok (.bipush 7, 2) := by decide +kernel
theorem dX3_around_7 : decode cX3_around 7 = .ok (.iand, 1) := by decide +kernel
theorem dX3_around_8 : decode cX3_around 8 = .ok (.ireturn, 1) := by decide +kernel
theorem dX3_grown_0 : decode cX3_grown 0 = .ok (.iconst 0, 1) := by decide +kernel
theorem dX3_grown_1 : decode cX3_grown 1 = .ok (.istore_n 2, 1) := by decide +kernel
theorem dX3_grown_2 : decode cX3_grown 2 = .ok (.iconst 0, 1) := by decide +kernel
theorem dX3_grown_3 : decode cX3_grown 3 = .ok (.istore_n 3, 1) := by decide +kernel
theorem dX3_grown_4 : decode cX3_grown 4 = .ok (.iload_n 3, 1) := by decide +kernel
theorem dX3_grown_5 : decode cX3_grown 5 = .ok (.bipush 8, 2) := by decide +kernel
theorem dX3_grown_7 : decode cX3_grown 7 = .ok (.if_icmp .ge 23, 3) := by decide +kernel
theorem dX3_grown_10 : decode cX3_grown 10 = .ok (.iload_n 2, 1) := by decide +kernel
theorem dX3_grown_11 : decode cX3_grown 11 = .ok (.iload_n 1, 1) := by decide +kernel
theorem dX3_grown_12 : decode cX3_grown 12 = .ok (.iload_n 0, 1) := by decide +kernel
theorem dX3_grown_13 : decode cX3_grown 13 = .ok (.iload_n 3, 1) := by decide +kernel
theorem dX3_grown_14 : decode cX3_grown 14 = .ok (.invokestatic 9, 3) := by decide +kernel
theorem dX3_grown_17 : decode cX3_grown 17 = .ok (.invokestatic 15, 3) := by decide +kernel
theorem dX3_grown_20 : decode cX3_grown 20 = .ok (.iload_n 3, 1) := by decide +kernel
theorem dX3_grown_21 : decode cX3_grown 21 = .ok (.ishl, 1) := by decide +kernel
theorem dX3_grown_22 : decode cX3_grown 22 = .ok (.ior, 1) := by decide +kernel
theorem dX3_grown_23 : decode cX3_grown 23 = .ok (.istore_n 2, 1) := by decide +kernel
theorem dX3_grown_24 : decode cX3_grown 24 = .ok (.iinc 3 1, 3) := by decide +kernel
theorem dX3_grown_27 : decode cX3_grown 27 = .ok (.goto (-23), 3) := by decide +kernel
theorem dX3_grown_30 : decode cX3_grown 30 = .ok (.iload_n 2, 1) := by decide +kernel
theorem dX3_grown_31 : decode cX3_grown 31 = .ok (.ireturn, 1) := by decide +kernel
theorem dX3_readAloud_0 : decode cX3_readAloud 0 = .ok (.iconst 0, 1) := by decide +kernel
theorem dX3_readAloud_1 : decode cX3_readAloud 1 = .ok (.istore_n 1, 1) := by decide +kernel
theorem dX3_readAloud_2 : decode cX3_readAloud 2 = .ok (.iconst 0, 1) := by decide +kernel
theorem dX3_readAloud_3 : decode cX3_readAloud 3 = .ok (.istore_n 2, 1) := by decide +kernel
theorem dX3_readAloud_4 : decode cX3_readAloud 4 = .ok (.iconst 0, 1) := by decide +kernel
theorem dX3_readAloud_5 : decode cX3_readAloud 5 = .ok (.istore_n 3, 1) := by decide +kernel
theorem dX3_readAloud_6 : decode cX3_readAloud 6 = .ok (.iload_n 3, 1) := by decide +kernel
theorem dX3_readAloud_7 : decode cX3_readAloud 7 = .ok (.bipush 8, 2) := by decide +kernel
theorem dX3_readAloud_9 : decode cX3_readAloud 9 = .ok (.if_icmp .ge 42, 3) := by decide +kernel
theorem dX3_readAloud_12 : decode cX3_readAloud 12 = .ok (.iinc 2 1, 3) := by decide +kernel
theorem dX3_readAloud_15 : decode cX3_readAloud 15 = .ok (.iload_n 3, 1) := by decide +kernel
theorem dX3_readAloud_16 : decode cX3_readAloud 16 = .ok (.bipush 7, 2) := by decide +kernel
theorem dX3_readAloud_18 : decode cX3_readAloud 18 = .ok (.if_icmp .eq 18, 3) := by decide +kernel
theorem dX3_readAloud_21 : decode cX3_readAloud 21 = .ok (.iload_n 0, 1) := by decide +kernel
theorem dX3_readAloud_22 : decode cX3_readAloud 22 = .ok (.iload_n 3, 1) := by decide +kernel
theorem dX3_readAloud_23 : decode cX3_readAloud 23 = .ok (.invokestatic 15, 3) := by decide +kernel
theorem dX3_readAloud_26 : decode cX3_readAloud 26 = .ok (.iload_n 0, 1) := by decide +kernel
theorem dX3_readAloud_27 : decode cX3_readAloud 27 = .ok (.iload_n 3, 1) := by decide +kernel
theorem dX3_readAloud_28 : decode cX3_readAloud 28 = .ok (.iconst 1, 1) := by decide +kernel
theorem dX3_readAloud_29 : decode cX3_readAloud 29 = .ok (.iadd, 1) := by decide +kernel
theorem dX3_readAloud_30 : decode cX3_readAloud 30 = .ok (.invokestatic 15, 3) := by decide +kernel
theorem dX3_readAloud_33 : decode cX3_readAloud 33 = .ok (.if_icmp .eq 12, 3) := by decide +kernel
theorem dX3_readAloud_36 : decode cX3_readAloud 36 = .ok (.iload_n 1, 1) := by decide +kernel
theorem dX3_readAloud_37 : decode cX3_readAloud 37 = .ok (.bipush 10, 2) := by decide +kernel
theorem dX3_readAloud_39 : decode cX3_readAloud 39 = .ok (.imul, 1) := by decide +kernel
theorem dX3_readAloud_40 : decode cX3_readAloud 40 = .ok (.iload_n 2, 1) := by decide +kernel
theorem dX3_readAloud_41 : decode cX3_readAloud 41 = .ok (.iadd, 1) := by decide +kernel
theorem dX3_readAloud_42 : decode cX3_readAloud 42 = .ok (.istore_n 1, 1) := by decide +kernel
theorem dX3_readAloud_43 : decode cX3_readAloud 43 = .ok (.iconst 0, 1) := by decide +kernel
theorem dX3_readAloud_44 : decode cX3_readAloud 44 = .ok (.istore_n 2, 1) := by decide +kernel
theorem dX3_readAloud_45 : decode cX3_readAloud 45 = .ok (.iinc 3 1, 3) := by decide +kernel
theorem dX3_readAloud_48 : decode cX3_readAloud 48 = .ok (.goto (-42), 3) := by decide +kernel
theorem dX3_readAloud_51 : decode cX3_readAloud 51 = .ok (.iload_n 1, 1) := by decide +kernel
theorem dX3_readAloud_52 : decode cX3_readAloud 52 = .ok (.ireturn, 1) := by decide +kernel
theorem dX3_rows_0 : decode cX3_rows 0 = .ok (.iload_n 2, 1) := by decide +kernel
theorem dX3_rows_1 : decode cX3_rows 1 = .ok (.ifCond .gt 14, 3) := by decide +kernel
theorem dX3_rows_4 : decode cX3_rows 4 = .ok (.iload_n 0, 1) := by decide +kernel
theorem dX3_rows_5 : decode cX3_rows 5 = .ok (.iload_n 1, 1) := by decide +kernel
theorem dX3_rows_6 : decode cX3_rows 6 = .ok (.if_icmp .ne 7, 3) := by decide +kernel
theorem dX3_rows_9 : decode cX3_rows 9 = .ok (.iconst 1, 1) := by decide +kernel
theorem dX3_rows_10 : decode cX3_rows 10 = .ok (.goto 4, 3) := by decide +kernel
theorem dX3_rows_13 : decode cX3_rows 13 = .ok (.iconst 0, 1) := by decide +kernel
theorem dX3_rows_14 : decode cX3_rows 14 = .ok (.ireturn, 1) := by decide +kernel
theorem dX3_rows_15 : decode cX3_rows 15 = .ok (.iload_n 0, 1) := by decide +kernel
theorem dX3_rows_16 : decode cX3_rows 16 = .ok (.iload_n 3, 1) := by decide +kernel
theorem dX3_rows_17 : decode cX3_rows 17 = .ok (.invokestatic 18, 3) := by decide +kernel
theorem dX3_rows_20 : decode cX3_rows 20 = .ok (.iload_n 1, 1) := by decide +kernel
theorem dX3_rows_21 : decode cX3_rows 21 = .ok (.iload_n 2, 1) := by decide +kernel
theorem dX3_rows_22 : decode cX3_rows 22 = .ok (.iconst 1, 1) := by decide +kernel
theorem dX3_rows_23 : decode cX3_rows 23 = .ok (.isub, 1) := by decide +kernel
theorem dX3_rows_24 : decode cX3_rows 24 = .ok (.iload_n 3, 1) := by decide +kernel
theorem dX3_rows_25 : decode cX3_rows 25 = .ok (.iload 4, 2) := by decide +kernel
theorem dX3_rows_27 : decode cX3_rows 27 = .ok (.invokestatic 21, 3) := by decide +kernel
theorem dX3_rows_30 : decode cX3_rows 30 = .ok (.iload_n 0, 1) := by decide +kernel
theorem dX3_rows_31 : decode cX3_rows 31 = .ok (.iload 4, 2) := by decide +kernel
theorem dX3_rows_33 : decode cX3_rows 33 = .ok (.invokestatic 18, 3) := by decide +kernel
theorem dX3_rows_36 : decode cX3_rows 36 = .ok (.iload_n 1, 1) := by decide +kernel
theorem dX3_rows_37 : decode cX3_rows 37 = .ok (.iload_n 2, 1) := by decide +kernel
theorem dX3_rows_38 : decode cX3_rows 38 = .ok (.iconst 1, 1) := by decide +kernel
theorem dX3_rows_39 : decode cX3_rows 39 = .ok (.isub, 1) := by decide +kernel
theorem dX3_rows_40 : decode cX3_rows 40 = .ok (.iload_n 3, 1) := by decide +kernel
theorem dX3_rows_41 : decode cX3_rows 41 = .ok (.iload 4, 2) := by decide +kernel
theorem dX3_rows_43 : decode cX3_rows 43 = .ok (.invokestatic 21, 3) := by decide +kernel
theorem dX3_rows_46 : decode cX3_rows 46 = .ok (.iadd, 1) := by decide +kernel
theorem dX3_rows_47 : decode cX3_rows 47 = .ok (.ireturn, 1) := by decide +kernel
theorem dX3_firstRow_0 : decode cX3_firstRow 0 = .ok (.iload_n 0, 1) := by decide +kernel
theorem dX3_firstRow_1 : decode cX3_firstRow 1 = .ok (.iload_n 1, 1) := by decide +kernel
theorem dX3_firstRow_2 : decode cX3_firstRow 2 = .ok (.iload_n 2, 1) := by decide +kernel
theorem dX3_firstRow_3 : decode cX3_firstRow 3 = .ok (.iload_n 3, 1) := by decide +kernel
theorem dX3_firstRow_4 : decode cX3_firstRow 4 = .ok (.iload 4, 2) := by decide +kernel
theorem dX3_firstRow_6 : decode cX3_firstRow 6 = .ok (.invokestatic 21, 3) := by decide +kernel
theorem dX3_firstRow_9 : decode cX3_firstRow 9 = .ok (.ifCond .ne 7, 3) := by decide +kernel
theorem dX3_firstRow_12 : decode cX3_firstRow 12 = .ok (.ldc2_w 25, 3) := by decide +kernel
theorem dX3_firstRow_15 : decode cX3_firstRow 15 = .ok (.lreturn, 1) := by decide +kernel
theorem dX3_firstRow_16 : decode cX3_firstRow 16 = .ok (.lconst 0, 1) := by decide +kernel
theorem dX3_firstRow_17 : decode cX3_firstRow 17 = .ok (.lstore 5, 2) := by decide +kernel
theorem dX3_firstRow_19 : decode cX3_firstRow 19 = .ok (.iload_n 0, 1) := by decide +kernel
theorem dX3_firstRow_20 : decode cX3_firstRow 20 = .ok (.istore 7, 2) := by decide +kernel
theorem dX3_firstRow_22 : decode cX3_firstRow 22 = .ok (.iload_n 2, 1) := by decide +kernel
theorem dX3_firstRow_23 : decode cX3_firstRow 23 = .ok (.iconst 1, 1) := by decide +kernel
theorem dX3_firstRow_24 : decode cX3_firstRow 24 = .ok (.isub, 1) := by decide +kernel
theorem dX3_firstRow_25 : decode cX3_firstRow 25 = .ok (.istore 8, 2) := by decide +kernel
theorem dX3_firstRow_27 : decode cX3_firstRow 27 = .ok (.iload 8, 2) := by decide +kernel
theorem dX3_firstRow_29 : decode cX3_firstRow 29 = .ok (.ifCond .lt 77, 3) := by decide +kernel
theorem dX3_firstRow_32 : decode cX3_firstRow 32 = .ok (.iload 7, 2) := by decide +kernel
theorem dX3_firstRow_34 : decode cX3_firstRow 34 = .ok (.iload_n 3, 1) := by decide +kernel
theorem dX3_firstRow_35 : decode cX3_firstRow 35 = .ok (.invokestatic 18, 3) := by decide +kernel
theorem dX3_firstRow_38 : decode cX3_firstRow 38 = .ok (.istore 9, 2) := by decide +kernel
theorem dX3_firstRow_40 : decode cX3_firstRow 40 = .ok (.iload 9, 2) := by decide +kernel
theorem dX3_firstRow_42 : decode cX3_firstRow 42 = .ok (.iload_n 1, 1) := by decide +kernel
theorem dX3_firstRow_43 : decode cX3_firstRow 43 = .ok (.iload 8, 2) := by decide +kernel
theorem dX3_firstRow_45 : decode cX3_firstRow 45 = .ok (.iload_n 3, 1) := by decide +kernel
theorem dX3_firstRow_46 : decode cX3_firstRow 46 = .ok (.iload 4, 2) := by decide +kernel
theorem dX3_firstRow_48 : decode cX3_firstRow 48 = .ok (.invokestatic 21, 3) := by decide +kernel
theorem dX3_firstRow_51 : decode cX3_firstRow 51 = .ok (.ifCond .le 7, 3) := by decide +kernel
theorem dX3_firstRow_54 : decode cX3_firstRow 54 = .ok (.iconst 1, 1) := by decide +kernel
theorem dX3_firstRow_55 : decode cX3_firstRow 55 = .ok (.goto 4, 3) := by decide +kernel
theorem dX3_firstRow_58 : decode cX3_firstRow 58 = .ok (.iconst 0, 1) := by decide +kernel
theorem dX3_firstRow_59 : decode cX3_firstRow 59 = .ok (.istore 10, 2) := by decide +kernel
theorem dX3_firstRow_61 : decode cX3_firstRow 61 = .ok (.lload 5, 2) := by decide +kernel
theorem dX3_firstRow_63 : decode cX3_firstRow 63 = .ok (.ldc2_w 27, 3) := by decide +kernel
theorem dX3_firstRow_66 : decode cX3_firstRow 66 = .ok (.lmul, 1) := by decide +kernel
theorem dX3_firstRow_67 : decode cX3_firstRow 67 = .ok (.iload 10, 2) := by decide +kernel
theorem dX3_firstRow_69 : decode cX3_firstRow 69 = .ok (.ifCond .eq 7, 3) := by decide +kernel
theorem dX3_firstRow_72 : decode cX3_firstRow 72 = .ok (.iconst 1, 1) := by decide +kernel
theorem dX3_firstRow_73 : decode cX3_firstRow 73 = .ok (.goto 4, 3) := by decide +kernel
theorem dX3_firstRow_76 : decode cX3_firstRow 76 = .ok (.iconst 2, 1) := by decide +kernel
theorem dX3_firstRow_77 : decode cX3_firstRow 77 = .ok (.i2l, 1) := by decide +kernel
theorem dX3_firstRow_78 : decode cX3_firstRow 78 = .ok (.ladd, 1) := by decide +kernel
theorem dX3_firstRow_79 : decode cX3_firstRow 79 = .ok (.lstore 5, 2) := by decide +kernel
theorem dX3_firstRow_81 : decode cX3_firstRow 81 = .ok (.iload 10, 2) := by decide +kernel
theorem dX3_firstRow_83 : decode cX3_firstRow 83 = .ok (.ifCond .eq 8, 3) := by decide +kernel
theorem dX3_firstRow_86 : decode cX3_firstRow 86 = .ok (.iload 9, 2) := by decide +kernel
theorem dX3_firstRow_88 : decode cX3_firstRow 88 = .ok (.goto 10, 3) := by decide +kernel
theorem dX3_firstRow_91 : decode cX3_firstRow 91 = .ok (.iload 7, 2) := by decide +kernel
theorem dX3_firstRow_93 : decode cX3_firstRow 93 = .ok (.iload 4, 2) := by decide +kernel
theorem dX3_firstRow_95 : decode cX3_firstRow 95 = .ok (.invokestatic 18, 3) := by decide +kernel
theorem dX3_firstRow_98 : decode cX3_firstRow 98 = .ok (.istore 7, 2) := by decide +kernel
theorem dX3_firstRow_100 : decode cX3_firstRow 100 = .ok (.iinc 8 (-1), 3) := by decide +kernel
theorem dX3_firstRow_103 : decode cX3_firstRow 103 = .ok (.goto (-76), 3) := by decide +kernel
theorem dX3_firstRow_106 : decode cX3_firstRow 106 = .ok (.lload 5, 2) := by decide +kernel
theorem dX3_firstRow_108 : decode cX3_firstRow 108 = .ok (.lreturn, 1) := by decide +kernel
theorem dX4_init_0 : decode cX4_init 0 = .ok (.aload_n 0, 1) := by decide +kernel
theorem dX4_init_1 : decode cX4_init 1 = .ok (.invokespecial 3, 3) := by decide +kernel
theorem dX4_init_4 : decode cX4_init 4 = .ok (.aload_n 0, 1) := by decide +kernel
theorem dX4_init_5 : decode cX4_init 5 = .ok (.bipush 16, 2) := by decide +kernel
theorem dX4_init_7 : decode cX4_init 7 = .ok (.newarray .int, 2) := by decide +kernel
theorem dX4_init_9 : decode cX4_init 9 = .ok (.putfield 9, 3) := by decide +kernel
theorem dX4_init_12 : decode cX4_init 12 = .ok (.return_, 1) := by decide +kernel
theorem dX4_fall_0 : decode cX4_fall 0 = .ok (.aload_n 0, 1) := by decide +kernel
theorem dX4_fall_1 : decode cX4_fall 1 = .ok (.getfield 9, 3) := by decide +kernel
theorem dX4_fall_4 : decode cX4_fall 4 = .ok (.iconst 0, 1) := by decide +kernel
theorem dX4_fall_5 : decode cX4_fall 5 = .ok (.invokestatic 15, 3) := by decide +kernel
theorem dX4_fall_8 : decode cX4_fall 8 = .ok (.aload_n 0, 1) := by decide +kernel
theorem dX4_fall_9 : decode cX4_fall 9 = .ok (.getfield 9, 3) := by decide +kernel
theorem dX4_fall_12 : decode cX4_fall 12 = .ok (.iload_n 1, 1) := by decide +kernel
theorem dX4_fall_13 : decode cX4_fall 13 = .ok (.iconst 1, 1) := by decide +kernel
theorem dX4_fall_14 : decode cX4_fall 14 = .ok (.iastore, 1) := by decide +kernel
theorem dX4_fall_15 : decode cX4_fall 15 = .ok (.iconst 0, 1) := by decide +kernel
theorem dX4_fall_16 : decode cX4_fall 16 = .ok (.istore 5, 2) := by decide +kernel
theorem dX4_fall_18 : decode cX4_fall 18 = .ok (.iload 5, 2) := by decide +kernel
theorem dX4_fall_20 : decode cX4_fall 20 = .ok (.iload_n 2, 1) := by decide +kernel
theorem dX4_fall_21 : decode cX4_fall 21 = .ok (.if_icmp .ge 91, 3) := by decide +kernel
theorem dX4_fall_24 : decode cX4_fall 24 = .ok (.iconst 0, 1) := by decide +kernel
theorem dX4_fall_25 : decode cX4_fall 25 = .ok (.istore 6, 2) := by decide +kernel
theorem dX4_fall_27 : decode cX4_fall 27 = .ok (.iconst 0, 1) := by decide +kernel
theorem dX4_fall_28 : decode cX4_fall 28 = .ok (.istore 7, 2) := by decide +kernel
theorem dX4_fall_30 : decode cX4_fall 30 = .ok (.iload 7, 2) := by decide +kernel
theorem dX4_fall_32 : decode cX4_fall 32 = .ok (.bipush 16, 2) := by decide +kernel
theorem dX4_fall_34 : decode cX4_fall 34 = .ok (.if_icmp .ge 72, 3) := by decide +kernel
theorem dX4_fall_37 : decode cX4_fall 37 = .ok (.aload_n 0, 1) := by decide +kernel
theorem dX4_fall_38 : decode cX4_fall 38 = .ok (.getfield 9, 3) := by decide +kernel
theorem dX4_fall_41 : decode cX4_fall 41 = .ok (.iload 7, 2) := by decide +kernel
theorem dX4_fall_43 : decode cX4_fall 43 = .ok (.iaload, 1) := by decide +kernel
theorem dX4_fall_44 : decode cX4_fall 44 = .ok (.istore 8, 2) := by decide +kernel
theorem dX4_fall_46 : decode cX4_fall 46 = .ok (.iload 7, 2) := by decide +kernel
theorem dX4_fall_48 : decode cX4_fall 48 = .ok (.bipush 15, 2) := by decide +kernel
theorem dX4_fall_50 : decode cX4_fall 50 = .ok (.if_icmp .ne 7, 3) := by decide +kernel
theorem dX4_fall_53 : decode cX4_fall 53 = .ok (.iconst 0, 1) := by decide +kernel
theorem dX4_fall_54 : decode cX4_fall 54 = .ok (.goto 12, 3) := by decide +kernel
theorem dX4_fall_57 : decode cX4_fall 57 = .ok (.aload_n 0, 1) := by decide +kernel
theorem dX4_fall_58 : decode cX4_fall 58 = .ok (.getfield 9, 3) := by decide +kernel
theorem dX4_fall_61 : decode cX4_fall 61 = .ok (.iload 7, 2) := by decide +kernel
theorem dX4_fall_63 : decode cX4_fall 63 = .ok (.iconst 1, 1) := by decide +kernel
theorem dX4_fall_64 : decode cX4_fall 64 = .ok (.iadd, 1) := by decide +kernel
theorem dX4_fall_65 : decode cX4_fall 65 = .ok (.iaload, 1) := by decide +kernel
theorem dX4_fall_66 : decode cX4_fall 66 = .ok (.istore 9, 2) := by decide +kernel
theorem dX4_fall_68 : decode cX4_fall 68 = .ok (.aload_n 0, 1) := by decide +kernel
theorem dX4_fall_69 : decode cX4_fall 69 = .ok (.getfield 9, 3) := by decide +kernel
theorem dX4_fall_72 : decode cX4_fall 72 = .ok (.iload 7, 2) := by decide +kernel
theorem dX4_fall_74 : decode cX4_fall 74 = .ok (.iload 8, 2) := by decide +kernel
theorem dX4_fall_76 : decode cX4_fall 76 = .ok (.bipush 10, 2) := by decide +kernel
theorem dX4_fall_78 : decode cX4_fall 78 = .ok (.iload_n 3, 1) := by decide +kernel
theorem dX4_fall_79 : decode cX4_fall 79 = .ok (.isub, 1) := by decide +kernel
theorem dX4_fall_80 : decode cX4_fall 80 = .ok (.iload 4, 2) := by decide +kernel
theorem dX4_fall_82 : decode cX4_fall 82 = .ok (.isub, 1) := by decide +kernel
theorem dX4_fall_83 : decode cX4_fall 83 = .ok (.imul, 1) := by decide +kernel
theorem dX4_fall_84 : decode cX4_fall 84 = .ok (.iload 6, 2) := by decide +kernel
theorem dX4_fall_86 : decode cX4_fall 86 = .ok (.iload 4, 2) := by decide +kernel
theorem dX4_fall_88 : decode cX4_fall 88 = .ok (.imul, 1) := by decide +kernel
theorem dX4_fall_89 : decode cX4_fall 89 = .ok (.iadd, 1) := by decide +kernel
theorem dX4_fall_90 : decode cX4_fall 90 = .ok (.iload 9, 2) := by decide +kernel
theorem dX4_fall_92 : decode cX4_fall 92 = .ok (.iload_n 3, 1) := by decide +kernel
theorem dX4_fall_93 : decode cX4_fall 93 = .ok (.imul, 1) := by decide +kernel
theorem dX4_fall_94 : decode cX4_fall 94 = .ok (.iadd, 1) := by decide +kernel
theorem dX4_fall_95 : decode cX4_fall 95 = .ok (.iastore, 1) := by decide +kernel
theorem dX4_fall_96 : decode cX4_fall 96 = .ok (.iload 8, 2) := by decide +kernel
theorem dX4_fall_98 : decode cX4_fall 98 = .ok (.istore 6, 2) := by decide +kernel
theorem dX4_fall_100 : decode cX4_fall 100 = .ok (.iinc 7 1, 3) := by decide +kernel
theorem dX4_fall_103 : decode cX4_fall 103 = .ok (.goto (-73), 3) := by decide +kernel
theorem dX4_fall_106 : decode cX4_fall 106 = .ok (.iinc 5 1, 3) := by decide +kernel
theorem dX4_fall_109 : decode cX4_fall 109 = .ok (.goto (-91), 3) := by decide +kernel
theorem dX4_fall_112 : decode cX4_fall 112 = .ok (.return_, 1) := by decide +kernel
theorem dX4_chance_0 : decode cX4_chance 0 = .ok (.iconst 1, 1) := by decide +kernel
theorem dX4_chance_1 : decode cX4_chance 1 = .ok (.istore 4, 2) := by decide +kernel
theorem dX4_chance_3 : decode cX4_chance 3 = .ok (.iconst 0, 1) := by decide +kernel
theorem dX4_chance_4 : decode cX4_chance 4 = .ok (.istore 5, 2) := by decide +kernel
theorem dX4_chance_6 : decode cX4_chance 6 = .ok (.iload 5, 2) := by decide +kernel
theorem dX4_chance_8 : decode cX4_chance 8 = .ok (.iload_n 2, 1) := by decide +kernel
theorem dX4_chance_9 : decode cX4_chance 9 = .ok (.if_icmp .ge 16, 3) := by decide +kernel
theorem dX4_chance_12 : decode cX4_chance 12 = .ok (.iload 4, 2) := by decide +kernel
theorem dX4_chance_14 : decode cX4_chance 14 = .ok (.bipush 10, 2) := by decide +kernel
theorem dX4_chance_16 : decode cX4_chance 16 = .ok (.imul, 1) := by decide +kernel
theorem dX4_chance_17 : decode cX4_chance 17 = .ok (.istore 4, 2) := by decide +kernel
theorem dX4_chance_19 : decode cX4_chance 19 = .ok (.iinc 5 1, 3) := by decide +kernel
theorem dX4_chance_22 : decode cX4_chance 22 = .ok (.goto (-16), 3) := by decide +kernel
theorem dX4_chance_25 : decode cX4_chance 25 = .ok (.iload_n 1, 1) := by decide +kernel
theorem dX4_chance_26 : decode cX4_chance 26 = .ok (.iconst (-1), 1) := by decide +kernel
theorem dX4_chance_27 : decode cX4_chance 27 = .ok (.if_icmp .ne 13, 3) := by decide +kernel
theorem dX4_chance_30 : decode cX4_chance 30 = .ok (.iload 4, 2) := by decide +kernel
theorem dX4_chance_32 : decode cX4_chance 32 = .ok (.aload_n 0, 1) := by decide +kernel
theorem dX4_chance_33 : decode cX4_chance 33 = .ok (.invokevirtual 21, 3) := by decide +kernel
theorem dX4_chance_36 : decode cX4_chance 36 = .ok (.isub, 1) := by decide +kernel
theorem dX4_chance_37 : decode cX4_chance 37 = .ok (.goto 9, 3) := by decide +kernel
theorem dX4_chance_40 : decode cX4_chance 40 = .ok (.aload_n 0, 1) := by decide +kernel
theorem dX4_chance_41 : decode cX4_chance 41 = .ok (.getfield 9, 3) := by decide +kernel
theorem dX4_chance_44 : decode cX4_chance 44 = .ok (.iload_n 1, 1) := by decide +kernel
theorem dX4_chance_45 : decode cX4_chance 45 = .ok (.iaload, 1) := by decide +kernel
theorem dX4_chance_46 : decode cX4_chance 46 = .ok (.istore 5, 2) := by decide +kernel
theorem dX4_chance_48 : decode cX4_chance 48 = .ok (.iconst 0, 1) := by decide +kernel
theorem dX4_chance_49 : decode cX4_chance 49 = .ok (.istore 6, 2) := by decide +kernel
theorem dX4_chance_51 : decode cX4_chance 51 = .ok (.iload 6, 2) := by decide +kernel
theorem dX4_chance_53 : decode cX4_chance 53 = .ok (.iload_n 2, 1) := by decide +kernel
theorem dX4_chance_54 : decode cX4_chance 54 = .ok (.if_icmp .ge 61, 3) := by decide +kernel
theorem dX4_chance_57 : decode cX4_chance 57 = .ok (.iload 5, 2) := by decide +kernel
theorem dX4_chance_59 : decode cX4_chance 59 = .ok (.iconst 2, 1) := by decide +kernel
theorem dX4_chance_60 : decode cX4_chance 60 = .ok (.irem, 1) := by decide +kernel
theorem dX4_chance_61 : decode cX4_chance 61 = .ok (.ifCond .ne 22, 3) := by decide +kernel
theorem dX4_chance_64 : decode cX4_chance 64 = .ok (.iload 4, 2) := by decide +kernel
theorem dX4_chance_66 : decode cX4_chance 66 = .ok (.iconst 2, 1) := by decide +kernel
theorem dX4_chance_67 : decode cX4_chance 67 = .ok (.irem, 1) := by decide +kernel
theorem dX4_chance_68 : decode cX4_chance 68 = .ok (.ifCond .ne 15, 3) := by decide +kernel
theorem dX4_chance_71 : decode cX4_chance 71 = .ok (.iload 5, 2) := by decide +kernel
theorem dX4_chance_73 : decode cX4_chance 73 = .ok (.iconst 2, 1) := by decide +kernel
theorem dX4_chance_74 : decode cX4_chance 74 = .ok (.idiv, 1) := by decide +kernel
theorem dX4_chance_75 : decode cX4_chance 75 = .ok (.istore 5, 2) := by decide +kernel
theorem dX4_chance_77 : decode cX4_chance 77 = .ok (.iload 4, 2) := by decide +kernel
theorem dX4_chance_79 : decode cX4_chance 79 = .ok (.iconst 2, 1) := by decide +kernel
theorem dX4_chance_80 : decode cX4_chance 80 = .ok (.idiv, 1) := by decide +kernel
theorem dX4_chance_81 : decode cX4_chance 81 = .ok (.istore 4, 2) := by decide +kernel
theorem dX4_chance_83 : decode cX4_chance 83 = .ok (.iload 5, 2) := by decide +kernel
theorem dX4_chance_85 : decode cX4_chance 85 = .ok (.iconst 5, 1) := by decide +kernel
theorem dX4_chance_86 : decode cX4_chance 86 = .ok (.irem, 1) := by decide +kernel
theorem dX4_chance_87 : decode cX4_chance 87 = .ok (.ifCond .ne 22, 3) := by decide +kernel
theorem dX4_chance_90 : decode cX4_chance 90 = .ok (.iload 4, 2) := by decide +kernel
theorem dX4_chance_92 : decode cX4_chance 92 = .ok (.iconst 5, 1) := by decide +kernel
theorem dX4_chance_93 : decode cX4_chance 93 = .ok (.irem, 1) := by decide +kernel
theorem dX4_chance_94 : decode cX4_chance 94 = .ok (.ifCond .ne 15, 3) := by decide +kernel
theorem dX4_chance_97 : decode cX4_chance 97 = .ok (.iload 5, 2) := by decide +kernel
theorem dX4_chance_99 : decode cX4_chance 99 = .ok (.iconst 5, 1) := by decide +kernel
theorem dX4_chance_100 : decode cX4_chance 100 = .ok (.idiv, 1) := by decide +kernel
theorem dX4_chance_101 : decode cX4_chance 101 = .ok (.istore 5, 2) := by decide +kernel
theorem dX4_chance_103 : decode cX4_chance 103 = .ok (.iload 4, 2) := by decide +kernel
theorem dX4_chance_105 : decode cX4_chance 105 = .ok (.iconst 5, 1) := by decide +kernel
theorem dX4_chance_106 : decode cX4_chance 106 = .ok (.idiv, 1) := by decide +kernel
theorem dX4_chance_107 : decode cX4_chance 107 = .ok (.istore 4, 2) := by decide +kernel
theorem dX4_chance_109 : decode cX4_chance 109 = .ok (.iinc 6 1, 3) := by decide +kernel
theorem dX4_chance_112 : decode cX4_chance 112 = .ok (.goto (-61), 3) := by decide +kernel
theorem dX4_chance_115 : decode cX4_chance 115 = .ok (.iload_n 3, 1) := by decide +kernel
theorem dX4_chance_116 : decode cX4_chance 116 = .ok (.ifCond .ne 9, 3) := by decide +kernel
theorem dX4_chance_119 : decode cX4_chance 119 = .ok (.iload 5, 2) := by decide +kernel
theorem dX4_chance_121 : decode cX4_chance 121 = .ok (.i2l, 1) := by decide +kernel
theorem dX4_chance_122 : decode cX4_chance 122 = .ok (.goto 6, 3) := by decide +kernel
theorem dX4_chance_125 : decode cX4_chance 125 = .ok (.iload 4, 2) := by decide +kernel
theorem dX4_chance_127 : decode cX4_chance 127 = .ok (.i2l, 1) := by decide +kernel
theorem dX4_chance_128 : decode cX4_chance 128 = .ok (.lreturn, 1) := by decide +kernel
theorem dX4_all_0 : decode cX4_all 0 = .ok (.iconst 0, 1) := by decide +kernel
theorem dX4_all_1 : decode cX4_all 1 = .ok (.istore_n 1, 1) := by decide +kernel
theorem dX4_all_2 : decode cX4_all 2 = .ok (.iconst 0, 1) := by decide +kernel
theorem dX4_all_3 : decode cX4_all 3 = .ok (.istore_n 2, 1) := by decide +kernel
theorem dX4_all_4 : decode cX4_all 4 = .ok (.iload_n 2, 1) := by decide +kernel
theorem dX4_all_5 : decode cX4_all 5 = .ok (.bipush 16, 2) := by decide +kernel
theorem dX4_all_7 : decode cX4_all 7 = .ok (.if_icmp .ge 18, 3) := by decide +kernel
theorem dX4_all_10 : decode cX4_all 10 = .ok (.iload_n 1, 1) := by decide +kernel
theorem dX4_all_11 : decode cX4_all 11 = .ok (.aload_n 0, 1) := by decide +kernel
theorem dX4_all_12 : decode cX4_all 12 = .ok (.getfield 9, 3) := by decide +kernel
theorem dX4_all_15 : decode cX4_all 15 = .ok (.iload_n 2, 1) := by decide +kernel
theorem dX4_all_16 : decode cX4_all 16 = .ok (.iaload, 1) := by decide +kernel
theorem dX4_all_17 : decode cX4_all 17 = .ok (.iadd, 1) := by decide +kernel
theorem dX4_all_18 : decode cX4_all 18 = .ok (.istore_n 1, 1) := by decide +kernel
theorem dX4_all_19 : decode cX4_all 19 = .ok (.iinc 2 1, 3) := by decide +kernel
theorem dX4_all_22 : decode cX4_all 22 = .ok (.goto (-18), 3) := by decide +kernel
theorem dX4_all_25 : decode cX4_all 25 = .ok (.iload_n 1, 1) := by decide +kernel
theorem dX4_all_26 : decode cX4_all 26 = .ok (.ireturn, 1) := by decide +kernel
theorem dX5_init_0 : decode cX5_init 0 = .ok (.aload_n 0, 1) := by decide +kernel
theorem dX5_init_1 : decode cX5_init 1 = .ok (.invokespecial 3, 3) := by decide +kernel
theorem dX5_init_4 : decode cX5_init 4 = .ok (.aload_n 0, 1) := by decide +kernel
theorem dX5_init_5 : decode cX5_init 5 = .ok (.bipush 60, 2) := by decide +kernel
theorem dX5_init_7 : decode cX5_init 7 = .ok (.newarray .int, 2) := by decide +kernel
theorem dX5_init_9 : decode cX5_init 9 = .ok (.putfield 11, 3) := by decide +kernel
theorem dX5_init_12 : decode cX5_init 12 = .ok (.aload_n 0, 1) := by decide +kernel
theorem dX5_init_13 : decode cX5_init 13 = .ok (.iconst 0, 1) := by decide +kernel
theorem dX5_init_14 : decode cX5_init 14 = .ok (.putfield 15, 3) := by decide +kernel
theorem dX5_init_17 : decode cX5_init 17 = .ok (.aload_n 0, 1) := by decide +kernel
theorem dX5_init_18 : decode cX5_init 18 = .ok (.bipush 60, 2) := by decide +kernel
theorem dX5_init_20 : decode cX5_init 20 = .ok (.newarray .int, 2) := by decide +kernel
theorem dX5_init_22 : decode cX5_init 22 = .ok (.putfield 19, 3) := by decide +kernel
theorem dX5_init_25 : decode cX5_init 25 = .ok (.aload_n 0, 1) := by decide +kernel
theorem dX5_init_26 : decode cX5_init 26 = .ok (.bipush 60, 2) := by decide +kernel
theorem dX5_init_28 : decode cX5_init 28 = .ok (.newarray .int, 2) := by decide +kernel
theorem dX5_init_30 : decode cX5_init 30 = .ok (.putfield 22, 3) := by decide +kernel
theorem dX5_init_33 : decode cX5_init 33 = .ok (.aload_n 0, 1) := by decide +kernel
theorem dX5_init_34 : decode cX5_init 34 = .ok (.iconst 0, 1) := by decide +kernel
theorem dX5_init_35 : decode cX5_init 35 = .ok (.putfield 25, 3) := by decide +kernel
theorem dX5_init_38 : decode cX5_init 38 = .ok (.return_, 1) := by decide +kernel
theorem dX5_add_0 : decode cX5_add 0 = .ok (.aload_n 0, 1) := by decide +kernel
theorem dX5_add_1 : decode cX5_add 1 = .ok (.getfield 15, 3) := by decide +kernel
theorem dX5_add_4 : decode cX5_add 4 = .ok (.bipush 60, 2) := by decide +kernel
theorem dX5_add_6 : decode cX5_add 6 = .ok (.if_icmp .lt 5, 3) := by decide +kernel
theorem dX5_add_9 : decode cX5_add 9 = .ok (.iconst 0, 1) := by decide +kernel
theorem dX5_add_10 : decode cX5_add 10 = .ok (.ireturn, 1) := by decide +kernel
theorem dX5_add_11 : decode cX5_add 11 = .ok (.aload_n 0, 1) := by decide +kernel
theorem dX5_add_12 : decode cX5_add 12 = .ok (.getfield 11, 3) := by decide +kernel
theorem dX5_add_15 : decode cX5_add 15 = .ok (.aload_n 0, 1) := by decide +kernel
theorem dX5_add_16 : decode cX5_add 16 = .ok (.getfield 15, 3) := by decide +kernel
theorem dX5_add_19 : decode cX5_add 19 = .ok (.iload_n 1, 1) := by decide +kernel
theorem dX5_add_20 : decode cX5_add 20 = .ok (.iastore, 1) := by decide +kernel
theorem dX5_add_21 : decode cX5_add 21 = .ok (.aload_n 0, 1) := by decide +kernel
theorem dX5_add_22 : decode cX5_add 22 = .ok (.dup, 1) := by decide +kernel
theorem dX5_add_23 : decode cX5_add 23 = .ok (.getfield 15, 3) := by decide +kernel
theorem dX5_add_26 : decode cX5_add 26 = .ok (.iconst 1, 1) := by decide +kernel
theorem dX5_add_27 : decode cX5_add 27 = .ok (.iadd, 1) := by decide +kernel
theorem dX5_add_28 : decode cX5_add 28 = .ok (.putfield 15, 3) := by decide +kernel
theorem dX5_add_31 : decode cX5_add 31 = .ok (.iconst 1, 1) := by decide +kernel
theorem dX5_add_32 : decode cX5_add 32 = .ok (.ireturn, 1) := by decide +kernel
theorem dX5_readActs_0 : decode cX5_readActs 0 = .ok (.aload_n 0, 1) := by decide +kernel
theorem dX5_readActs_1 : decode cX5_readActs 1 = .ok (.iconst 0, 1) := by decide +kernel
theorem dX5_readActs_2 : decode cX5_readActs 2 = .ok (.putfield 25, 3) := by decide +kernel
theorem dX5_readActs_5 : decode cX5_readActs 5 = .ok (.bipush (-6), 2) := by decide +kernel
theorem dX5_readActs_7 : decode cX5_readActs 7 = .ok (.istore_n 1, 1) := by decide +kernel
theorem dX5_readActs_8 : decode cX5_readActs 8 = .ok (.iconst 0, 1) := by decide +kernel
theorem dX5_readActs_9 : decode cX5_readActs 9 = .ok (.istore_n 2, 1) := by decide +kernel
theorem dX5_readActs_10 : decode cX5_readActs 10 = .ok (.iload_n 2, 1) := by decide +kernel
theorem dX5_readActs_11 : decode cX5_readActs 11 = .ok (.aload_n 0, 1) := by decide +kernel
theorem dX5_readActs_12 : decode cX5_readActs 12 = .ok (.getfield 15, 3) := by decide +kernel
theorem dX5_readActs_15 : decode cX5_readActs 15 = .ok (.if_icmp .ge 111, 3) := by decide +kernel
theorem dX5_readActs_18 : decode cX5_readActs 18 = .ok (.iload_n 1, 1) := by decide +kernel
theorem dX5_readActs_19 : decode cX5_readActs 19 = .ok (.bipush (-6), 2) := by decide +kernel
theorem dX5_readActs_21 : decode cX5_readActs 21 = .ok (.if_icmp .ne 30, 3) := by decide +kernel
theorem dX5_readActs_24 : decode cX5_readActs 24 = .ok (.aload_n 0, 1) := by decide +kernel
theorem dX5_readActs_25 : decode cX5_readActs 25 = .ok (.getfield 11, 3) := by decide +kernel
theorem dX5_readActs_28 : decode cX5_readActs 28 = .ok (.iload_n 2, 1) := by decide +kernel
theorem dX5_readActs_29 : decode cX5_readActs 29 = .ok (.iaload, 1) := by decide +kernel
theorem dX5_readActs_30 : decode cX5_readActs 30 = .ok (.invokestatic 28, 3) := by decide +kernel
theorem dX5_readActs_33 : decode cX5_readActs 33 = .ok (.bipush (-6), 2) := by decide +kernel
theorem dX5_readActs_35 : decode cX5_readActs 35 = .ok (.if_icmp .eq 16, 3) := by decide +kernel
theorem dX5_readActs_38 : decode cX5_readActs 38 = .ok (.aload_n 0, 1) := by decide +kernel
theorem dX5_readActs_39 : decode cX5_readActs 39 = .ok (.getfield 11, 3) := by decide +kernel
theorem dX5_readActs_42 : decode cX5_readActs 42 = .ok (.iload_n 2, 1) := by decide +kernel
theorem dX5_readActs_43 : decode cX5_readActs 43 = .ok (.iaload, 1) := by decide +kernel
theorem dX5_readActs_44 : decode cX5_readActs 44 = .ok (.invokestatic 28, 3) := by decide +kernel
theorem dX5_readActs_47 : decode cX5_readActs 47 = .ok (.istore_n 1, 1) := by decide +kernel
theorem dX5_readActs_48 : decode cX5_readActs 48 = .ok (.goto 72, 3) := by decide +kernel
theorem dX5_readActs_51 : decode cX5_readActs 51 = .ok (.iload_n 1, 1) := by decide +kernel
theorem dX5_readActs_52 : decode cX5_readActs 52 = .ok (.bipush (-6), 2) := by decide +kernel
theorem dX5_readActs_54 : decode cX5_readActs 54 = .ok (.if_icmp .ne 15, 3) := by decide +kernel
theorem dX5_readActs_57 : decode cX5_readActs 57 = .ok (.aload_n 0, 1) := by decide +kernel
theorem dX5_readActs_58 : decode cX5_readActs 58 = .ok (.getfield 11, 3) := by decide +kernel
theorem dX5_readActs_61 : decode cX5_readActs 61 = .ok (.iload_n 2, 1) := by decide +kernel
theorem dX5_readActs_62 : decode cX5_readActs 62 = .ok (.iaload, 1) := by decide +kernel
theorem dX5_readActs_63 : decode cX5_readActs 63 = .ok (.invokestatic 32, 3) := by decide +kernel
theorem dX5_readActs_66 : decode cX5_readActs 66 = .ok (.goto 12, 3) := by decide +kernel
theorem dX5_readActs_69 : decode cX5_readActs 69 = .ok (.aload_n 0, 1) := by decide +kernel
theorem dX5_readActs_70 : decode cX5_readActs 70 = .ok (.getfield 11, 3) := by decide +kernel
theorem dX5_readActs_73 : decode cX5_readActs 73 = .ok (.iload_n 2, 1) := by decide +kernel
theorem dX5_readActs_74 : decode cX5_readActs 74 = .ok (.iaload, 1) := by decide +kernel
theorem dX5_readActs_75 : decode cX5_readActs 75 = .ok (.invokestatic 35, 3) := by decide +kernel
theorem dX5_readActs_78 : decode cX5_readActs 78 = .ok (.istore_n 3, 1) := by decide +kernel
theorem dX5_readActs_79 : decode cX5_readActs 79 = .ok (.iload_n 3, 1) := by decide +kernel
theorem dX5_readActs_80 : decode cX5_readActs 80 = .ok (.bipush (-6), 2) := by decide +kernel
theorem dX5_readActs_82 : decode cX5_readActs 82 = .ok (.if_icmp .ne 5, 3) := by decide +kernel
theorem dX5_readActs_85 : decode cX5_readActs 85 = .ok (.iload_n 2, 1) := by decide +kernel
theorem dX5_readActs_86 : decode cX5_readActs 86 = .ok (.ireturn, 1) := by decide +kernel
theorem dX5_readActs_87 : decode cX5_readActs 87 = .ok (.aload_n 0, 1) := by decide +kernel
theorem dX5_readActs_88 : decode cX5_readActs 88 = .ok (.getfield 19, 3) := by decide +kernel
theorem dX5_readActs_91 : decode cX5_readActs 91 = .ok (.aload_n 0, 1) := by decide +kernel
theorem dX5_readActs_92 : decode cX5_readActs 92 = .ok (.getfield 25, 3) := by decide +kernel
theorem dX5_readActs_95 : decode cX5_readActs 95 = .ok (.iload_n 3, 1) := by decide +kernel
theorem dX5_readActs_96 : decode cX5_readActs 96 = .ok (.iastore, 1) := by decide +kernel
theorem dX5_readActs_97 : decode cX5_readActs 97 = .ok (.aload_n 0, 1) := by decide +kernel
theorem dX5_readActs_98 : decode cX5_readActs 98 = .ok (.getfield 22, 3) := by decide +kernel
theorem dX5_readActs_101 : decode cX5_readActs 101 = .ok (.aload_n 0, 1) := by decide +kernel
theorem dX5_readActs_102 : decode cX5_readActs 102 = .ok (.getfield 25, 3) := by decide +kernel
theorem dX5_readActs_105 : decode cX5_readActs 105 = .ok (.iload_n 1, 1) := by decide +kernel
theorem dX5_readActs_106 : decode cX5_readActs 106 = .ok (.iastore, 1) := by decide +kernel
theorem dX5_readActs_107 : decode cX5_readActs 107 = .ok (.aload_n 0, 1) := by decide +kernel
theorem dX5_readActs_108 : decode cX5_readActs 108 = .ok (.dup, 1) := by decide +kernel
theorem dX5_readActs_109 : decode cX5_readActs 109 = .ok (.getfield 25, 3) := by decide +kernel
theorem dX5_readActs_112 : decode cX5_readActs 112 = .ok (.iconst 1, 1) := by decide +kernel
theorem dX5_readActs_113 : decode cX5_readActs 113 = .ok (.iadd, 1) := by decide +kernel
theorem dX5_readActs_114 : decode cX5_readActs 114 = .ok (.putfield 25, 3) := by decide +kernel
theorem dX5_readActs_117 : decode cX5_readActs 117 = .ok (.bipush (-6), 2) := by decide +kernel
theorem dX5_readActs_119 : decode cX5_readActs 119 = .ok (.istore_n 1, 1) := by decide +kernel
theorem dX5_readActs_120 : decode cX5_readActs 120 = .ok (.iinc 2 1, 3) := by decide +kernel
theorem dX5_readActs_123 : decode cX5_readActs 123 = .ok (.goto (-113), 3) := by decide +kernel
theorem dX5_readActs_126 : decode cX5_readActs 126 = .ok (.iload_n 1, 1) := by decide +kernel
theorem dX5_readActs_127 : decode cX5_readActs 127 = .ok (.bipush (-6), 2) := by decide +kernel
theorem dX5_readActs_129 : decode cX5_readActs 129 = .ok (.if_icmp .ne 8, 3) := by decide +kernel
theorem dX5_readActs_132 : decode cX5_readActs 132 = .ok (.bipush (-6), 2) := by decide +kernel
theorem dX5_readActs_134 : decode cX5_readActs 134 = .ok (.goto 7, 3) := by decide +kernel
theorem dX5_readActs_137 : decode cX5_readActs 137 = .ok (.aload_n 0, 1) := by decide +kernel
theorem dX5_readActs_138 : decode cX5_readActs 138 = .ok (.getfield 15, 3) := by decide +kernel
theorem dX5_readActs_141 : decode cX5_readActs 141 = .ok (.ireturn, 1) := by decide +kernel
theorem dX5_oneOf_0 : decode cX5_oneOf 0 = .ok (.iload_n 0, 1) := by decide +kernel
theorem dX5_oneOf_1 : decode cX5_oneOf 1 = .ok (.bipush 65, 2) := by decide +kernel
theorem dX5_oneOf_3 : decode cX5_oneOf 3 = .ok (.if_icmp .lt 16, 3) := by decide +kernel
theorem dX5_oneOf_6 : decode cX5_oneOf 6 = .ok (.iload_n 0, 1) := by decide +kernel
theorem dX5_oneOf_7 : decode cX5_oneOf 7 = .ok (.bipush 71, 2) := by decide +kernel
theorem dX5_oneOf_9 : decode cX5_oneOf 9 = .ok (.if_icmp .ge 10, 3) := by decide +kernel
theorem dX5_oneOf_12 : decode cX5_oneOf 12 = .ok (.iload_n 0, 1) := by decide +kernel
theorem dX5_oneOf_13 : decode cX5_oneOf 13 = .ok (.bipush 65, 2) := by decide +kernel
theorem dX5_oneOf_15 : decode cX5_oneOf 15 = .ok (.isub, 1) := by decide +kernel
theorem dX5_oneOf_16 : decode cX5_oneOf 16 = .ok (.goto 5, 3) := by decide +kernel
theorem dX5_oneOf_19 : decode cX5_oneOf 19 = .ok (.bipush (-6), 2) := by decide +kernel
theorem dX5_oneOf_21 : decode cX5_oneOf 21 = .ok (.ireturn, 1) := by decide +kernel
theorem dX5_weatherOf_0 : decode cX5_weatherOf 0 = .ok (.iload_n 0, 1) := by decide +kernel
theorem dX5_weatherOf_1 : decode cX5_weatherOf 1 = .ok (.lookupswitch 61 #[(46, 59), (60, 55), (62, 57), (99, 51), (100, 53)], 51) := by decide +kernel
theorem dX5_weatherOf_52 : decode cX5_weatherOf 52 = .ok (.iconst 0, 1) := by decide +kernel
theorem dX5_weatherOf_53 : decode cX5_weatherOf 53 = .ok (.ireturn, 1) := by decide +kernel
theorem dX5_weatherOf_54 : decode cX5_weatherOf 54 = .ok (.iconst 1, 1) := by decide +kernel
theorem dX5_weatherOf_55 : decode cX5_weatherOf 55 = .ok (.ireturn, 1) := by decide +kernel
theorem dX5_weatherOf_56 : decode cX5_weatherOf 56 = .ok (.iconst 2, 1) := by decide +kernel
theorem dX5_weatherOf_57 : decode cX5_weatherOf 57 = .ok (.ireturn, 1) := by decide +kernel
theorem dX5_weatherOf_58 : decode cX5_weatherOf 58 = .ok (.iconst 3, 1) := by decide +kernel
theorem dX5_weatherOf_59 : decode cX5_weatherOf 59 = .ok (.ireturn, 1) := by decide +kernel
theorem dX5_weatherOf_60 : decode cX5_weatherOf 60 = .ok (.iconst 4, 1) := by decide +kernel
theorem dX5_weatherOf_61 : decode cX5_weatherOf 61 = .ok (.ireturn, 1) := by decide +kernel
theorem dX5_weatherOf_62 : decode cX5_weatherOf 62 = .ok (.bipush (-6), 2) := by decide +kernel
theorem dX5_weatherOf_64 : decode cX5_weatherOf 64 = .ok (.ireturn, 1) := by decide +kernel
theorem dX5_deedOf_0 : decode cX5_deedOf 0 = .ok (.iload_n 0, 1) := by decide +kernel
theorem dX5_deedOf_1 : decode cX5_deedOf 1 = .ok (.lookupswitch 43 #[(60, 35), (62, 37), (117, 40)], 35) := by decide +kernel
theorem dX5_deedOf_36 : decode cX5_deedOf 36 = .ok (.iconst 5, 1) := by decide +kernel
theorem dX5_deedOf_37 : decode cX5_deedOf 37 = .ok (.ireturn, 1) := by decide +kernel
theorem dX5_deedOf_38 : decode cX5_deedOf 38 = .ok (.bipush 6, 2) := by decide +kernel
theorem dX5_deedOf_40 : decode cX5_deedOf 40 = .ok (.ireturn, 1) := by decide +kernel
theorem dX5_deedOf_41 : decode cX5_deedOf 41 = .ok (.bipush 7, 2) := by decide +kernel
theorem dX5_deedOf_43 : decode cX5_deedOf 43 = .ok (.ireturn, 1) := by decide +kernel
theorem dX5_deedOf_44 : decode cX5_deedOf 44 = .ok (.bipush (-6), 2) := by decide +kernel
theorem dX5_deedOf_46 : decode cX5_deedOf 46 = .ok (.ireturn, 1) := by decide +kernel
theorem dX6_init_0 : decode cX6_init 0 = .ok (.aload_n 0, 1) := by decide +kernel
theorem dX6_init_1 : decode cX6_init 1 = .ok (.invokespecial 3, 3) := by decide +kernel
theorem dX6_init_4 : decode cX6_init 4 = .ok (.aload_n 0, 1) := by decide +kernel
theorem dX6_init_5 : decode cX6_init 5 = .ok (.bipush 61, 2) := by decide +kernel
theorem dX6_init_7 : decode cX6_init 7 = .ok (.newarray .int, 2) := by decide +kernel
theorem dX6_init_9 : decode cX6_init 9 = .ok (.putfield 9, 3) := by decide +kernel
theorem dX6_init_12 : decode cX6_init 12 = .ok (.iconst 0, 1) := by decide +kernel
theorem dX6_init_13 : decode cX6_init 13 = .ok (.istore_n 1, 1) := by decide +kernel
theorem dX6_init_14 : decode cX6_init 14 = .ok (.iload_n 1, 1) := by decide +kernel
theorem dX6_init_15 : decode cX6_init 15 = .ok (.bipush 60, 2) := by decide +kernel
theorem dX6_init_17 : decode cX6_init 17 = .ok (.if_icmp .gt 45, 3) := by decide +kernel
theorem dX6_init_20 : decode cX6_init 20 = .ok (.iconst 0, 1) := by decide +kernel
theorem dX6_init_21 : decode cX6_init 21 = .ok (.istore_n 2, 1) := by decide +kernel
theorem dX6_init_22 : decode cX6_init 22 = .ok (.iload_n 2, 1) := by decide +kernel
theorem dX6_init_23 : decode cX6_init 23 = .ok (.iconst 3, 1) := by decide +kernel
theorem dX6_init_24 : decode cX6_init 24 = .ok (.if_icmp .gt 32, 3) := by decide +kernel
theorem dX6_init_27 : decode cX6_init 27 = .ok (.aload_n 0, 1) := by decide +kernel
theorem dX6_init_28 : decode cX6_init 28 = .ok (.iload_n 1, 1) := by decide +kernel
theorem dX6_init_29 : decode cX6_init 29 = .ok (.iload_n 2, 1) := by decide +kernel
theorem dX6_init_30 : decode cX6_init 30 = .ok (.invokevirtual 15, 3) := by decide +kernel
theorem dX6_init_33 : decode cX6_init 33 = .ok (.bipush (-6), 2) := by decide +kernel
theorem dX6_init_35 : decode cX6_init 35 = .ok (.if_icmp .eq 15, 3) := by decide +kernel
theorem dX6_init_38 : decode cX6_init 38 = .ok (.aload_n 0, 1) := by decide +kernel
theorem dX6_init_39 : decode cX6_init 39 = .ok (.getfield 9, 3) := by decide +kernel
theorem dX6_init_42 : decode cX6_init 42 = .ok (.iload_n 1, 1) := by decide +kernel
theorem dX6_init_43 : decode cX6_init 43 = .ok (.dup2, 1) := by decide +kernel
theorem dX6_init_44 : decode cX6_init 44 = .ok (.iaload, 1) := by decide +kernel
theorem dX6_init_45 : decode cX6_init 45 = .ok (.iconst 1, 1) := by decide +kernel
theorem dX6_init_46 : decode cX6_init 46 = .ok (.iload_n 2, 1) := by decide +kernel
theorem dX6_init_47 : decode cX6_init 47 = .ok (.ishl, 1) := by decide +kernel
theorem dX6_init_48 : decode cX6_init 48 = .ok (.ior, 1) := by decide +kernel
theorem dX6_init_49 : decode cX6_init 49 = .ok (.iastore, 1) := by decide +kernel
theorem dX6_init_50 : decode cX6_init 50 = .ok (.iinc 2 1, 3) := by decide +kernel
theorem dX6_init_53 : decode cX6_init 53 = .ok (.goto (-31), 3) := by decide +kernel
theorem dX6_init_56 : decode cX6_init 56 = .ok (.iinc 1 1, 3) := by decide +kernel
theorem dX6_init_59 : decode cX6_init 59 = .ok (.goto (-45), 3) := by decide +kernel
theorem dX6_init_62 : decode cX6_init 62 = .ok (.return_, 1) := by decide +kernel
theorem dX6_winningTake_0 : decode cX6_winningTake 0 = .ok (.iconst 1, 1) := by decide +kernel
theorem dX6_winningTake_1 : decode cX6_winningTake 1 = .ok (.istore_n 3, 1) := by decide +kernel
theorem dX6_winningTake_2 : decode cX6_winningTake 2 = .ok (.iload_n 3, 1) := by decide +kernel
theorem dX6_winningTake_3 : decode cX6_winningTake 3 = .ok (.iconst 3, 1) := by decide +kernel
theorem dX6_winningTake_4 : decode cX6_winningTake 4 = .ok (.if_icmp .gt 36, 3) := by decide +kernel
theorem dX6_winningTake_7 : decode cX6_winningTake 7 = .ok (.iload_n 3, 1) := by decide +kernel
theorem dX6_winningTake_8 : decode cX6_winningTake 8 = .ok (.iload_n 1, 1) := by decide +kernel
theorem dX6_winningTake_9 : decode cX6_winningTake 9 = .ok (.if_icmp .gt 31, 3) := by decide +kernel
theorem dX6_winningTake_12 : decode cX6_winningTake 12 = .ok (.iload_n 3, 1) := by decide +kernel
theorem dX6_winningTake_13 : decode cX6_winningTake 13 = .ok (.iload_n 2, 1) := by decide +kernel
theorem dX6_winningTake_14 : decode cX6_winningTake 14 = .ok (.if_icmp .eq 20, 3) := by decide +kernel
theorem dX6_winningTake_17 : decode cX6_winningTake 17 = .ok (.aload_n 0, 1) := by decide +kernel
theorem dX6_winningTake_18 : decode cX6_winningTake 18 = .ok (.getfield 9, 3) := by decide +kernel
theorem dX6_winningTake_21 : decode cX6_winningTake 21 = .ok (.iload_n 1, 1) := by decide +kernel
theorem dX6_winningTake_22 : decode cX6_winningTake 22 = .ok (.iload_n 3, 1) := by decide +kernel
theorem dX6_winningTake_23 : decode cX6_winningTake 23 = .ok (.isub, 1) := by decide +kernel
theorem dX6_winningTake_24 : decode cX6_winningTake 24 = .ok (.iaload, 1) := by decide +kernel
theorem dX6_winningTake_25 : decode cX6_winningTake 25 = .ok (.iload_n 3, 1) := by decide +kernel
theorem dX6_winningTake_26 : decode cX6_winningTake 26 = .ok (.invokestatic 19, 3) := by decide +kernel
theorem dX6_winningTake_29 : decode cX6_winningTake 29 = .ok (.ifCond .ne 5, 3) := by decide +kernel
theorem dX6_winningTake_32 : decode cX6_winningTake 32 = .ok (.iload_n 3, 1) := by decide +kernel
theorem dX6_winningTake_33 : decode cX6_winningTake 33 = .ok (.ireturn, 1) := by decide +kernel
theorem dX6_winningTake_34 : decode cX6_winningTake 34 = .ok (.iinc 3 1, 3) := by decide +kernel
theorem dX6_winningTake_37 : decode cX6_winningTake 37 = .ok (.goto (-35), 3) := by decide +kernel
theorem dX6_winningTake_40 : decode cX6_winningTake 40 = .ok (.bipush (-6), 2) := by decide +kernel
theorem dX6_winningTake_42 : decode cX6_winningTake 42 = .ok (.ireturn, 1) := by decide +kernel
theorem dX7_init_0 : decode cX7_init 0 = .ok (.aload_n 0, 1) := by decide +kernel
theorem dX7_init_1 : decode cX7_init 1 = .ok (.invokespecial 3, 3) := by decide +kernel
theorem dX7_init_4 : decode cX7_init 4 = .ok (.aload_n 0, 1) := by decide +kernel
theorem dX7_init_5 : decode cX7_init 5 = .ok (.iconst 0, 1) := by decide +kernel
theorem dX7_init_6 : decode cX7_init 6 = .ok (.putfield 9, 3) := by decide +kernel
theorem dX7_init_9 : decode cX7_init 9 = .ok (.aload_n 0, 1) := by decide +kernel
theorem dX7_init_10 : decode cX7_init 10 = .ok (.bipush 8, 2) := by decide +kernel
theorem dX7_init_12 : decode cX7_init 12 = .ok (.newarray .int, 2) := by decide +kernel
theorem dX7_init_14 : decode cX7_init 14 = .ok (.putfield 15, 3) := by decide +kernel
theorem dX7_init_17 : decode cX7_init 17 = .ok (.aload_n 0, 1) := by decide +kernel
theorem dX7_init_18 : decode cX7_init 18 = .ok (.bipush 8, 2) := by decide +kernel
theorem dX7_init_20 : decode cX7_init 20 = .ok (.newarray .int, 2) := by decide +kernel
theorem dX7_init_22 : decode cX7_init 22 = .ok (.putfield 19, 3) := by decide +kernel
theorem dX7_init_25 : decode cX7_init 25 = .ok (.aload_n 0, 1) := by decide +kernel
theorem dX7_init_26 : decode cX7_init 26 = .ok (.bipush 8, 2) := by decide +kernel
theorem dX7_init_28 : decode cX7_init 28 = .ok (.newarray .int, 2) := by decide +kernel
theorem dX7_init_30 : decode cX7_init 30 = .ok (.putfield 22, 3) := by decide +kernel
theorem dX7_init_33 : decode cX7_init 33 = .ok (.aload_n 0, 1) := by decide +kernel
theorem dX7_init_34 : decode cX7_init 34 = .ok (.bipush 8, 2) := by decide +kernel
theorem dX7_init_36 : decode cX7_init 36 = .ok (.newarray .int, 2) := by decide +kernel
theorem dX7_init_38 : decode cX7_init 38 = .ok (.putfield 25, 3) := by decide +kernel
theorem dX7_init_41 : decode cX7_init 41 = .ok (.aload_n 0, 1) := by decide +kernel
theorem dX7_init_42 : decode cX7_init 42 = .ok (.bipush 8, 2) := by decide +kernel
theorem dX7_init_44 : decode cX7_init 44 = .ok (.newarray .int, 2) := by decide +kernel
theorem dX7_init_46 : decode cX7_init 46 = .ok (.putfield 28, 3) := by decide +kernel
theorem dX7_init_49 : decode cX7_init 49 = .ok (.aload_n 0, 1) := by decide +kernel
theorem dX7_init_50 : decode cX7_init 50 = .ok (.bipush 6, 2) := by decide +kernel
theorem dX7_init_52 : decode cX7_init 52 = .ok (.newarray .int, 2) := by decide +kernel
theorem dX7_init_54 : decode cX7_init 54 = .ok (.putfield 31, 3) := by decide +kernel
theorem dX7_init_57 : decode cX7_init 57 = .ok (.aload_n 0, 1) := by decide +kernel
theorem dX7_init_58 : decode cX7_init 58 = .ok (.iconst 0, 1) := by decide +kernel
theorem dX7_init_59 : decode cX7_init 59 = .ok (.putfield 34, 3) := by decide +kernel
theorem dX7_init_62 : decode cX7_init 62 = .ok (.aload_n 0, 1) := by decide +kernel
theorem dX7_init_63 : decode cX7_init 63 = .ok (.bipush 90, 2) := by decide +kernel
theorem dX7_init_65 : decode cX7_init 65 = .ok (.putfield 37, 3) := by decide +kernel
theorem dX7_init_68 : decode cX7_init 68 = .ok (.aload_n 0, 1) := by decide +kernel
theorem dX7_init_69 : decode cX7_init 69 = .ok (.bipush 30, 2) := by decide +kernel
theorem dX7_init_71 : decode cX7_init 71 = .ok (.putfield 40, 3) := by decide +kernel
theorem dX7_init_74 : decode cX7_init 74 = .ok (.aload_n 0, 1) := by decide +kernel
theorem dX7_init_75 : decode cX7_init 75 = .ok (.iconst 0, 1) := by decide +kernel
theorem dX7_init_76 : decode cX7_init 76 = .ok (.putfield 43, 3) := by decide +kernel
theorem dX7_init_79 : decode cX7_init 79 = .ok (.aload_n 0, 1) := by decide +kernel
theorem dX7_init_80 : decode cX7_init 80 = .ok (.iconst 0, 1) := by decide +kernel
theorem dX7_init_81 : decode cX7_init 81 = .ok (.putfield 46, 3) := by decide +kernel
theorem dX7_init_84 : decode cX7_init 84 = .ok (.aload_n 0, 1) := by decide +kernel
theorem dX7_init_85 : decode cX7_init 85 = .ok (.iconst 0, 1) := by decide +kernel
theorem dX7_init_86 : decode cX7_init 86 = .ok (.putfield 49, 3) := by decide +kernel
theorem dX7_init_89 : decode cX7_init 89 = .ok (.iconst 0, 1) := by decide +kernel
theorem dX7_init_90 : decode cX7_init 90 = .ok (.istore_n 1, 1) := by decide +kernel
theorem dX7_init_91 : decode cX7_init 91 = .ok (.iload_n 1, 1) := by decide +kernel
theorem dX7_init_92 : decode cX7_init 92 = .ok (.bipush 6, 2) := by decide +kernel
theorem dX7_init_94 : decode cX7_init 94 = .ok (.if_icmp .ge 16, 3) := by decide +kernel
theorem dX7_init_97 : decode cX7_init 97 = .ok (.aload_n 0, 1) := by decide +kernel
theorem dX7_init_98 : decode cX7_init 98 = .ok (.getfield 31, 3) := by decide +kernel
theorem dX7_init_101 : decode cX7_init 101 = .ok (.iload_n 1, 1) := by decide +kernel
theorem dX7_init_102 : decode cX7_init 102 = .ok (.iload_n 1, 1) := by decide +kernel
theorem dX7_init_103 : decode cX7_init 103 = .ok (.iastore, 1) := by decide +kernel
theorem dX7_init_104 : decode cX7_init 104 = .ok (.iinc 1 1, 3) := by decide +kernel
theorem dX7_init_107 : decode cX7_init 107 = .ok (.goto (-16), 3) := by decide +kernel
theorem dX7_init_110 : decode cX7_init 110 = .ok (.return_, 1) := by decide +kernel
theorem dX7_copy_0 : decode cX7_copy 0 = .ok (.aload_n 0, 1) := by decide +kernel
theorem dX7_copy_1 : decode cX7_copy 1 = .ok (.aload_n 1, 1) := by decide +kernel
theorem dX7_copy_2 : decode cX7_copy 2 = .ok (.getfield 9, 3) := by decide +kernel
theorem dX7_copy_5 : decode cX7_copy 5 = .ok (.putfield 9, 3) := by decide +kernel
theorem dX7_copy_8 : decode cX7_copy 8 = .ok (.aload_n 1, 1) := by decide +kernel
theorem dX7_copy_9 : decode cX7_copy 9 = .ok (.getfield 15, 3) := by decide +kernel
theorem dX7_copy_12 : decode cX7_copy 12 = .ok (.iconst 0, 1) := by decide +kernel
theorem dX7_copy_13 : decode cX7_copy 13 = .ok (.aload_n 0, 1) := by decide +kernel
theorem dX7_copy_14 : decode cX7_copy 14 = .ok (.getfield 15, 3) := by decide +kernel
theorem dX7_copy_17 : decode cX7_copy 17 = .ok (.iconst 0, 1) := by decide +kernel
theorem dX7_copy_18 : decode cX7_copy 18 = .ok (.bipush 8, 2) := by decide +kernel
theorem dX7_copy_20 : decode cX7_copy 20 = .ok (.invokestatic 52, 3) := by decide +kernel
theorem dX7_copy_23 : decode cX7_copy 23 = .ok (.aload_n 1, 1) := by decide +kernel
theorem dX7_copy_24 : decode cX7_copy 24 = .ok (.getfield 19, 3) := by decide +kernel
theorem dX7_copy_27 : decode cX7_copy 27 = .ok (.iconst 0, 1) := by decide +kernel
theorem dX7_copy_28 : decode cX7_copy 28 = .ok (.aload_n 0, 1) := by decide +kernel
theorem dX7_copy_29 : decode cX7_copy 29 = .ok (.getfield 19, 3) := by decide +kernel
theorem dX7_copy_32 : decode cX7_copy 32 = .ok (.iconst 0, 1) := by decide +kernel
theorem dX7_copy_33 : decode cX7_copy 33 = .ok (.bipush 8, 2) := by decide +kernel
theorem dX7_copy_35 : decode cX7_copy 35 = .ok (.invokestatic 52, 3) := by decide +kernel
theorem dX7_copy_38 : decode cX7_copy 38 = .ok (.aload_n 1, 1) := by decide +kernel
theorem dX7_copy_39 : decode cX7_copy 39 = .ok (.getfield 22, 3) := by decide +kernel
theorem dX7_copy_42 : decode cX7_copy 42 = .ok (.iconst 0, 1) := by decide +kernel
theorem dX7_copy_43 : decode cX7_copy 43 = .ok (.aload_n 0, 1) := by decide +kernel
theorem dX7_copy_44 : decode cX7_copy 44 = .ok (.getfield 22, 3) := by decide +kernel
theorem dX7_copy_47 : decode cX7_copy 47 = .ok (.iconst 0, 1) := by decide +kernel
theorem dX7_copy_48 : decode cX7_copy 48 = .ok (.bipush 8, 2) := by decide +kernel
theorem dX7_copy_50 : decode cX7_copy 50 = .ok (.invokestatic 52, 3) := by decide +kernel
theorem dX7_copy_53 : decode cX7_copy 53 = .ok (.aload_n 1, 1) := by decide +kernel
theorem dX7_copy_54 : decode cX7_copy 54 = .ok (.getfield 25, 3) := by decide +kernel
theorem dX7_copy_57 : decode cX7_copy 57 = .ok (.iconst 0, 1) := by decide +kernel
theorem dX7_copy_58 : decode cX7_copy 58 = .ok (.aload_n 0, 1) := by decide +kernel
theorem dX7_copy_59 : decode cX7_copy 59 = .ok (.getfield 25, 3) := by decide +kernel
theorem dX7_copy_62 : decode cX7_copy 62 = .ok (.iconst 0, 1) := by decide +kernel
theorem dX7_copy_63 : decode cX7_copy 63 = .ok (.bipush 8, 2) := by decide +kernel
theorem dX7_copy_65 : decode cX7_copy 65 = .ok (.invokestatic 52, 3) := by decide +kernel
theorem dX7_copy_68 : decode cX7_copy 68 = .ok (.aload_n 1, 1) := by decide +kernel
theorem dX7_copy_69 : decode cX7_copy 69 = .ok (.getfield 28, 3) := by decide +kernel
theorem dX7_copy_72 : decode cX7_copy 72 = .ok (.iconst 0, 1) := by decide +kernel
theorem dX7_copy_73 : decode cX7_copy 73 = .ok (.aload_n 0, 1) := by decide +kernel
theorem dX7_copy_74 : decode cX7_copy 74 = .ok (.getfield 28, 3) := by decide +kernel
theorem dX7_copy_77 : decode cX7_copy 77 = .ok (.iconst 0, 1) := by decide +kernel
theorem dX7_copy_78 : decode cX7_copy 78 = .ok (.bipush 8, 2) := by decide +kernel
theorem dX7_copy_80 : decode cX7_copy 80 = .ok (.invokestatic 52, 3) := by decide +kernel
theorem dX7_copy_83 : decode cX7_copy 83 = .ok (.aload_n 1, 1) := by decide +kernel
theorem dX7_copy_84 : decode cX7_copy 84 = .ok (.getfield 31, 3) := by decide +kernel
theorem dX7_copy_87 : decode cX7_copy 87 = .ok (.iconst 0, 1) := by decide +kernel
theorem dX7_copy_88 : decode cX7_copy 88 = .ok (.aload_n 0, 1) := by decide +kernel
theorem dX7_copy_89 : decode cX7_copy 89 = .ok (.getfield 31, 3) := by decide +kernel
theorem dX7_copy_92 : decode cX7_copy 92 = .ok (.iconst 0, 1) := by decide +kernel
theorem dX7_copy_93 : decode cX7_copy 93 = .ok (.bipush 6, 2) := by decide +kernel
theorem dX7_copy_95 : decode cX7_copy 95 = .ok (.invokestatic 52, 3) := by decide +kernel
theorem dX7_copy_98 : decode cX7_copy 98 = .ok (.aload_n 0, 1) := by decide +kernel
theorem dX7_copy_99 : decode cX7_copy 99 = .ok (.aload_n 1, 1) := by decide +kernel
theorem dX7_copy_100 : decode cX7_copy 100 = .ok (.getfield 34, 3) := by decide +kernel
theorem dX7_copy_103 : decode cX7_copy 103 = .ok (.putfield 34, 3) := by decide +kernel
theorem dX7_copy_106 : decode cX7_copy 106 = .ok (.aload_n 0, 1) := by decide +kernel
theorem dX7_copy_107 : decode cX7_copy 107 = .ok (.aload_n 1, 1) := by decide +kernel
theorem dX7_copy_108 : decode cX7_copy 108 = .ok (.getfield 37, 3) := by decide +kernel
theorem dX7_copy_111 : decode cX7_copy 111 = .ok (.putfield 37, 3) := by decide +kernel
theorem dX7_copy_114 : decode cX7_copy 114 = .ok (.aload_n 0, 1) := by decide +kernel
theorem dX7_copy_115 : decode cX7_copy 115 = .ok (.aload_n 1, 1) := by decide +kernel
theorem dX7_copy_116 : decode cX7_copy 116 = .ok (.getfield 40, 3) := by decide +kernel
theorem dX7_copy_119 : decode cX7_copy 119 = .ok (.putfield 40, 3) := by decide +kernel
theorem dX7_copy_122 : decode cX7_copy 122 = .ok (.aload_n 0, 1) := by decide +kernel
theorem dX7_copy_123 : decode cX7_copy 123 = .ok (.aload_n 1, 1) := by decide +kernel
theorem dX7_copy_124 : decode cX7_copy 124 = .ok (.getfield 43, 3) := by decide +kernel
theorem dX7_copy_127 : decode cX7_copy 127 = .ok (.putfield 43, 3) := by decide +kernel
theorem dX7_copy_130 : decode cX7_copy 130 = .ok (.aload_n 0, 1) := by decide +kernel
theorem dX7_copy_131 : decode cX7_copy 131 = .ok (.aload_n 1, 1) := by decide +kernel
theorem dX7_copy_132 : decode cX7_copy 132 = .ok (.getfield 46, 3) := by decide +kernel
theorem dX7_copy_135 : decode cX7_copy 135 = .ok (.putfield 46, 3) := by decide +kernel
theorem dX7_copy_138 : decode cX7_copy 138 = .ok (.aload_n 0, 1) := by decide +kernel
theorem dX7_copy_139 : decode cX7_copy 139 = .ok (.aload_n 1, 1) := by decide +kernel
theorem dX7_copy_140 : decode cX7_copy 140 = .ok (.getfield 49, 3) := by decide +kernel
theorem dX7_copy_143 : decode cX7_copy 143 = .ok (.putfield 49, 3) := by decide +kernel
theorem dX7_copy_146 : decode cX7_copy 146 = .ok (.return_, 1) := by decide +kernel
theorem dX7_has_0 : decode cX7_has 0 = .ok (.iload_n 1, 1) := by decide +kernel
theorem dX7_has_1 : decode cX7_has 1 = .ok (.bipush 8, 2) := by decide +kernel
theorem dX7_has_3 : decode cX7_has 3 = .ok (.invokestatic 58, 3) := by decide +kernel
theorem dX7_has_6 : decode cX7_has 6 = .ok (.ifCond .eq 19, 3) := by decide +kernel
theorem dX7_has_9 : decode cX7_has 9 = .ok (.aload_n 0, 1) := by decide +kernel
theorem dX7_has_10 : decode cX7_has 10 = .ok (.getfield 9, 3) := by decide +kernel
theorem dX7_has_13 : decode cX7_has 13 = .ok (.iload_n 1, 1) := by decide +kernel
theorem dX7_has_14 : decode cX7_has 14 = .ok (.invokestatic 62, 3) := by decide +kernel
theorem dX7_has_17 : decode cX7_has 17 = .ok (.iconst 1, 1) := by decide +kernel
theorem dX7_has_18 : decode cX7_has 18 = .ok (.if_icmp .ne 7, 3) := by decide +kernel
theorem dX7_has_21 : decode cX7_has 21 = .ok (.iconst 1, 1) := by decide +kernel
theorem dX7_has_22 : decode cX7_has 22 = .ok (.goto 4, 3) := by decide +kernel
theorem dX7_has_25 : decode cX7_has 25 = .ok (.iconst 0, 1) := by decide +kernel
theorem dX7_has_26 : decode cX7_has 26 = .ok (.ireturn, 1) := by decide +kernel
theorem dX7_putFlake_0 : decode cX7_putFlake 0 = .ok (.aload_n 0, 1) := by decide +kernel
theorem dX7_putFlake_1 : decode cX7_putFlake 1 = .ok (.dup, 1) := by decide +kernel
theorem dX7_putFlake_2 : decode cX7_putFlake 2 = .ok (.getfield 9, 3) := by decide +kernel
theorem dX7_putFlake_5 : decode cX7_putFlake 5 = .ok (.iconst 1, 1) := by decide +kernel
theorem dX7_putFlake_6 : decode cX7_putFlake 6 = .ok (.iload_n 1, 1) := by decide +kernel
theorem dX7_putFlake_7 : decode cX7_putFlake 7 = .ok (.ishl, 1) := by decide +kernel
theorem dX7_putFlake_8 : decode cX7_putFlake 8 = .ok (.ior, 1) := by decide +kernel
theorem dX7_putFlake_9 : decode cX7_putFlake 9 = .ok (.putfield 9, 3) := by decide +kernel
theorem dX7_putFlake_12 : decode cX7_putFlake 12 = .ok (.aload_n 0, 1) := by decide +kernel
theorem dX7_putFlake_13 : decode cX7_putFlake 13 = .ok (.getfield 15, 3) := by decide +kernel
theorem dX7_putFlake_16 : decode cX7_putFlake 16 = .ok (.iload_n 1, 1) := by decide +kernel
theorem dX7_putFlake_17 : decode cX7_putFlake 17 = .ok (.iload_n 2, 1) := by decide +kernel
theorem dX7_putFlake_18 : decode cX7_putFlake 18 = .ok (.iastore, 1) := by decide +kernel
theorem dX7_putFlake_19 : decode cX7_putFlake 19 = .ok (.aload_n 0, 1) := by decide +kernel
theorem dX7_putFlake_20 : decode cX7_putFlake 20 = .ok (.getfield 19, 3) := by decide +kernel
theorem dX7_putFlake_23 : decode cX7_putFlake 23 = .ok (.iload_n 1, 1) := by decide +kernel
theorem dX7_putFlake_24 : decode cX7_putFlake 24 = .ok (.iload_n 3, 1) := by decide +kernel
theorem dX7_putFlake_25 : decode cX7_putFlake 25 = .ok (.iastore, 1) := by decide +kernel
theorem dX7_putFlake_26 : decode cX7_putFlake 26 = .ok (.aload_n 0, 1) := by decide +kernel
theorem dX7_putFlake_27 : decode cX7_putFlake 27 = .ok (.getfield 22, 3) := by decide +kernel
theorem dX7_putFlake_30 : decode cX7_putFlake 30 = .ok (.iload_n 1, 1) := by decide +kernel
theorem dX7_putFlake_31 : decode cX7_putFlake 31 = .ok (.iload 4, 2) := by decide +kernel
theorem dX7_putFlake_33 : decode cX7_putFlake 33 = .ok (.iastore, 1) := by decide +kernel
theorem dX7_putFlake_34 : decode cX7_putFlake 34 = .ok (.aload_n 0, 1) := by decide +kernel
theorem dX7_putFlake_35 : decode cX7_putFlake 35 = .ok (.getfield 25, 3) := by decide +kernel
theorem dX7_putFlake_38 : decode cX7_putFlake 38 = .ok (.iload_n 1, 1) := by decide +kernel
theorem dX7_putFlake_39 : decode cX7_putFlake 39 = .ok (.iload 5, 2) := by decide +kernel
theorem dX7_putFlake_41 : decode cX7_putFlake 41 = .ok (.iastore, 1) := by decide +kernel
theorem dX7_putFlake_42 : decode cX7_putFlake 42 = .ok (.aload_n 0, 1) := by decide +kernel
theorem dX7_putFlake_43 : decode cX7_putFlake 43 = .ok (.getfield 28, 3) := by decide +kernel
theorem dX7_putFlake_46 : decode cX7_putFlake 46 = .ok (.iload_n 1, 1) := by decide +kernel
theorem dX7_putFlake_47 : decode cX7_putFlake 47 = .ok (.bipush (-6), 2) := by decide +kernel
theorem dX7_putFlake_49 : decode cX7_putFlake 49 = .ok (.iastore, 1) := by decide +kernel
theorem dX7_putFlake_50 : decode cX7_putFlake 50 = .ok (.return_, 1) := by decide +kernel
theorem dX7_removeFlake_0 : decode cX7_removeFlake 0 = .ok (.aload_n 0, 1) := by decide +kernel
theorem dX7_removeFlake_1 : decode cX7_removeFlake 1 = .ok (.dup, 1) := by decide +kernel
theorem dX7_removeFlake_2 : decode cX7_removeFlake 2 = .ok (.getfield 9, 3) := by decide +kernel
theorem dX7_removeFlake_5 : decode cX7_removeFlake 5 = .ok (.iconst 1, 1) := by decide +kernel
theorem dX7_removeFlake_6 : decode cX7_removeFlake 6 = .ok (.iload_n 1, 1) := by decide +kernel
theorem dX7_removeFlake_7 : decode cX7_removeFlake 7 = .ok (.ishl, 1) := by decide +kernel
theorem dX7_removeFlake_8 : decode cX7_removeFlake 8 = .ok (.iconst (-1), 1) := by decide +kernel
theorem dX7_removeFlake_9 : decode cX7_removeFlake 9 = .ok (.ixor, 1) := by decide +kernel
theorem dX7_removeFlake_10 : decode cX7_removeFlake 10 = .ok (.iand, 1) := by decide +kernel
theorem dX7_removeFlake_11 : decode cX7_removeFlake 11 = .ok (.putfield 9, 3) := by decide +kernel
theorem dX7_removeFlake_14 : decode cX7_removeFlake 14 = .ok (.aload_n 0, 1) := by decide +kernel
theorem dX7_removeFlake_15 : decode cX7_removeFlake 15 = .ok (.getfield 22, 3) := by decide +kernel
theorem dX7_removeFlake_18 : decode cX7_removeFlake 18 = .ok (.iload_n 1, 1) := by decide +kernel
theorem dX7_removeFlake_19 : decode cX7_removeFlake 19 = .ok (.iconst 0, 1) := by decide +kernel
theorem dX7_removeFlake_20 : decode cX7_removeFlake 20 = .ok (.iastore, 1) := by decide +kernel
theorem dX7_removeFlake_21 : decode cX7_removeFlake 21 = .ok (.return_, 1) := by decide +kernel
theorem dX7_falling_0 : decode cX7_falling 0 = .ok (.iconst 0, 1) := by decide +kernel
theorem dX7_falling_1 : decode cX7_falling 1 = .ok (.istore_n 1, 1) := by decide +kernel
theorem dX7_falling_2 : decode cX7_falling 2 = .ok (.iconst 0, 1) := by decide +kernel
theorem dX7_falling_3 : decode cX7_falling 3 = .ok (.istore_n 2, 1) := by decide +kernel
theorem dX7_falling_4 : decode cX7_falling 4 = .ok (.iload_n 2, 1) := by decide +kernel
theorem dX7_falling_5 : decode cX7_falling 5 = .ok (.bipush 8, 2) := by decide +kernel
theorem dX7_falling_7 : decode cX7_falling 7 = .ok (.if_icmp .ge 24, 3) := by decide +kernel
theorem dX7_falling_10 : decode cX7_falling 10 = .ok (.aload_n 0, 1) := by decide +kernel
theorem dX7_falling_11 : decode cX7_falling 11 = .ok (.getfield 22, 3) := by decide +kernel
theorem dX7_falling_14 : decode cX7_falling 14 = .ok (.iload_n 2, 1) := by decide +kernel
theorem dX7_falling_15 : decode cX7_falling 15 = .ok (.iaload, 1) := by decide +kernel
theorem dX7_falling_16 : decode cX7_falling 16 = .ok (.ifCond .le 9, 3) := by decide +kernel
theorem dX7_falling_19 : decode cX7_falling 19 = .ok (.iload_n 1, 1) := by decide +kernel
theorem dX7_falling_20 : decode cX7_falling 20 = .ok (.iconst 1, 1) := by decide +kernel
theorem dX7_falling_21 : decode cX7_falling 21 = .ok (.iload_n 2, 1) := by decide +kernel
theorem dX7_falling_22 : decode cX7_falling 22 = .ok (.ishl, 1) := by decide +kernel
theorem dX7_falling_23 : decode cX7_falling 23 = .ok (.ior, 1) := by decide +kernel
theorem dX7_falling_24 : decode cX7_falling 24 = .ok (.istore_n 1, 1) := by decide +kernel
theorem dX7_falling_25 : decode cX7_falling 25 = .ok (.iinc 2 1, 3) := by decide +kernel
theorem dX7_falling_28 : decode cX7_falling 28 = .ok (.goto (-24), 3) := by decide +kernel
theorem dX7_falling_31 : decode cX7_falling 31 = .ok (.iload_n 1, 1) := by decide +kernel
theorem dX7_falling_32 : decode cX7_falling 32 = .ok (.ireturn, 1) := by decide +kernel
theorem dX7_inRiver_0 : decode cX7_inRiver 0 = .ok (.iconst 0, 1) := by decide +kernel
theorem dX7_inRiver_1 : decode cX7_inRiver 1 = .ok (.istore_n 1, 1) := by decide +kernel
theorem dX7_inRiver_2 : decode cX7_inRiver 2 = .ok (.iconst 0, 1) := by decide +kernel
theorem dX7_inRiver_3 : decode cX7_inRiver 3 = .ok (.istore_n 2, 1) := by decide +kernel
theorem dX7_inRiver_4 : decode cX7_inRiver 4 = .ok (.iload_n 2, 1) := by decide +kernel
theorem dX7_inRiver_5 : decode cX7_inRiver 5 = .ok (.bipush 8, 2) := by decide +kernel
theorem dX7_inRiver_7 : decode cX7_inRiver 7 = .ok (.if_icmp .ge 26, 3) := by decide +kernel
theorem dX7_inRiver_10 : decode cX7_inRiver 10 = .ok (.aload_n 0, 1) := by decide +kernel
theorem dX7_inRiver_11 : decode cX7_inRiver 11 = .ok (.getfield 19, 3) := by decide +kernel
theorem dX7_inRiver_14 : decode cX7_inRiver 14 = .ok (.iload_n 2, 1) := by decide +kernel
theorem dX7_inRiver_15 : decode cX7_inRiver 15 = .ok (.iaload, 1) := by decide +kernel
theorem dX7_inRiver_16 : decode cX7_inRiver 16 = .ok (.bipush (-6), 2) := by decide +kernel
theorem dX7_inRiver_18 : decode cX7_inRiver 18 = .ok (.if_icmp .ne 9, 3) := by decide +kernel
theorem dX7_inRiver_21 : decode cX7_inRiver 21 = .ok (.iload_n 1, 1) := by decide +kernel
theorem dX7_inRiver_22 : decode cX7_inRiver 22 = .ok (.iconst 1, 1) := by decide +kernel
theorem dX7_inRiver_23 : decode cX7_inRiver 23 = .ok (.iload_n 2, 1) := by decide +kernel
theorem dX7_inRiver_24 : decode cX7_inRiver 24 = .ok (.ishl, 1) := by decide +kernel
theorem dX7_inRiver_25 : decode cX7_inRiver 25 = .ok (.ior, 1) := by decide +kernel
theorem dX7_inRiver_26 : decode cX7_inRiver 26 = .ok (.istore_n 1, 1) := by decide +kernel
theorem dX7_inRiver_27 : decode cX7_inRiver 27 = .ok (.iinc 2 1, 3) := by decide +kernel
theorem dX7_inRiver_30 : decode cX7_inRiver 30 = .ok (.goto (-26), 3) := by decide +kernel
theorem dX7_inRiver_33 : decode cX7_inRiver 33 = .ok (.iload_n 1, 1) := by decide +kernel
theorem dX7_inRiver_34 : decode cX7_inRiver 34 = .ok (.aload_n 0, 1) := by decide +kernel
theorem dX7_inRiver_35 : decode cX7_inRiver 35 = .ok (.getfield 9, 3) := by decide +kernel
theorem dX7_inRiver_38 : decode cX7_inRiver 38 = .ok (.iand, 1) := by decide +kernel
theorem dX7_inRiver_39 : decode cX7_inRiver 39 = .ok (.ireturn, 1) := by decide +kernel
theorem dX7_down_0 : decode cX7_down 0 = .ok (.aload_n 0, 1) := by decide +kernel
theorem dX7_down_1 : decode cX7_down 1 = .ok (.getfield 9, 3) := by decide +kernel
theorem dX7_down_4 : decode cX7_down 4 = .ok (.aload_n 0, 1) := by decide +kernel
theorem dX7_down_5 : decode cX7_down 5 = .ok (.invokevirtual 66, 3) := by decide +kernel
theorem dX7_down_8 : decode cX7_down 8 = .ok (.iconst (-1), 1) := by decide +kernel
theorem dX7_down_9 : decode cX7_down 9 = .ok (.ixor, 1) := by decide +kernel
theorem dX7_down_10 : decode cX7_down 10 = .ok (.iand, 1) := by decide +kernel
theorem dX7_down_11 : decode cX7_down 11 = .ok (.aload_n 0, 1) := by decide +kernel
theorem dX7_down_12 : decode cX7_down 12 = .ok (.invokevirtual 70, 3) := by decide +kernel
theorem dX7_down_15 : decode cX7_down 15 = .ok (.iconst (-1), 1) := by decide +kernel
theorem dX7_down_16 : decode cX7_down 16 = .ok (.ixor, 1) := by decide +kernel
theorem dX7_down_17 : decode cX7_down 17 = .ok (.iand, 1) := by decide +kernel
theorem dX7_down_18 : decode cX7_down 18 = .ok (.ireturn, 1) := by decide +kernel
theorem dX7_flakesWith_0 : decode cX7_flakesWith 0 = .ok (.iconst 0, 1) := by decide +kernel
theorem dX7_flakesWith_1 : decode cX7_flakesWith 1 = .ok (.istore_n 2, 1) := by decide +kernel
theorem dX7_flakesWith_2 : decode cX7_flakesWith 2 = .ok (.iconst 0, 1) := by decide +kernel
theorem dX7_flakesWith_3 : decode cX7_flakesWith 3 = .ok (.istore_n 3, 1) := by decide +kernel
theorem dX7_flakesWith_4 : decode cX7_flakesWith 4 = .ok (.iload_n 3, 1) := by decide +kernel
theorem dX7_flakesWith_5 : decode cX7_flakesWith 5 = .ok (.bipush 8, 2) := by decide +kernel
theorem dX7_flakesWith_7 : decode cX7_flakesWith 7 = .ok (.if_icmp .ge 25, 3) := by decide +kernel
theorem dX7_flakesWith_10 : decode cX7_flakesWith 10 = .ok (.aload_n 0, 1) := by decide +kernel
theorem dX7_flakesWith_11 : decode cX7_flakesWith 11 = .ok (.getfield 28, 3) := by decide +kernel
theorem dX7_flakesWith_14 : decode cX7_flakesWith 14 = .ok (.iload_n 3, 1) := by decide +kernel
theorem dX7_flakesWith_15 : decode cX7_flakesWith 15 = .ok (.iaload, 1) := by decide +kernel
theorem dX7_flakesWith_16 : decode cX7_flakesWith 16 = .ok (.iload_n 1, 1) := by decide +kernel
theorem dX7_flakesWith_17 : decode cX7_flakesWith 17 = .ok (.if_icmp .ne 9, 3) := by decide +kernel
theorem dX7_flakesWith_20 : decode cX7_flakesWith 20 = .ok (.iload_n 2, 1) := by decide +kernel
theorem dX7_flakesWith_21 : decode cX7_flakesWith 21 = .ok (.iconst 1, 1) := by decide +kernel
theorem dX7_flakesWith_22 : decode cX7_flakesWith 22 = .ok (.iload_n 3, 1) := by decide +kernel
theorem dX7_flakesWith_23 : decode cX7_flakesWith 23 = .ok (.ishl, 1) := by decide +kernel
theorem dX7_flakesWith_24 : decode cX7_flakesWith 24 = .ok (.ior, 1) := by decide +kernel
theorem dX7_flakesWith_25 : decode cX7_flakesWith 25 = .ok (.istore_n 2, 1) := by decide +kernel
theorem dX7_flakesWith_26 : decode cX7_flakesWith 26 = .ok (.iinc 3 1, 3) := by decide +kernel
theorem dX7_flakesWith_29 : decode cX7_flakesWith 29 = .ok (.goto (-25), 3) := by decide +kernel
theorem dX7_flakesWith_32 : decode cX7_flakesWith 32 = .ok (.iload_n 2, 1) := by decide +kernel
theorem dX7_flakesWith_33 : decode cX7_flakesWith 33 = .ok (.aload_n 0, 1) := by decide +kernel
theorem dX7_flakesWith_34 : decode cX7_flakesWith 34 = .ok (.getfield 9, 3) := by decide +kernel
theorem dX7_flakesWith_37 : decode cX7_flakesWith 37 = .ok (.iand, 1) := by decide +kernel
theorem dX7_flakesWith_38 : decode cX7_flakesWith 38 = .ok (.ireturn, 1) := by decide +kernel
theorem dX7_delivered_0 : decode cX7_delivered 0 = .ok (.iconst 0, 1) := by decide +kernel
theorem dX7_delivered_1 : decode cX7_delivered 1 = .ok (.istore_n 1, 1) := by decide +kernel
theorem dX7_delivered_2 : decode cX7_delivered 2 = .ok (.iconst 0, 1) := by decide +kernel
theorem dX7_delivered_3 : decode cX7_delivered 3 = .ok (.istore_n 2, 1) := by decide +kernel
theorem dX7_delivered_4 : decode cX7_delivered 4 = .ok (.iload_n 2, 1) := by decide +kernel
theorem dX7_delivered_5 : decode cX7_delivered 5 = .ok (.bipush 8, 2) := by decide +kernel
theorem dX7_delivered_7 : decode cX7_delivered 7 = .ok (.if_icmp .ge 30, 3) := by decide +kernel
theorem dX7_delivered_10 : decode cX7_delivered 10 = .ok (.aload_n 0, 1) := by decide +kernel
theorem dX7_delivered_11 : decode cX7_delivered 11 = .ok (.getfield 28, 3) := by decide +kernel
theorem dX7_delivered_14 : decode cX7_delivered 14 = .ok (.iload_n 2, 1) := by decide +kernel
theorem dX7_delivered_15 : decode cX7_delivered 15 = .ok (.iaload, 1) := by decide +kernel
theorem dX7_delivered_16 : decode cX7_delivered 16 = .ok (.aload_n 0, 1) := by decide +kernel
theorem dX7_delivered_17 : decode cX7_delivered 17 = .ok (.getfield 25, 3) := by decide +kernel
theorem dX7_delivered_20 : decode cX7_delivered 20 = .ok (.iload_n 2, 1) := by decide +kernel
theorem dX7_delivered_21 : decode cX7_delivered 21 = .ok (.iaload, 1) := by decide +kernel
theorem dX7_delivered_22 : decode cX7_delivered 22 = .ok (.if_icmp .ne 9, 3) := by decide +kernel
theorem dX7_delivered_25 : decode cX7_delivered 25 = .ok (.iload_n 1, 1) := by decide +kernel
theorem dX7_delivered_26 : decode cX7_delivered 26 = .ok (.iconst 1, 1) := by decide +kernel
theorem dX7_delivered_27 : decode cX7_delivered 27 = .ok (.iload_n 2, 1) := by decide +kernel
theorem dX7_delivered_28 : decode cX7_delivered 28 = .ok (.ishl, 1) := by decide +kernel
theorem dX7_delivered_29 : decode cX7_delivered 29 = .ok (.ior, 1) := by decide +kernel
theorem dX7_delivered_30 : decode cX7_delivered 30 = .ok (.istore_n 1, 1) := by decide +kernel
theorem dX7_delivered_31 : decode cX7_delivered 31 = .ok (.iinc 2 1, 3) := by decide +kernel
theorem dX7_delivered_34 : decode cX7_delivered 34 = .ok (.goto (-30), 3) := by decide +kernel
theorem dX7_delivered_37 : decode cX7_delivered 37 = .ok (.iload_n 1, 1) := by decide +kernel
theorem dX7_delivered_38 : decode cX7_delivered 38 = .ok (.aload_n 0, 1) := by decide +kernel
theorem dX7_delivered_39 : decode cX7_delivered 39 = .ok (.getfield 9, 3) := by decide +kernel
theorem dX7_delivered_42 : decode cX7_delivered 42 = .ok (.iand, 1) := by decide +kernel
theorem dX7_delivered_43 : decode cX7_delivered 43 = .ok (.ireturn, 1) := by decide +kernel
theorem dX7_trodden_0 : decode cX7_trodden 0 = .ok (.iconst 0, 1) := by decide +kernel
theorem dX7_trodden_1 : decode cX7_trodden 1 = .ok (.istore_n 1, 1) := by decide +kernel
theorem dX7_trodden_2 : decode cX7_trodden 2 = .ok (.iconst 0, 1) := by decide +kernel
theorem dX7_trodden_3 : decode cX7_trodden 3 = .ok (.istore_n 2, 1) := by decide +kernel
theorem dX7_trodden_4 : decode cX7_trodden 4 = .ok (.iload_n 2, 1) := by decide +kernel
theorem dX7_trodden_5 : decode cX7_trodden 5 = .ok (.bipush 6, 2) := by decide +kernel
theorem dX7_trodden_7 : decode cX7_trodden 7 = .ok (.if_icmp .ge 20, 3) := by decide +kernel
theorem dX7_trodden_10 : decode cX7_trodden 10 = .ok (.iload_n 1, 1) := by decide +kernel
theorem dX7_trodden_11 : decode cX7_trodden 11 = .ok (.iconst 1, 1) := by decide +kernel
theorem dX7_trodden_12 : decode cX7_trodden 12 = .ok (.aload_n 0, 1) := by decide +kernel
theorem dX7_trodden_13 : decode cX7_trodden 13 = .ok (.getfield 31, 3) := by decide +kernel
theorem dX7_trodden_16 : decode cX7_trodden 16 = .ok (.iload_n 2, 1) := by decide +kernel
theorem dX7_trodden_17 : decode cX7_trodden 17 = .ok (.iaload, 1) := by decide +kernel
theorem dX7_trodden_18 : decode cX7_trodden 18 = .ok (.ishl, 1) := by decide +kernel
theorem dX7_trodden_19 : decode cX7_trodden 19 = .ok (.ior, 1) := by decide +kernel
theorem dX7_trodden_20 : decode cX7_trodden 20 = .ok (.istore_n 1, 1) := by decide +kernel
theorem dX7_trodden_21 : decode cX7_trodden 21 = .ok (.iinc 2 1, 3) := by decide +kernel
theorem dX7_trodden_24 : decode cX7_trodden 24 = .ok (.goto (-20), 3) := by decide +kernel
theorem dX7_trodden_27 : decode cX7_trodden 27 = .ok (.aload_n 0, 1) := by decide +kernel
theorem dX7_trodden_28 : decode cX7_trodden 28 = .ok (.invokevirtual 73, 3) := by decide +kernel
theorem dX7_trodden_31 : decode cX7_trodden 31 = .ok (.aload_n 0, 1) := by decide +kernel
theorem dX7_trodden_32 : decode cX7_trodden 32 = .ok (.bipush (-6), 2) := by decide +kernel
theorem dX7_trodden_34 : decode cX7_trodden 34 = .ok (.invokevirtual 76, 3) := by decide +kernel
theorem dX7_trodden_37 : decode cX7_trodden 37 = .ok (.iand, 1) := by decide +kernel
theorem dX7_trodden_38 : decode cX7_trodden 38 = .ok (.istore_n 2, 1) := by decide +kernel
theorem dX7_trodden_39 : decode cX7_trodden 39 = .ok (.iconst 0, 1) := by decide +kernel
theorem dX7_trodden_40 : decode cX7_trodden 40 = .ok (.istore_n 3, 1) := by decide +kernel
theorem dX7_trodden_41 : decode cX7_trodden 41 = .ok (.iload_n 3, 1) := by decide +kernel
theorem dX7_trodden_42 : decode cX7_trodden 42 = .ok (.bipush 8, 2) := by decide +kernel
theorem dX7_trodden_44 : decode cX7_trodden 44 = .ok (.if_icmp .ge 29, 3) := by decide +kernel
theorem dX7_trodden_47 : decode cX7_trodden 47 = .ok (.iload_n 2, 1) := by decide +kernel
theorem dX7_trodden_48 : decode cX7_trodden 48 = .ok (.iload_n 3, 1) := by decide +kernel
theorem dX7_trodden_49 : decode cX7_trodden 49 = .ok (.invokestatic 62, 3) := by decide +kernel
theorem dX7_trodden_52 : decode cX7_trodden 52 = .ok (.iconst 1, 1) := by decide +kernel
theorem dX7_trodden_53 : decode cX7_trodden 53 = .ok (.if_icmp .ne 14, 3) := by decide +kernel
theorem dX7_trodden_56 : decode cX7_trodden 56 = .ok (.iload_n 1, 1) := by decide +kernel
theorem dX7_trodden_57 : decode cX7_trodden 57 = .ok (.iconst 1, 1) := by decide +kernel
theorem dX7_trodden_58 : decode cX7_trodden 58 = .ok (.aload_n 0, 1) := by decide +kernel
theorem dX7_trodden_59 : decode cX7_trodden 59 = .ok (.getfield 19, 3) := by decide +kernel
theorem dX7_trodden_62 : decode cX7_trodden 62 = .ok (.iload_n 3, 1) := by decide +kernel
theorem dX7_trodden_63 : decode cX7_trodden 63 = .ok (.iaload, 1) := by decide +kernel
theorem dX7_trodden_64 : decode cX7_trodden 64 = .ok (.ishl, 1) := by decide +kernel
theorem dX7_trodden_65 : decode cX7_trodden 65 = .ok (.ior, 1) := by decide +kernel
theorem dX7_trodden_66 : decode cX7_trodden 66 = .ok (.istore_n 1, 1) := by decide +kernel
theorem dX7_trodden_67 : decode cX7_trodden 67 = .ok (.iinc 3 1, 3) := by decide +kernel
theorem dX7_trodden_70 : decode cX7_trodden 70 = .ok (.goto (-29), 3) := by decide +kernel
theorem dX7_trodden_73 : decode cX7_trodden 73 = .ok (.iload_n 1, 1) := by decide +kernel
theorem dX7_trodden_74 : decode cX7_trodden 74 = .ok (.ireturn, 1) := by decide +kernel
theorem dX7_whyNot_0 : decode cX7_whyNot 0 = .ok (.iload_n 1, 1) := by decide +kernel
theorem dX7_whyNot_1 : decode cX7_whyNot 1 = .ok (.tableswitch 61 5 7 #[27, 42, 59], 27) := by decide +kernel
theorem dX7_whyNot_28 : decode cX7_whyNot 28 = .ok (.aload_n 0, 1) := by decide +kernel
theorem dX7_whyNot_29 : decode cX7_whyNot 29 = .ok (.getfield 31, 3) := by decide +kernel
theorem dX7_whyNot_32 : decode cX7_whyNot 32 = .ok (.iload_n 2, 1) := by decide +kernel
theorem dX7_whyNot_33 : decode cX7_whyNot 33 = .ok (.iaload, 1) := by decide +kernel
theorem dX7_whyNot_34 : decode cX7_whyNot 34 = .ok (.ifCond .ne 7, 3) := by decide +kernel
theorem dX7_whyNot_37 : decode cX7_whyNot 37 = .ok (.iconst 1, 1) := by decide +kernel
theorem dX7_whyNot_38 : decode cX7_whyNot 38 = .ok (.goto 4, 3) := by decide +kernel
theorem dX7_whyNot_41 : decode cX7_whyNot 41 = .ok (.iconst 0, 1) := by decide +kernel
theorem dX7_whyNot_42 : decode cX7_whyNot 42 = .ok (.ireturn, 1) := by decide +kernel
theorem dX7_whyNot_43 : decode cX7_whyNot 43 = .ok (.aload_n 0, 1) := by decide +kernel
theorem dX7_whyNot_44 : decode cX7_whyNot 44 = .ok (.getfield 31, 3) := by decide +kernel
theorem dX7_whyNot_47 : decode cX7_whyNot 47 = .ok (.iload_n 2, 1) := by decide +kernel
theorem dX7_whyNot_48 : decode cX7_whyNot 48 = .ok (.iaload, 1) := by decide +kernel
theorem dX7_whyNot_49 : decode cX7_whyNot 49 = .ok (.bipush 15, 2) := by decide +kernel
theorem dX7_whyNot_51 : decode cX7_whyNot 51 = .ok (.if_icmp .ne 7, 3) := by decide +kernel
theorem dX7_whyNot_54 : decode cX7_whyNot 54 = .ok (.iconst 1, 1) := by decide +kernel
theorem dX7_whyNot_55 : decode cX7_whyNot 55 = .ok (.goto 4, 3) := by decide +kernel
theorem dX7_whyNot_58 : decode cX7_whyNot 58 = .ok (.iconst 0, 1) := by decide +kernel
theorem dX7_whyNot_59 : decode cX7_whyNot 59 = .ok (.ireturn, 1) := by decide +kernel
theorem dX7_whyNot_60 : decode cX7_whyNot 60 = .ok (.iconst 0, 1) := by decide +kernel
theorem dX7_whyNot_61 : decode cX7_whyNot 61 = .ok (.ireturn, 1) := by decide +kernel
theorem dX7_whyNot_62 : decode cX7_whyNot 62 = .ok (.aload_n 0, 1) := by decide +kernel
theorem dX7_whyNot_63 : decode cX7_whyNot 63 = .ok (.invokevirtual 66, 3) := by decide +kernel
theorem dX7_whyNot_66 : decode cX7_whyNot 66 = .ok (.ifCond .ne 7, 3) := by decide +kernel
theorem dX7_whyNot_69 : decode cX7_whyNot 69 = .ok (.iconst 2, 1) := by decide +kernel
theorem dX7_whyNot_70 : decode cX7_whyNot 70 = .ok (.goto 4, 3) := by decide +kernel
theorem dX7_whyNot_73 : decode cX7_whyNot 73 = .ok (.iconst 0, 1) := by decide +kernel
theorem dX7_whyNot_74 : decode cX7_whyNot 74 = .ok (.ireturn, 1) := by decide +kernel
theorem dX7_carryOut_0 : decode cX7_carryOut 0 = .ok (.iload_n 1, 1) := by decide +kernel
theorem dX7_carryOut_1 : decode cX7_carryOut 1 = .ok (.tableswitch 126 0 7 #[88, 99, 110, 118, 126, 47, 60, 73], 47) := by decide +kernel
theorem dX7_carryOut_48 : decode cX7_carryOut 48 = .ok (.aload_n 0, 1) := by decide +kernel
theorem dX7_carryOut_49 : decode cX7_carryOut 49 = .ok (.getfield 31, 3) := by decide +kernel
theorem dX7_carryOut_52 : decode cX7_carryOut 52 = .ok (.iload_n 2, 1) := by decide +kernel
theorem dX7_carryOut_53 : decode cX7_carryOut 53 = .ok (.dup2, 1) := by decide +kernel
theorem dX7_carryOut_54 : decode cX7_carryOut 54 = .ok (.iaload, 1) := by decide +kernel
theorem dX7_carryOut_55 : decode cX7_carryOut 55 = .ok (.iconst 1, 1) := by decide +kernel
theorem dX7_carryOut_56 : decode cX7_carryOut 56 = .ok (.isub, 1) := by decide +kernel
theorem dX7_carryOut_57 : decode cX7_carryOut 57 = .ok (.iastore, 1) := by decide +kernel
theorem dX7_carryOut_58 : decode cX7_carryOut 58 = .ok (.goto 73, 3) := by decide +kernel
theorem dX7_carryOut_61 : decode cX7_carryOut 61 = .ok (.aload_n 0, 1) := by decide +kernel
theorem dX7_carryOut_62 : decode cX7_carryOut 62 = .ok (.getfield 31, 3) := by decide +kernel
theorem dX7_carryOut_65 : decode cX7_carryOut 65 = .ok (.iload_n 2, 1) := by decide +kernel
theorem dX7_carryOut_66 : decode cX7_carryOut 66 = .ok (.dup2, 1) := by decide +kernel
theorem dX7_carryOut_67 : decode cX7_carryOut 67 = .ok (.iaload, 1) := by decide +kernel
theorem dX7_carryOut_68 : decode cX7_carryOut 68 = .ok (.iconst 1, 1) := by decide +kernel
theorem dX7_carryOut_69 : decode cX7_carryOut 69 = .ok (.iadd, 1) := by decide +kernel
theorem dX7_carryOut_70 : decode cX7_carryOut 70 = .ok (.iastore, 1) := by decide +kernel
theorem dX7_carryOut_71 : decode cX7_carryOut 71 = .ok (.goto 60, 3) := by decide +kernel
theorem dX7_carryOut_74 : decode cX7_carryOut 74 = .ok (.aload_n 0, 1) := by decide +kernel
theorem dX7_carryOut_75 : decode cX7_carryOut 75 = .ok (.dup, 1) := by decide +kernel
theorem dX7_carryOut_76 : decode cX7_carryOut 76 = .ok (.getfield 34, 3) := by decide +kernel
theorem dX7_carryOut_79 : decode cX7_carryOut 79 = .ok (.iconst 1, 1) := by decide +kernel
theorem dX7_carryOut_80 : decode cX7_carryOut 80 = .ok (.iload_n 2, 1) := by decide +kernel
theorem dX7_carryOut_81 : decode cX7_carryOut 81 = .ok (.ishl, 1) := by decide +kernel
theorem dX7_carryOut_82 : decode cX7_carryOut 82 = .ok (.ixor, 1) := by decide +kernel
theorem dX7_carryOut_83 : decode cX7_carryOut 83 = .ok (.putfield 34, 3) := by decide +kernel
theorem dX7_carryOut_86 : decode cX7_carryOut 86 = .ok (.goto 45, 3) := by decide +kernel
theorem dX7_carryOut_89 : decode cX7_carryOut 89 = .ok (.aload_n 0, 1) := by decide +kernel
theorem dX7_carryOut_90 : decode cX7_carryOut 90 = .ok (.aload_n 0, 1) := by decide +kernel
theorem dX7_carryOut_91 : decode cX7_carryOut 91 = .ok (.getfield 37, 3) := by decide +kernel
theorem dX7_carryOut_94 : decode cX7_carryOut 94 = .ok (.invokevirtual 80, 3) := by decide +kernel
theorem dX7_carryOut_97 : decode cX7_carryOut 97 = .ok (.goto 34, 3) := by decide +kernel
theorem dX7_carryOut_100 : decode cX7_carryOut 100 = .ok (.aload_n 0, 1) := by decide +kernel
theorem dX7_carryOut_101 : decode cX7_carryOut 101 = .ok (.aload_n 0, 1) := by decide +kernel
theorem dX7_carryOut_102 : decode cX7_carryOut 102 = .ok (.getfield 40, 3) := by decide +kernel
theorem dX7_carryOut_105 : decode cX7_carryOut 105 = .ok (.invokevirtual 80, 3) := by decide +kernel
theorem dX7_carryOut_108 : decode cX7_carryOut 108 = .ok (.goto 23, 3) := by decide +kernel
theorem dX7_carryOut_111 : decode cX7_carryOut 111 = .ok (.aload_n 0, 1) := by decide +kernel
theorem dX7_carryOut_112 : decode cX7_carryOut 112 = .ok (.iconst (-1), 1) := by decide +kernel
theorem dX7_carryOut_113 : decode cX7_carryOut 113 = .ok (.invokevirtual 84, 3) := by decide +kernel
theorem dX7_carryOut_116 : decode cX7_carryOut 116 = .ok (.goto 15, 3) := by decide +kernel
theorem dX7_carryOut_119 : decode cX7_carryOut 119 = .ok (.aload_n 0, 1) := by decide +kernel
theorem dX7_carryOut_120 : decode cX7_carryOut 120 = .ok (.iconst 1, 1) := by decide +kernel
theorem dX7_carryOut_121 : decode cX7_carryOut 121 = .ok (.invokevirtual 84, 3) := by decide +kernel
theorem dX7_carryOut_124 : decode cX7_carryOut 124 = .ok (.goto 7, 3) := by decide +kernel
theorem dX7_carryOut_127 : decode cX7_carryOut 127 = .ok (.aload_n 0, 1) := by decide +kernel
theorem dX7_carryOut_128 : decode cX7_carryOut 128 = .ok (.invokevirtual 87, 3) := by decide +kernel
theorem dX7_carryOut_131 : decode cX7_carryOut 131 = .ok (.return_, 1) := by decide +kernel
theorem dX7_growAll_0 : decode cX7_growAll 0 = .ok (.iconst 0, 1) := by decide +kernel
theorem dX7_growAll_1 : decode cX7_growAll 1 = .ok (.istore_n 2, 1) := by decide +kernel
theorem dX7_growAll_2 : decode cX7_growAll 2 = .ok (.iload_n 2, 1) := by decide +kernel
theorem dX7_growAll_3 : decode cX7_growAll 3 = .ok (.bipush 8, 2) := by decide +kernel
theorem dX7_growAll_5 : decode cX7_growAll 5 = .ok (.if_icmp .ge 34, 3) := by decide +kernel
theorem dX7_growAll_8 : decode cX7_growAll 8 = .ok (.aload_n 0, 1) := by decide +kernel
theorem dX7_growAll_9 : decode cX7_growAll 9 = .ok (.getfield 22, 3) := by decide +kernel
theorem dX7_growAll_12 : decode cX7_growAll 12 = .ok (.iload_n 2, 1) := by decide +kernel
theorem dX7_growAll_13 : decode cX7_growAll 13 = .ok (.iaload, 1) := by decide +kernel
theorem dX7_growAll_14 : decode cX7_growAll 14 = .ok (.ifCond .le 19, 3) := by decide +kernel
theorem dX7_growAll_17 : decode cX7_growAll 17 = .ok (.aload_n 0, 1) := by decide +kernel
theorem dX7_growAll_18 : decode cX7_growAll 18 = .ok (.getfield 15, 3) := by decide +kernel
theorem dX7_growAll_21 : decode cX7_growAll 21 = .ok (.iload_n 2, 1) := by decide +kernel
theorem dX7_growAll_22 : decode cX7_growAll 22 = .ok (.aload_n 0, 1) := by decide +kernel
theorem dX7_growAll_23 : decode cX7_growAll 23 = .ok (.getfield 15, 3) := by decide +kernel
theorem dX7_growAll_26 : decode cX7_growAll 26 = .ok (.iload_n 2, 1) := by decide +kernel
theorem dX7_growAll_27 : decode cX7_growAll 27 = .ok (.iaload, 1) := by decide +kernel
theorem dX7_growAll_28 : decode cX7_growAll 28 = .ok (.iload_n 1, 1) := by decide +kernel
theorem dX7_growAll_29 : decode cX7_growAll 29 = .ok (.invokestatic 90, 3) := by decide +kernel
theorem dX7_growAll_32 : decode cX7_growAll 32 = .ok (.iastore, 1) := by decide +kernel
theorem dX7_growAll_33 : decode cX7_growAll 33 = .ok (.iinc 2 1, 3) := by decide +kernel
theorem dX7_growAll_36 : decode cX7_growAll 36 = .ok (.goto (-34), 3) := by decide +kernel
theorem dX7_growAll_39 : decode cX7_growAll 39 = .ok (.return_, 1) := by decide +kernel
theorem dX7_blowAll_0 : decode cX7_blowAll 0 = .ok (.iconst 0, 1) := by decide +kernel
theorem dX7_blowAll_1 : decode cX7_blowAll 1 = .ok (.istore_n 2, 1) := by decide +kernel
theorem dX7_blowAll_2 : decode cX7_blowAll 2 = .ok (.iload_n 2, 1) := by decide +kernel
theorem dX7_blowAll_3 : decode cX7_blowAll 3 = .ok (.bipush 8, 2) := by decide +kernel
theorem dX7_blowAll_5 : decode cX7_blowAll 5 = .ok (.if_icmp .ge 31, 3) := by decide +kernel
theorem dX7_blowAll_8 : decode cX7_blowAll 8 = .ok (.aload_n 0, 1) := by decide +kernel
theorem dX7_blowAll_9 : decode cX7_blowAll 9 = .ok (.getfield 22, 3) := by decide +kernel
theorem dX7_blowAll_12 : decode cX7_blowAll 12 = .ok (.iload_n 2, 1) := by decide +kernel
theorem dX7_blowAll_13 : decode cX7_blowAll 13 = .ok (.iaload, 1) := by decide +kernel
theorem dX7_blowAll_14 : decode cX7_blowAll 14 = .ok (.ifCond .le 16, 3) := by decide +kernel
theorem dX7_blowAll_17 : decode cX7_blowAll 17 = .ok (.aload_n 0, 1) := by decide +kernel
theorem dX7_blowAll_18 : decode cX7_blowAll 18 = .ok (.iload_n 2, 1) := by decide +kernel
theorem dX7_blowAll_19 : decode cX7_blowAll 19 = .ok (.aload_n 0, 1) := by decide +kernel
theorem dX7_blowAll_20 : decode cX7_blowAll 20 = .ok (.getfield 19, 3) := by decide +kernel
theorem dX7_blowAll_23 : decode cX7_blowAll 23 = .ok (.iload_n 2, 1) := by decide +kernel
theorem dX7_blowAll_24 : decode cX7_blowAll 24 = .ok (.iaload, 1) := by decide +kernel
theorem dX7_blowAll_25 : decode cX7_blowAll 25 = .ok (.iload_n 1, 1) := by decide +kernel
theorem dX7_blowAll_26 : decode cX7_blowAll 26 = .ok (.iadd, 1) := by decide +kernel
theorem dX7_blowAll_27 : decode cX7_blowAll 27 = .ok (.invokevirtual 95, 3) := by decide +kernel
theorem dX7_blowAll_30 : decode cX7_blowAll 30 = .ok (.iinc 2 1, 3) := by decide +kernel
theorem dX7_blowAll_33 : decode cX7_blowAll 33 = .ok (.goto (-31), 3) := by decide +kernel
theorem dX7_blowAll_36 : decode cX7_blowAll 36 = .ok (.return_, 1) := by decide +kernel
theorem dX7_blow_0 : decode cX7_blow 0 = .ok (.iload_n 2, 1) := by decide +kernel
theorem dX7_blow_1 : decode cX7_blow 1 = .ok (.bipush 16, 2) := by decide +kernel
theorem dX7_blow_3 : decode cX7_blow 3 = .ok (.invokestatic 58, 3) := by decide +kernel
theorem dX7_blow_6 : decode cX7_blow 6 = .ok (.ifCond .eq 13, 3) := by decide +kernel
theorem dX7_blow_9 : decode cX7_blow 9 = .ok (.aload_n 0, 1) := by decide +kernel
theorem dX7_blow_10 : decode cX7_blow 10 = .ok (.getfield 19, 3) := by decide +kernel
theorem dX7_blow_13 : decode cX7_blow 13 = .ok (.iload_n 1, 1) := by decide +kernel
theorem dX7_blow_14 : decode cX7_blow 14 = .ok (.iload_n 2, 1) := by decide +kernel
theorem dX7_blow_15 : decode cX7_blow 15 = .ok (.iastore, 1) := by decide +kernel
theorem dX7_blow_16 : decode cX7_blow 16 = .ok (.goto 18, 3) := by decide +kernel
theorem dX7_blow_19 : decode cX7_blow 19 = .ok (.aload_n 0, 1) := by decide +kernel
theorem dX7_blow_20 : decode cX7_blow 20 = .ok (.getfield 19, 3) := by decide +kernel
theorem dX7_blow_23 : decode cX7_blow 23 = .ok (.iload_n 1, 1) := by decide +kernel
theorem dX7_blow_24 : decode cX7_blow 24 = .ok (.bipush (-6), 2) := by decide +kernel
theorem dX7_blow_26 : decode cX7_blow 26 = .ok (.iastore, 1) := by decide +kernel
theorem dX7_blow_27 : decode cX7_blow 27 = .ok (.aload_n 0, 1) := by decide +kernel
theorem dX7_blow_28 : decode cX7_blow 28 = .ok (.getfield 22, 3) := by decide +kernel
theorem dX7_blow_31 : decode cX7_blow 31 = .ok (.iload_n 1, 1) := by decide +kernel
theorem dX7_blow_32 : decode cX7_blow 32 = .ok (.iconst 0, 1) := by decide +kernel
theorem dX7_blow_33 : decode cX7_blow 33 = .ok (.iastore, 1) := by decide +kernel
theorem dX7_blow_34 : decode cX7_blow 34 = .ok (.return_, 1) := by decide +kernel
theorem dX7_lowerAll_0 : decode cX7_lowerAll 0 = .ok (.iconst 0, 1) := by decide +kernel
theorem dX7_lowerAll_1 : decode cX7_lowerAll 1 = .ok (.istore_n 1, 1) := by decide +kernel
theorem dX7_lowerAll_2 : decode cX7_lowerAll 2 = .ok (.iload_n 1, 1) := by decide +kernel
theorem dX7_lowerAll_3 : decode cX7_lowerAll 3 = .ok (.bipush 8, 2) := by decide +kernel
theorem dX7_lowerAll_5 : decode cX7_lowerAll 5 = .ok (.if_icmp .ge 58, 3) := by decide +kernel
theorem dX7_lowerAll_8 : decode cX7_lowerAll 8 = .ok (.aload_n 0, 1) := by decide +kernel
theorem dX7_lowerAll_9 : decode cX7_lowerAll 9 = .ok (.getfield 22, 3) := by decide +kernel
theorem dX7_lowerAll_12 : decode cX7_lowerAll 12 = .ok (.iload_n 1, 1) := by decide +kernel
theorem dX7_lowerAll_13 : decode cX7_lowerAll 13 = .ok (.iaload, 1) := by decide +kernel
theorem dX7_lowerAll_14 : decode cX7_lowerAll 14 = .ok (.ifCond .le 43, 3) := by decide +kernel
theorem dX7_lowerAll_17 : decode cX7_lowerAll 17 = .ok (.aload_n 0, 1) := by decide +kernel
theorem dX7_lowerAll_18 : decode cX7_lowerAll 18 = .ok (.getfield 22, 3) := by decide +kernel
theorem dX7_lowerAll_21 : decode cX7_lowerAll 21 = .ok (.iload_n 1, 1) := by decide +kernel
theorem dX7_lowerAll_22 : decode cX7_lowerAll 22 = .ok (.dup2, 1) := by decide +kernel
theorem dX7_lowerAll_23 : decode cX7_lowerAll 23 = .ok (.iaload, 1) := by decide +kernel
theorem dX7_lowerAll_24 : decode cX7_lowerAll 24 = .ok (.iconst 1, 1) := by decide +kernel
theorem dX7_lowerAll_25 : decode cX7_lowerAll 25 = .ok (.isub, 1) := by decide +kernel
theorem dX7_lowerAll_26 : decode cX7_lowerAll 26 = .ok (.iastore, 1) := by decide +kernel
theorem dX7_lowerAll_27 : decode cX7_lowerAll 27 = .ok (.aload_n 0, 1) := by decide +kernel
theorem dX7_lowerAll_28 : decode cX7_lowerAll 28 = .ok (.getfield 28, 3) := by decide +kernel
theorem dX7_lowerAll_31 : decode cX7_lowerAll 31 = .ok (.iload_n 1, 1) := by decide +kernel
theorem dX7_lowerAll_32 : decode cX7_lowerAll 32 = .ok (.aload_n 0, 1) := by decide +kernel
theorem dX7_lowerAll_33 : decode cX7_lowerAll 33 = .ok (.getfield 22, 3) := by decide +kernel
theorem dX7_lowerAll_36 : decode cX7_lowerAll 36 = .ok (.iload_n 1, 1) := by decide +kernel
theorem dX7_lowerAll_37 : decode cX7_lowerAll 37 = .ok (.iaload, 1) := by decide +kernel
theorem dX7_lowerAll_38 : decode cX7_lowerAll 38 = .ok (.ifCond .ne 16, 3) := by decide +kernel
theorem dX7_lowerAll_41 : decode cX7_lowerAll 41 = .ok (.aload_n 0, 1) := by decide +kernel
theorem dX7_lowerAll_42 : decode cX7_lowerAll 42 = .ok (.aload_n 0, 1) := by decide +kernel
theorem dX7_lowerAll_43 : decode cX7_lowerAll 43 = .ok (.getfield 19, 3) := by decide +kernel
theorem dX7_lowerAll_46 : decode cX7_lowerAll 46 = .ok (.iload_n 1, 1) := by decide +kernel
theorem dX7_lowerAll_47 : decode cX7_lowerAll 47 = .ok (.iaload, 1) := by decide +kernel
theorem dX7_lowerAll_48 : decode cX7_lowerAll 48 = .ok (.invokevirtual 99, 3) := by decide +kernel
theorem dX7_lowerAll_51 : decode cX7_lowerAll 51 = .ok (.goto 5, 3) := by decide +kernel
theorem dX7_lowerAll_54 : decode cX7_lowerAll 54 = .ok (.bipush (-6), 2) := by decide +kernel
theorem dX7_lowerAll_56 : decode cX7_lowerAll 56 = .ok (.iastore, 1) := by decide +kernel
theorem dX7_lowerAll_57 : decode cX7_lowerAll 57 = .ok (.iinc 1 1, 3) := by decide +kernel
theorem dX7_lowerAll_60 : decode cX7_lowerAll 60 = .ok (.goto (-58), 3) := by decide +kernel
theorem dX7_lowerAll_63 : decode cX7_lowerAll 63 = .ok (.return_, 1) := by decide +kernel
theorem dX7_catcherAt_0 : decode cX7_catcherAt 0 = .ok (.iconst 0, 1) := by decide +kernel
theorem dX7_catcherAt_1 : decode cX7_catcherAt 1 = .ok (.istore_n 2, 1) := by decide +kernel
theorem dX7_catcherAt_2 : decode cX7_catcherAt 2 = .ok (.iload_n 2, 1) := by decide +kernel
theorem dX7_catcherAt_3 : decode cX7_catcherAt 3 = .ok (.bipush 6, 2) := by decide +kernel
theorem dX7_catcherAt_5 : decode cX7_catcherAt 5 = .ok (.if_icmp .ge 32, 3) := by decide +kernel
theorem dX7_catcherAt_8 : decode cX7_catcherAt 8 = .ok (.aload_n 0, 1) := by decide +kernel
theorem dX7_catcherAt_9 : decode cX7_catcherAt 9 = .ok (.getfield 31, 3) := by decide +kernel
theorem dX7_catcherAt_12 : decode cX7_catcherAt 12 = .ok (.iload_n 2, 1) := by decide +kernel
theorem dX7_catcherAt_13 : decode cX7_catcherAt 13 = .ok (.iaload, 1) := by decide +kernel
theorem dX7_catcherAt_14 : decode cX7_catcherAt 14 = .ok (.iload_n 1, 1) := by decide +kernel
theorem dX7_catcherAt_15 : decode cX7_catcherAt 15 = .ok (.if_icmp .ne 16, 3) := by decide +kernel
theorem dX7_catcherAt_18 : decode cX7_catcherAt 18 = .ok (.aload_n 0, 1) := by decide +kernel
theorem dX7_catcherAt_19 : decode cX7_catcherAt 19 = .ok (.getfield 34, 3) := by decide +kernel
theorem dX7_catcherAt_22 : decode cX7_catcherAt 22 = .ok (.iload_n 2, 1) := by decide +kernel
theorem dX7_catcherAt_23 : decode cX7_catcherAt 23 = .ok (.invokestatic 62, 3) := by decide +kernel
theorem dX7_catcherAt_26 : decode cX7_catcherAt 26 = .ok (.ifCond .ne 5, 3) := by decide +kernel
theorem dX7_catcherAt_29 : decode cX7_catcherAt 29 = .ok (.iload_n 2, 1) := by decide +kernel
theorem dX7_catcherAt_30 : decode cX7_catcherAt 30 = .ok (.ireturn, 1) := by decide +kernel
theorem dX7_catcherAt_31 : decode cX7_catcherAt 31 = .ok (.iinc 2 1, 3) := by decide +kernel
theorem dX7_catcherAt_34 : decode cX7_catcherAt 34 = .ok (.goto (-32), 3) := by decide +kernel
theorem dX7_catcherAt_37 : decode cX7_catcherAt 37 = .ok (.bipush (-6), 2) := by decide +kernel
theorem dX7_catcherAt_39 : decode cX7_catcherAt 39 = .ok (.ireturn, 1) := by decide +kernel
theorem dX7_addSight_0 : decode cX7_addSight 0 = .ok (.iconst 0, 1) := by decide +kernel
theorem dX7_addSight_1 : decode cX7_addSight 1 = .ok (.istore_n 3, 1) := by decide +kernel
theorem dX7_addSight_2 : decode cX7_addSight 2 = .ok (.iload_n 3, 1) := by decide +kernel
theorem dX7_addSight_3 : decode cX7_addSight 3 = .ok (.bipush 8, 2) := by decide +kernel
theorem dX7_addSight_5 : decode cX7_addSight 5 = .ok (.if_icmp .ge 52, 3) := by decide +kernel
theorem dX7_addSight_8 : decode cX7_addSight 8 = .ok (.iconst 1, 1) := by decide +kernel
theorem dX7_addSight_9 : decode cX7_addSight 9 = .ok (.iload_n 1, 1) := by decide +kernel
theorem dX7_addSight_10 : decode cX7_addSight 10 = .ok (.iload_n 3, 1) := by decide +kernel
theorem dX7_addSight_11 : decode cX7_addSight 11 = .ok (.invokestatic 102, 3) := by decide +kernel
theorem dX7_addSight_14 : decode cX7_addSight 14 = .ok (.ishl, 1) := by decide +kernel
theorem dX7_addSight_15 : decode cX7_addSight 15 = .ok (.istore 4, 2) := by decide +kernel
theorem dX7_addSight_17 : decode cX7_addSight 17 = .ok (.iload_n 2, 1) := by decide +kernel
theorem dX7_addSight_18 : decode cX7_addSight 18 = .ok (.iload_n 3, 1) := by decide +kernel
theorem dX7_addSight_19 : decode cX7_addSight 19 = .ok (.invokestatic 62, 3) := by decide +kernel
theorem dX7_addSight_22 : decode cX7_addSight 22 = .ok (.iconst 1, 1) := by decide +kernel
theorem dX7_addSight_23 : decode cX7_addSight 23 = .ok (.if_icmp .ne 17, 3) := by decide +kernel
theorem dX7_addSight_26 : decode cX7_addSight 26 = .ok (.aload_n 0, 1) := by decide +kernel
theorem dX7_addSight_27 : decode cX7_addSight 27 = .ok (.dup, 1) := by decide +kernel
theorem dX7_addSight_28 : decode cX7_addSight 28 = .ok (.getfield 46, 3) := by decide +kernel
theorem dX7_addSight_31 : decode cX7_addSight 31 = .ok (.iload 4, 2) := by decide +kernel
theorem dX7_addSight_33 : decode cX7_addSight 33 = .ok (.ior, 1) := by decide +kernel
theorem dX7_addSight_34 : decode cX7_addSight 34 = .ok (.putfield 46, 3) := by decide +kernel
theorem dX7_addSight_37 : decode cX7_addSight 37 = .ok (.goto 14, 3) := by decide +kernel
theorem dX7_addSight_40 : decode cX7_addSight 40 = .ok (.aload_n 0, 1) := by decide +kernel
theorem dX7_addSight_41 : decode cX7_addSight 41 = .ok (.dup, 1) := by decide +kernel
theorem dX7_addSight_42 : decode cX7_addSight 42 = .ok (.getfield 49, 3) := by decide +kernel
theorem dX7_addSight_45 : decode cX7_addSight 45 = .ok (.iload 4, 2) := by decide +kernel
theorem dX7_addSight_47 : decode cX7_addSight 47 = .ok (.ior, 1) := by decide +kernel
theorem dX7_addSight_48 : decode cX7_addSight 48 = .ok (.putfield 49, 3) := by decide +kernel
theorem dX7_addSight_51 : decode cX7_addSight 51 = .ok (.iinc 3 1, 3) := by decide +kernel
theorem dX7_addSight_54 : decode cX7_addSight 54 = .ok (.goto (-52), 3) := by decide +kernel
theorem dX7_addSight_57 : decode cX7_addSight 57 = .ok (.aload_n 0, 1) := by decide +kernel
theorem dX7_addSight_58 : decode cX7_addSight 58 = .ok (.dup, 1) := by decide +kernel
theorem dX7_addSight_59 : decode cX7_addSight 59 = .ok (.getfield 43, 3) := by decide +kernel
theorem dX7_addSight_62 : decode cX7_addSight 62 = .ok (.iconst 1, 1) := by decide +kernel
theorem dX7_addSight_63 : decode cX7_addSight 63 = .ok (.iadd, 1) := by decide +kernel
theorem dX7_addSight_64 : decode cX7_addSight 64 = .ok (.putfield 43, 3) := by decide +kernel
theorem dX7_addSight_67 : decode cX7_addSight 67 = .ok (.return_, 1) := by decide +kernel
theorem dX7_fits_0 : decode cX7_fits 0 = .ok (.iload_n 1, 1) := by decide +kernel
theorem dX7_fits_1 : decode cX7_fits 1 = .ok (.aload_n 0, 1) := by decide +kernel
theorem dX7_fits_2 : decode cX7_fits 2 = .ok (.getfield 46, 3) := by decide +kernel
theorem dX7_fits_5 : decode cX7_fits 5 = .ok (.iand, 1) := by decide +kernel
theorem dX7_fits_6 : decode cX7_fits 6 = .ok (.aload_n 0, 1) := by decide +kernel
theorem dX7_fits_7 : decode cX7_fits 7 = .ok (.getfield 46, 3) := by decide +kernel
theorem dX7_fits_10 : decode cX7_fits 10 = .ok (.if_icmp .ne 16, 3) := by decide +kernel
theorem dX7_fits_13 : decode cX7_fits 13 = .ok (.iload_n 1, 1) := by decide +kernel
theorem dX7_fits_14 : decode cX7_fits 14 = .ok (.aload_n 0, 1) := by decide +kernel
theorem dX7_fits_15 : decode cX7_fits 15 = .ok (.getfield 49, 3) := by decide +kernel
theorem dX7_fits_18 : decode cX7_fits 18 = .ok (.iand, 1) := by decide +kernel
theorem dX7_fits_19 : decode cX7_fits 19 = .ok (.ifCond .ne 7, 3) := by decide +kernel
theorem dX7_fits_22 : decode cX7_fits 22 = .ok (.iconst 1, 1) := by decide +kernel
theorem dX7_fits_23 : decode cX7_fits 23 = .ok (.goto 4, 3) := by decide +kernel
theorem dX7_fits_26 : decode cX7_fits 26 = .ok (.iconst 0, 1) := by decide +kernel
theorem dX7_fits_27 : decode cX7_fits 27 = .ok (.ireturn, 1) := by decide +kernel
theorem dX7_lawsLeftBy_0 : decode cX7_lawsLeftBy 0 = .ok (.aload_n 0, 1) := by decide +kernel
theorem dX7_lawsLeftBy_1 : decode cX7_lawsLeftBy 1 = .ok (.getfield 46, 3) := by decide +kernel
theorem dX7_lawsLeftBy_4 : decode cX7_lawsLeftBy 4 = .ok (.aload_n 0, 1) := by decide +kernel
theorem dX7_lawsLeftBy_5 : decode cX7_lawsLeftBy 5 = .ok (.getfield 49, 3) := by decide +kernel
theorem dX7_lawsLeftBy_8 : decode cX7_lawsLeftBy 8 = .ok (.ior, 1) := by decide +kernel
theorem dX7_lawsLeftBy_9 : decode cX7_lawsLeftBy 9 = .ok (.istore_n 2, 1) := by decide +kernel
theorem dX7_lawsLeftBy_10 : decode cX7_lawsLeftBy 10 = .ok (.iconst 0, 1) := by decide +kernel
theorem dX7_lawsLeftBy_11 : decode cX7_lawsLeftBy 11 = .ok (.istore_n 3, 1) := by decide +kernel
theorem dX7_lawsLeftBy_12 : decode cX7_lawsLeftBy 12 = .ok (.iload_n 3, 1) := by decide +kernel
theorem dX7_lawsLeftBy_13 : decode cX7_lawsLeftBy 13 = .ok (.bipush 8, 2) := by decide +kernel
theorem dX7_lawsLeftBy_15 : decode cX7_lawsLeftBy 15 = .ok (.if_icmp .ge 19, 3) := by decide +kernel
theorem dX7_lawsLeftBy_18 : decode cX7_lawsLeftBy 18 = .ok (.iload_n 2, 1) := by decide +kernel
theorem dX7_lawsLeftBy_19 : decode cX7_lawsLeftBy 19 = .ok (.iconst 1, 1) := by decide +kernel
theorem dX7_lawsLeftBy_20 : decode cX7_lawsLeftBy 20 = .ok (.iload_n 1, 1) := by decide +kernel
theorem dX7_lawsLeftBy_21 : decode cX7_lawsLeftBy 21 = .ok (.iload_n 3, 1) := by decide +kernel
theorem dX7_lawsLeftBy_22 : decode cX7_lawsLeftBy 22 = .ok (.invokestatic 102, 3) := by decide +kernel
theorem dX7_lawsLeftBy_25 : decode cX7_lawsLeftBy 25 = .ok (.ishl, 1) := by decide +kernel
theorem dX7_lawsLeftBy_26 : decode cX7_lawsLeftBy 26 = .ok (.ior, 1) := by decide +kernel
theorem dX7_lawsLeftBy_27 : decode cX7_lawsLeftBy 27 = .ok (.istore_n 2, 1) := by decide +kernel
theorem dX7_lawsLeftBy_28 : decode cX7_lawsLeftBy 28 = .ok (.iinc 3 1, 3) := by decide +kernel
theorem dX7_lawsLeftBy_31 : decode cX7_lawsLeftBy 31 = .ok (.goto (-19), 3) := by decide +kernel
theorem dX7_lawsLeftBy_34 : decode cX7_lawsLeftBy 34 = .ok (.iconst 1, 1) := by decide +kernel
theorem dX7_lawsLeftBy_35 : decode cX7_lawsLeftBy 35 = .ok (.bipush 8, 2) := by decide +kernel
theorem dX7_lawsLeftBy_37 : decode cX7_lawsLeftBy 37 = .ok (.iload_n 2, 1) := by decide +kernel
theorem dX7_lawsLeftBy_38 : decode cX7_lawsLeftBy 38 = .ok (.invokestatic 105, 3) := by decide +kernel
theorem dX7_lawsLeftBy_41 : decode cX7_lawsLeftBy 41 = .ok (.isub, 1) := by decide +kernel
theorem dX7_lawsLeftBy_42 : decode cX7_lawsLeftBy 42 = .ok (.ishl, 1) := by decide +kernel
theorem dX7_lawsLeftBy_43 : decode cX7_lawsLeftBy 43 = .ok (.ireturn, 1) := by decide +kernel
theorem dX8_init_0 : decode cX8_init 0 = .ok (.aload_n 0, 1) := by decide +kernel
theorem dX8_init_1 : decode cX8_init 1 = .ok (.invokespecial 1, 3) := by decide +kernel
theorem dX8_init_4 : decode cX8_init 4 = .ok (.aload_n 0, 1) := by decide +kernel
theorem dX8_init_5 : decode cX8_init 5 = .ok (.new 7, 3) := by decide +kernel
theorem dX8_init_8 : decode cX8_init 8 = .ok (.dup, 1) := by decide +kernel
theorem dX8_init_9 : decode cX8_init 9 = .ok (.invokespecial 9, 3) := by decide +kernel
theorem dX8_init_12 : decode cX8_init 12 = .ok (.putfield 10, 3) := by decide +kernel
theorem dX8_init_15 : decode cX8_init 15 = .ok (.aload_n 0, 1) := by decide +kernel
theorem dX8_init_16 : decode cX8_init 16 = .ok (.iconst 2, 1) := by decide +kernel
theorem dX8_init_17 : decode cX8_init 17 = .ok (.anewarray 7, 3) := by decide +kernel
theorem dX8_init_20 : decode cX8_init 20 = .ok (.dup, 1) := by decide +kernel
theorem dX8_init_21 : decode cX8_init 21 = .ok (.iconst 0, 1) := by decide +kernel
theorem dX8_init_22 : decode cX8_init 22 = .ok (.new 7, 3) := by decide +kernel
theorem dX8_init_25 : decode cX8_init 25 = .ok (.dup, 1) := by decide +kernel
theorem dX8_init_26 : decode cX8_init 26 = .ok (.invokespecial 9, 3) := by decide +kernel
theorem dX8_init_29 : decode cX8_init 29 = .ok (.aastore, 1) := by decide +kernel
theorem dX8_init_30 : decode cX8_init 30 = .ok (.dup, 1) := by decide +kernel
theorem dX8_init_31 : decode cX8_init 31 = .ok (.iconst 1, 1) := by decide +kernel
theorem dX8_init_32 : decode cX8_init 32 = .ok (.new 7, 3) := by decide +kernel
theorem dX8_init_35 : decode cX8_init 35 = .ok (.dup, 1) := by decide +kernel
theorem dX8_init_36 : decode cX8_init 36 = .ok (.invokespecial 9, 3) := by decide +kernel
theorem dX8_init_39 : decode cX8_init 39 = .ok (.aastore, 1) := by decide +kernel
theorem dX8_init_40 : decode cX8_init 40 = .ok (.putfield 16, 3) := by decide +kernel
theorem dX8_init_43 : decode cX8_init 43 = .ok (.aload_n 0, 1) := by decide +kernel
theorem dX8_init_44 : decode cX8_init 44 = .ok (.iconst 0, 1) := by decide +kernel
theorem dX8_init_45 : decode cX8_init 45 = .ok (.putfield 20, 3) := by decide +kernel
theorem dX8_init_48 : decode cX8_init 48 = .ok (.aload_n 0, 1) := by decide +kernel
theorem dX8_init_49 : decode cX8_init 49 = .ok (.new 24, 3) := by decide +kernel
theorem dX8_init_52 : decode cX8_init 52 = .ok (.dup, 1) := by decide +kernel
theorem dX8_init_53 : decode cX8_init 53 = .ok (.invokespecial 26, 3) := by decide +kernel
theorem dX8_init_56 : decode cX8_init 56 = .ok (.putfield 27, 3) := by decide +kernel
theorem dX8_init_59 : decode cX8_init 59 = .ok (.aload_n 0, 1) := by decide +kernel
theorem dX8_init_60 : decode cX8_init 60 = .ok (.new 31, 3) := by decide +kernel
theorem dX8_init_63 : decode cX8_init 63 = .ok (.dup, 1) := by decide +kernel
theorem dX8_init_64 : decode cX8_init 64 = .ok (.invokespecial 33, 3) := by decide +kernel
theorem dX8_init_67 : decode cX8_init 67 = .ok (.putfield 34, 3) := by decide +kernel
theorem dX8_init_70 : decode cX8_init 70 = .ok (.aload_n 0, 1) := by decide +kernel
theorem dX8_init_71 : decode cX8_init 71 = .ok (.new 38, 3) := by decide +kernel
theorem dX8_init_74 : decode cX8_init 74 = .ok (.dup, 1) := by decide +kernel
theorem dX8_init_75 : decode cX8_init 75 = .ok (.invokespecial 40, 3) := by decide +kernel
theorem dX8_init_78 : decode cX8_init 78 = .ok (.putfield 41, 3) := by decide +kernel
theorem dX8_init_81 : decode cX8_init 81 = .ok (.aload_n 0, 1) := by decide +kernel
theorem dX8_init_82 : decode cX8_init 82 = .ok (.new 45, 3) := by decide +kernel
theorem dX8_init_85 : decode cX8_init 85 = .ok (.dup, 1) := by decide +kernel
theorem dX8_init_86 : decode cX8_init 86 = .ok (.invokespecial 47, 3) := by decide +kernel
theorem dX8_init_89 : decode cX8_init 89 = .ok (.putfield 48, 3) := by decide +kernel
theorem dX8_init_92 : decode cX8_init 92 = .ok (.aload_n 0, 1) := by decide +kernel
theorem dX8_init_93 : decode cX8_init 93 = .ok (.new 52, 3) := by decide +kernel
theorem dX8_init_96 : decode cX8_init 96 = .ok (.dup, 1) := by decide +kernel
theorem dX8_init_97 : decode cX8_init 97 = .ok (.invokespecial 54, 3) := by decide +kernel
theorem dX8_init_100 : decode cX8_init 100 = .ok (.putfield 55, 3) := by decide +kernel
theorem dX8_init_103 : decode cX8_init 103 = .ok (.return_, 1) := by decide +kernel
theorem dX8_flake_0 : decode cX8_flake 0 = .ok (.iload_n 1, 1) := by decide +kernel
theorem dX8_flake_1 : decode cX8_flake 1 = .ok (.bipush 8, 2) := by decide +kernel
theorem dX8_flake_3 : decode cX8_flake 3 = .ok (.invokestatic 59, 3) := by decide +kernel
theorem dX8_flake_6 : decode cX8_flake 6 = .ok (.ifCond .eq 13, 3) := by decide +kernel
theorem dX8_flake_9 : decode cX8_flake 9 = .ok (.iload 5, 2) := by decide +kernel
theorem dX8_flake_11 : decode cX8_flake 11 = .ok (.bipush 6, 2) := by decide +kernel
theorem dX8_flake_13 : decode cX8_flake 13 = .ok (.invokestatic 59, 3) := by decide +kernel
theorem dX8_flake_16 : decode cX8_flake 16 = .ok (.ifCond .ne 5, 3) := by decide +kernel
theorem dX8_flake_19 : decode cX8_flake 19 = .ok (.iconst (-1), 1) := by decide +kernel
theorem dX8_flake_20 : decode cX8_flake 20 = .ok (.ireturn, 1) := by decide +kernel
theorem dX8_flake_21 : decode cX8_flake 21 = .ok (.iload_n 2, 1) := by decide +kernel
theorem dX8_flake_22 : decode cX8_flake 22 = .ok (.sipush 256, 3) := by decide +kernel
theorem dX8_flake_25 : decode cX8_flake 25 = .ok (.invokestatic 59, 3) := by decide +kernel
theorem dX8_flake_28 : decode cX8_flake 28 = .ok (.ifCond .eq 22, 3) := by decide +kernel
theorem dX8_flake_31 : decode cX8_flake 31 = .ok (.iload_n 3, 1) := by decide +kernel
theorem dX8_flake_32 : decode cX8_flake 32 = .ok (.bipush 16, 2) := by decide +kernel
theorem dX8_flake_34 : decode cX8_flake 34 = .ok (.invokestatic 59, 3) := by decide +kernel
theorem dX8_flake_37 : decode cX8_flake 37 = .ok (.ifCond .eq 13, 3) := by decide +kernel
theorem dX8_flake_40 : decode cX8_flake 40 = .ok (.iload 4, 2) := by decide +kernel
theorem dX8_flake_42 : decode cX8_flake 42 = .ok (.bipush 10, 2) := by decide +kernel
theorem dX8_flake_44 : decode cX8_flake 44 = .ok (.invokestatic 59, 3) := by decide +kernel
theorem dX8_flake_47 : decode cX8_flake 47 = .ok (.ifCond .ne 6, 3) := by decide +kernel
theorem dX8_flake_50 : decode cX8_flake 50 = .ok (.bipush (-2), 2) := by decide +kernel
theorem dX8_flake_52 : decode cX8_flake 52 = .ok (.ireturn, 1) := by decide +kernel
theorem dX8_flake_53 : decode cX8_flake 53 = .ok (.aload_n 0, 1) := by decide +kernel
theorem dX8_flake_54 : decode cX8_flake 54 = .ok (.getfield 10, 3) := by decide +kernel
theorem dX8_flake_57 : decode cX8_flake 57 = .ok (.iload_n 1, 1) := by decide +kernel
theorem dX8_flake_58 : decode cX8_flake 58 = .ok (.iload_n 2, 1) := by decide +kernel
theorem dX8_flake_59 : decode cX8_flake 59 = .ok (.iload_n 3, 1) := by decide +kernel
theorem dX8_flake_60 : decode cX8_flake 60 = .ok (.iload 4, 2) := by decide +kernel
theorem dX8_flake_62 : decode cX8_flake 62 = .ok (.iload 5, 2) := by decide +kernel
theorem dX8_flake_64 : decode cX8_flake 64 = .ok (.invokevirtual 63, 3) := by decide +kernel
theorem dX8_flake_67 : decode cX8_flake 67 = .ok (.aload_n 0, 1) := by decide +kernel
theorem dX8_flake_68 : decode cX8_flake 68 = .ok (.getfield 10, 3) := by decide +kernel
theorem dX8_flake_71 : decode cX8_flake 71 = .ok (.getfield 67, 3) := by decide +kernel
theorem dX8_flake_74 : decode cX8_flake 74 = .ok (.invokestatic 70, 3) := by decide +kernel
theorem dX8_flake_77 : decode cX8_flake 77 = .ok (.ireturn, 1) := by decide +kernel
theorem dX8_melt_0 : decode cX8_melt 0 = .ok (.aload_n 0, 1) := by decide +kernel
theorem dX8_melt_1 : decode cX8_melt 1 = .ok (.getfield 10, 3) := by decide +kernel
theorem dX8_melt_4 : decode cX8_melt 4 = .ok (.iload_n 1, 1) := by decide +kernel
theorem dX8_melt_5 : decode cX8_melt 5 = .ok (.invokevirtual 76, 3) := by decide +kernel
theorem dX8_melt_8 : decode cX8_melt 8 = .ok (.ifCond .ne 5, 3) := by decide +kernel
theorem dX8_melt_11 : decode cX8_melt 11 = .ok (.iconst (-1), 1) := by decide +kernel
theorem dX8_melt_12 : decode cX8_melt 12 = .ok (.ireturn, 1) := by decide +kernel
theorem dX8_melt_13 : decode cX8_melt 13 = .ok (.aload_n 0, 1) := by decide +kernel
theorem dX8_melt_14 : decode cX8_melt 14 = .ok (.getfield 10, 3) := by decide +kernel
theorem dX8_melt_17 : decode cX8_melt 17 = .ok (.iload_n 1, 1) := by decide +kernel
theorem dX8_melt_18 : decode cX8_melt 18 = .ok (.invokevirtual 80, 3) := by decide +kernel
theorem dX8_melt_21 : decode cX8_melt 21 = .ok (.aload_n 0, 1) := by decide +kernel
theorem dX8_melt_22 : decode cX8_melt 22 = .ok (.getfield 10, 3) := by decide +kernel
theorem dX8_melt_25 : decode cX8_melt 25 = .ok (.getfield 67, 3) := by decide +kernel
theorem dX8_melt_28 : decode cX8_melt 28 = .ok (.invokestatic 70, 3) := by decide +kernel
theorem dX8_melt_31 : decode cX8_melt 31 = .ok (.ireturn, 1) := by decide +kernel
theorem dX8_stand_0 : decode cX8_stand 0 = .ok (.iload_n 1, 1) := by decide +kernel
theorem dX8_stand_1 : decode cX8_stand 1 = .ok (.bipush 6, 2) := by decide +kernel
theorem dX8_stand_3 : decode cX8_stand 3 = .ok (.invokestatic 59, 3) := by decide +kernel
theorem dX8_stand_6 : decode cX8_stand 6 = .ok (.ifCond .ne 5, 3) := by decide +kernel
theorem dX8_stand_9 : decode cX8_stand 9 = .ok (.iconst (-1), 1) := by decide +kernel
theorem dX8_stand_10 : decode cX8_stand 10 = .ok (.ireturn, 1) := by decide +kernel
theorem dX8_stand_11 : decode cX8_stand 11 = .ok (.iload_n 2, 1) := by decide +kernel
theorem dX8_stand_12 : decode cX8_stand 12 = .ok (.bipush 16, 2) := by decide +kernel
theorem dX8_stand_14 : decode cX8_stand 14 = .ok (.invokestatic 59, 3) := by decide +kernel
theorem dX8_stand_17 : decode cX8_stand 17 = .ok (.ifCond .ne 6, 3) := by decide +kernel
theorem dX8_stand_20 : decode cX8_stand 20 = .ok (.bipush (-2), 2) := by decide +kernel
theorem dX8_stand_22 : decode cX8_stand 22 = .ok (.ireturn, 1) := by decide +kernel
theorem dX8_stand_23 : decode cX8_stand 23 = .ok (.aload_n 0, 1) := by decide +kernel
theorem dX8_stand_24 : decode cX8_stand 24 = .ok (.getfield 10, 3) := by decide +kernel
theorem dX8_stand_27 : decode cX8_stand 27 = .ok (.getfield 84, 3) := by decide +kernel
theorem dX8_stand_30 : decode cX8_stand 30 = .ok (.iload_n 1, 1) := by decide +kernel
theorem dX8_stand_31 : decode cX8_stand 31 = .ok (.iaload, 1) := by decide +kernel
theorem dX8_stand_32 : decode cX8_stand 32 = .ok (.istore_n 3, 1) := by decide +kernel
theorem dX8_stand_33 : decode cX8_stand 33 = .ok (.aload_n 0, 1) := by decide +kernel
theorem dX8_stand_34 : decode cX8_stand 34 = .ok (.getfield 10, 3) := by decide +kernel
theorem dX8_stand_37 : decode cX8_stand 37 = .ok (.getfield 84, 3) := by decide +kernel
theorem dX8_stand_40 : decode cX8_stand 40 = .ok (.iload_n 1, 1) := by decide +kernel
theorem dX8_stand_41 : decode cX8_stand 41 = .ok (.iload_n 2, 1) := by decide +kernel
theorem dX8_stand_42 : decode cX8_stand 42 = .ok (.iastore, 1) := by decide +kernel
theorem dX8_stand_43 : decode cX8_stand 43 = .ok (.aload_n 0, 1) := by decide +kernel
theorem dX8_stand_44 : decode cX8_stand 44 = .ok (.getfield 10, 3) := by decide +kernel
theorem dX8_stand_47 : decode cX8_stand 47 = .ok (.dup, 1) := by decide +kernel
theorem dX8_stand_48 : decode cX8_stand 48 = .ok (.getfield 88, 3) := by decide +kernel
theorem dX8_stand_51 : decode cX8_stand 51 = .ok (.iconst 1, 1) := by decide +kernel
theorem dX8_stand_52 : decode cX8_stand 52 = .ok (.iload_n 1, 1) := by decide +kernel
theorem dX8_stand_53 : decode cX8_stand 53 = .ok (.ishl, 1) := by decide +kernel
theorem dX8_stand_54 : decode cX8_stand 54 = .ok (.iconst (-1), 1) := by decide +kernel
theorem dX8_stand_55 : decode cX8_stand 55 = .ok (.ixor, 1) := by decide +kernel
theorem dX8_stand_56 : decode cX8_stand 56 = .ok (.iand, 1) := by decide +kernel
theorem dX8_stand_57 : decode cX8_stand 57 = .ok (.putfield 88, 3) := by decide +kernel
theorem dX8_stand_60 : decode cX8_stand 60 = .ok (.iload_n 3, 1) := by decide +kernel
theorem dX8_stand_61 : decode cX8_stand 61 = .ok (.ireturn, 1) := by decide +kernel
theorem dX8_air_0 : decode cX8_air 0 = .ok (.iload_n 1, 1) := by decide +kernel
theorem dX8_air_1 : decode cX8_air 1 = .ok (.iconst 2, 1) := by decide +kernel
theorem dX8_air_2 : decode cX8_air 2 = .ok (.invokestatic 59, 3) := by decide +kernel
theorem dX8_air_5 : decode cX8_air 5 = .ok (.ifCond .eq 13, 3) := by decide +kernel
theorem dX8_air_8 : decode cX8_air 8 = .ok (.iload_n 2, 1) := by decide +kernel
theorem dX8_air_9 : decode cX8_air 9 = .ok (.sipush 256, 3) := by decide +kernel
theorem dX8_air_12 : decode cX8_air 12 = .ok (.invokestatic 59, 3) := by decide +kernel
theorem dX8_air_15 : decode cX8_air 15 = .ok (.ifCond .ne 6, 3) := by decide +kernel
theorem dX8_air_18 : decode cX8_air 18 = .ok (.bipush (-2), 2) := by decide +kernel
theorem dX8_air_20 : decode cX8_air 20 = .ok (.ireturn, 1) := by decide +kernel
theorem dX8_air_21 : decode cX8_air 21 = .ok (.iload_n 1, 1) := by decide +kernel
theorem dX8_air_22 : decode cX8_air 22 = .ok (.ifCond .ne 13, 3) := by decide +kernel
theorem dX8_air_25 : decode cX8_air 25 = .ok (.aload_n 0, 1) := by decide +kernel
theorem dX8_air_26 : decode cX8_air 26 = .ok (.getfield 10, 3) := by decide +kernel
theorem dX8_air_29 : decode cX8_air 29 = .ok (.getfield 91, 3) := by decide +kernel
theorem dX8_air_32 : decode cX8_air 32 = .ok (.goto 10, 3) := by decide +kernel
theorem dX8_air_35 : decode cX8_air 35 = .ok (.aload_n 0, 1) := by decide +kernel
theorem dX8_air_36 : decode cX8_air 36 = .ok (.getfield 10, 3) := by decide +kernel
theorem dX8_air_39 : decode cX8_air 39 = .ok (.getfield 94, 3) := by decide +kernel
theorem dX8_air_42 : decode cX8_air 42 = .ok (.istore_n 3, 1) := by decide +kernel
theorem dX8_air_43 : decode cX8_air 43 = .ok (.iload_n 1, 1) := by decide +kernel
theorem dX8_air_44 : decode cX8_air 44 = .ok (.ifCond .ne 14, 3) := by decide +kernel
theorem dX8_air_47 : decode cX8_air 47 = .ok (.aload_n 0, 1) := by decide +kernel
theorem dX8_air_48 : decode cX8_air 48 = .ok (.getfield 10, 3) := by decide +kernel
theorem dX8_air_51 : decode cX8_air 51 = .ok (.iload_n 2, 1) := by decide +kernel
theorem dX8_air_52 : decode cX8_air 52 = .ok (.putfield 91, 3) := by decide +kernel
theorem dX8_air_55 : decode cX8_air 55 = .ok (.goto 11, 3) := by decide +kernel
theorem dX8_air_58 : decode cX8_air 58 = .ok (.aload_n 0, 1) := by decide +kernel
theorem dX8_air_59 : decode cX8_air 59 = .ok (.getfield 10, 3) := by decide +kernel
theorem dX8_air_62 : decode cX8_air 62 = .ok (.iload_n 2, 1) := by decide +kernel
theorem dX8_air_63 : decode cX8_air 63 = .ok (.putfield 94, 3) := by decide +kernel
theorem dX8_air_66 : decode cX8_air 66 = .ok (.iload_n 3, 1) := by decide +kernel
theorem dX8_air_67 : decode cX8_air 67 = .ok (.ireturn, 1) := by decide +kernel
theorem dX8_say_0 : decode cX8_say 0 = .ok (.iload_n 1, 1) := by decide +kernel
theorem dX8_say_1 : decode cX8_say 1 = .ok (.bipush 33, 2) := by decide +kernel
theorem dX8_say_3 : decode cX8_say 3 = .ok (.if_icmp .lt 9, 3) := by decide +kernel
theorem dX8_say_6 : decode cX8_say 6 = .ok (.iload_n 1, 1) := by decide +kernel
theorem dX8_say_7 : decode cX8_say 7 = .ok (.bipush 126, 2) := by decide +kernel
theorem dX8_say_9 : decode cX8_say 9 = .ok (.if_icmp .le 6, 3) := by decide +kernel
theorem dX8_say_12 : decode cX8_say 12 = .ok (.bipush (-2), 2) := by decide +kernel
theorem dX8_say_14 : decode cX8_say 14 = .ok (.ireturn, 1) := by decide +kernel
theorem dX8_say_15 : decode cX8_say 15 = .ok (.aload_n 0, 1) := by decide +kernel
theorem dX8_say_16 : decode cX8_say 16 = .ok (.getfield 27, 3) := by decide +kernel
theorem dX8_say_19 : decode cX8_say 19 = .ok (.iload_n 1, 1) := by decide +kernel
theorem dX8_say_20 : decode cX8_say 20 = .ok (.invokevirtual 97, 3) := by decide +kernel
theorem dX8_say_23 : decode cX8_say 23 = .ok (.ifCond .eq 13, 3) := by decide +kernel
theorem dX8_say_26 : decode cX8_say 26 = .ok (.aload_n 0, 1) := by decide +kernel
theorem dX8_say_27 : decode cX8_say 27 = .ok (.getfield 27, 3) := by decide +kernel
theorem dX8_say_30 : decode cX8_say 30 = .ok (.getfield 100, 3) := by decide +kernel
theorem dX8_say_33 : decode cX8_say 33 = .ok (.goto 5, 3) := by decide +kernel
theorem dX8_say_36 : decode cX8_say 36 = .ok (.bipush (-4), 2) := by decide +kernel
theorem dX8_say_38 : decode cX8_say 38 = .ok (.ireturn, 1) := by decide +kernel
theorem dX8_wipe_0 : decode cX8_wipe 0 = .ok (.aload_n 0, 1) := by decide +kernel
theorem dX8_wipe_1 : decode cX8_wipe 1 = .ok (.getfield 27, 3) := by decide +kernel
theorem dX8_wipe_4 : decode cX8_wipe 4 = .ok (.getfield 100, 3) := by decide +kernel
theorem dX8_wipe_7 : decode cX8_wipe 7 = .ok (.istore_n 1, 1) := by decide +kernel
theorem dX8_wipe_8 : decode cX8_wipe 8 = .ok (.aload_n 0, 1) := by decide +kernel
theorem dX8_wipe_9 : decode cX8_wipe 9 = .ok (.getfield 27, 3) := by decide +kernel
theorem dX8_wipe_12 : decode cX8_wipe 12 = .ok (.iconst 0, 1) := by decide +kernel
theorem dX8_wipe_13 : decode cX8_wipe 13 = .ok (.putfield 100, 3) := by decide +kernel
theorem dX8_wipe_16 : decode cX8_wipe 16 = .ok (.iload_n 1, 1) := by decide +kernel
theorem dX8_wipe_17 : decode cX8_wipe 17 = .ok (.ireturn, 1) := by decide +kernel
theorem dX8_fault_0 : decode cX8_fault 0 = .ok (.aload_n 0, 1) := by decide +kernel
theorem dX8_fault_1 : decode cX8_fault 1 = .ok (.getfield 27, 3) := by decide +kernel
theorem dX8_fault_4 : decode cX8_fault 4 = .ok (.invokevirtual 103, 3) := by decide +kernel
theorem dX8_fault_7 : decode cX8_fault 7 = .ok (.ireturn, 1) := by decide +kernel
theorem dX8_judge_0 : decode cX8_judge 0 = .ok (.iload_n 1, 1) := by decide +kernel
theorem dX8_judge_1 : decode cX8_judge 1 = .ok (.iconst 3, 1) := by decide +kernel
theorem dX8_judge_2 : decode cX8_judge 2 = .ok (.invokestatic 59, 3) := by decide +kernel
theorem dX8_judge_5 : decode cX8_judge 5 = .ok (.ifCond .ne 6, 3) := by decide +kernel
theorem dX8_judge_8 : decode cX8_judge 8 = .ok (.bipush (-2), 2) := by decide +kernel
theorem dX8_judge_10 : decode cX8_judge 10 = .ok (.ireturn, 1) := by decide +kernel
theorem dX8_judge_11 : decode cX8_judge 11 = .ok (.aload_n 0, 1) := by decide +kernel
theorem dX8_judge_12 : decode cX8_judge 12 = .ok (.invokevirtual 107, 3) := by decide +kernel
theorem dX8_judge_15 : decode cX8_judge 15 = .ok (.istore_n 2, 1) := by decide +kernel
theorem dX8_judge_16 : decode cX8_judge 16 = .ok (.iload_n 2, 1) := by decide +kernel
theorem dX8_judge_17 : decode cX8_judge 17 = .ok (.bipush (-5), 2) := by decide +kernel
theorem dX8_judge_19 : decode cX8_judge 19 = .ok (.if_icmp .ne 6, 3) := by decide +kernel
theorem dX8_judge_22 : decode cX8_judge 22 = .ok (.bipush (-5), 2) := by decide +kernel
theorem dX8_judge_24 : decode cX8_judge 24 = .ok (.ireturn, 1) := by decide +kernel
theorem dX8_judge_25 : decode cX8_judge 25 = .ok (.iload_n 1, 1) := by decide +kernel
theorem dX8_judge_26 : decode cX8_judge 26 = .ok (.lookupswitch 42 #[(0, 26), (1, 34)], 26) := by decide +kernel
theorem dX8_judge_52 : decode cX8_judge 52 = .ok (.aload_n 0, 1) := by decide +kernel
theorem dX8_judge_53 : decode cX8_judge 53 = .ok (.getfield 34, 3) := by decide +kernel
theorem dX8_judge_56 : decode cX8_judge 56 = .ok (.getfield 110, 3) := by decide +kernel
theorem dX8_judge_59 : decode cX8_judge 59 = .ok (.ireturn, 1) := by decide +kernel
theorem dX8_judge_60 : decode cX8_judge 60 = .ok (.aload_n 0, 1) := by decide +kernel
theorem dX8_judge_61 : decode cX8_judge 61 = .ok (.getfield 34, 3) := by decide +kernel
theorem dX8_judge_64 : decode cX8_judge 64 = .ok (.getfield 113, 3) := by decide +kernel
theorem dX8_judge_67 : decode cX8_judge 67 = .ok (.ireturn, 1) := by decide +kernel
theorem dX8_judge_68 : decode cX8_judge 68 = .ok (.iload_n 2, 1) := by decide +kernel
theorem dX8_judge_69 : decode cX8_judge 69 = .ok (.ifCond .ne 13, 3) := by decide +kernel
theorem dX8_judge_72 : decode cX8_judge 72 = .ok (.aload_n 0, 1) := by decide +kernel
theorem dX8_judge_73 : decode cX8_judge 73 = .ok (.getfield 34, 3) := by decide +kernel
theorem dX8_judge_76 : decode cX8_judge 76 = .ok (.invokevirtual 116, 3) := by decide +kernel
theorem dX8_judge_79 : decode cX8_judge 79 = .ok (.goto 5, 3) := by decide +kernel
theorem dX8_judge_82 : decode cX8_judge 82 = .ok (.bipush (-3), 2) := by decide +kernel
theorem dX8_judge_84 : decode cX8_judge 84 = .ok (.ireturn, 1) := by decide +kernel
theorem dX8_behind_0 : decode cX8_behind 0 = .ok (.aload_n 0, 1) := by decide +kernel
theorem dX8_behind_1 : decode cX8_behind 1 = .ok (.getfield 10, 3) := by decide +kernel
theorem dX8_behind_4 : decode cX8_behind 4 = .ok (.iload_n 1, 1) := by decide +kernel
theorem dX8_behind_5 : decode cX8_behind 5 = .ok (.invokevirtual 76, 3) := by decide +kernel
theorem dX8_behind_8 : decode cX8_behind 8 = .ok (.ifCond .ne 5, 3) := by decide +kernel
theorem dX8_behind_11 : decode cX8_behind 11 = .ok (.iconst (-1), 1) := by decide +kernel
theorem dX8_behind_12 : decode cX8_behind 12 = .ok (.ireturn, 1) := by decide +kernel
theorem dX8_behind_13 : decode cX8_behind 13 = .ok (.iload_n 2, 1) := by decide +kernel
theorem dX8_behind_14 : decode cX8_behind 14 = .ok (.iconst 4, 1) := by decide +kernel
theorem dX8_behind_15 : decode cX8_behind 15 = .ok (.invokestatic 59, 3) := by decide +kernel
theorem dX8_behind_18 : decode cX8_behind 18 = .ok (.ifCond .ne 6, 3) := by decide +kernel
theorem dX8_behind_21 : decode cX8_behind 21 = .ok (.bipush (-2), 2) := by decide +kernel
theorem dX8_behind_23 : decode cX8_behind 23 = .ok (.ireturn, 1) := by decide +kernel
theorem dX8_behind_24 : decode cX8_behind 24 = .ok (.aload_n 0, 1) := by decide +kernel
theorem dX8_behind_25 : decode cX8_behind 25 = .ok (.invokevirtual 107, 3) := by decide +kernel
theorem dX8_behind_28 : decode cX8_behind 28 = .ok (.istore_n 3, 1) := by decide +kernel
theorem dX8_behind_29 : decode cX8_behind 29 = .ok (.iload_n 3, 1) := by decide +kernel
theorem dX8_behind_30 : decode cX8_behind 30 = .ok (.ifCond .eq 5, 3) := by decide +kernel
theorem dX8_behind_33 : decode cX8_behind 33 = .ok (.iload_n 3, 1) := by decide +kernel
theorem dX8_behind_34 : decode cX8_behind 34 = .ok (.ireturn, 1) := by decide +kernel
theorem dX8_behind_35 : decode cX8_behind 35 = .ok (.iload_n 2, 1) := by decide +kernel
theorem dX8_behind_36 : decode cX8_behind 36 = .ok (.tableswitch 67 0 2 #[28, 41, 54], 28) := by decide +kernel
theorem dX8_behind_64 : decode cX8_behind 64 = .ok (.aload_n 0, 1) := by decide +kernel
theorem dX8_behind_65 : decode cX8_behind 65 = .ok (.getfield 34, 3) := by decide +kernel
theorem dX8_behind_68 : decode cX8_behind 68 = .ok (.getfield 119, 3) := by decide +kernel
theorem dX8_behind_71 : decode cX8_behind 71 = .ok (.getfield 122, 3) := by decide +kernel
theorem dX8_behind_74 : decode cX8_behind 74 = .ok (.iload_n 1, 1) := by decide +kernel
theorem dX8_behind_75 : decode cX8_behind 75 = .ok (.iaload, 1) := by decide +kernel
theorem dX8_behind_76 : decode cX8_behind 76 = .ok (.ireturn, 1) := by decide +kernel
theorem dX8_behind_77 : decode cX8_behind 77 = .ok (.aload_n 0, 1) := by decide +kernel
theorem dX8_behind_78 : decode cX8_behind 78 = .ok (.getfield 34, 3) := by decide +kernel
theorem dX8_behind_81 : decode cX8_behind 81 = .ok (.getfield 119, 3) := by decide +kernel
theorem dX8_behind_84 : decode cX8_behind 84 = .ok (.getfield 125, 3) := by decide +kernel
theorem dX8_behind_87 : decode cX8_behind 87 = .ok (.iload_n 1, 1) := by decide +kernel
theorem dX8_behind_88 : decode cX8_behind 88 = .ok (.iaload, 1) := by decide +kernel
theorem dX8_behind_89 : decode cX8_behind 89 = .ok (.ireturn, 1) := by decide +kernel
theorem dX8_behind_90 : decode cX8_behind 90 = .ok (.aload_n 0, 1) := by decide +kernel
theorem dX8_behind_91 : decode cX8_behind 91 = .ok (.getfield 34, 3) := by decide +kernel
theorem dX8_behind_94 : decode cX8_behind 94 = .ok (.getfield 119, 3) := by decide +kernel
theorem dX8_behind_97 : decode cX8_behind 97 = .ok (.getfield 128, 3) := by decide +kernel
theorem dX8_behind_100 : decode cX8_behind 100 = .ok (.iload_n 1, 1) := by decide +kernel
theorem dX8_behind_101 : decode cX8_behind 101 = .ok (.iaload, 1) := by decide +kernel
theorem dX8_behind_102 : decode cX8_behind 102 = .ok (.ireturn, 1) := by decide +kernel
theorem dX8_behind_103 : decode cX8_behind 103 = .ok (.aload_n 0, 1) := by decide +kernel
theorem dX8_behind_104 : decode cX8_behind 104 = .ok (.getfield 34, 3) := by decide +kernel
theorem dX8_behind_107 : decode cX8_behind 107 = .ok (.getfield 119, 3) := by decide +kernel
theorem dX8_behind_110 : decode cX8_behind 110 = .ok (.getfield 131, 3) := by decide +kernel
theorem dX8_behind_113 : decode cX8_behind 113 = .ok (.iload_n 1, 1) := by decide +kernel
theorem dX8_behind_114 : decode cX8_behind 114 = .ok (.iaload, 1) := by decide +kernel
theorem dX8_behind_115 : decode cX8_behind 115 = .ok (.ireturn, 1) := by decide +kernel
theorem dX8_stands_0 : decode cX8_stands 0 = .ok (.iload_n 1, 1) := by decide +kernel
theorem dX8_stands_1 : decode cX8_stands 1 = .ok (.bipush 6, 2) := by decide +kernel
theorem dX8_stands_3 : decode cX8_stands 3 = .ok (.invokestatic 59, 3) := by decide +kernel
theorem dX8_stands_6 : decode cX8_stands 6 = .ok (.ifCond .ne 5, 3) := by decide +kernel
theorem dX8_stands_9 : decode cX8_stands 9 = .ok (.iconst (-1), 1) := by decide +kernel
theorem dX8_stands_10 : decode cX8_stands 10 = .ok (.ireturn, 1) := by decide +kernel
theorem dX8_stands_11 : decode cX8_stands 11 = .ok (.iload_n 2, 1) := by decide +kernel
theorem dX8_stands_12 : decode cX8_stands 12 = .ok (.iconst 3, 1) := by decide +kernel
theorem dX8_stands_13 : decode cX8_stands 13 = .ok (.invokestatic 59, 3) := by decide +kernel
theorem dX8_stands_16 : decode cX8_stands 16 = .ok (.ifCond .ne 6, 3) := by decide +kernel
theorem dX8_stands_19 : decode cX8_stands 19 = .ok (.bipush (-2), 2) := by decide +kernel
theorem dX8_stands_21 : decode cX8_stands 21 = .ok (.ireturn, 1) := by decide +kernel
theorem dX8_stands_22 : decode cX8_stands 22 = .ok (.aload_n 0, 1) := by decide +kernel
theorem dX8_stands_23 : decode cX8_stands 23 = .ok (.invokevirtual 107, 3) := by decide +kernel
theorem dX8_stands_26 : decode cX8_stands 26 = .ok (.istore_n 3, 1) := by decide +kernel
theorem dX8_stands_27 : decode cX8_stands 27 = .ok (.iload_n 3, 1) := by decide +kernel
theorem dX8_stands_28 : decode cX8_stands 28 = .ok (.ifCond .eq 5, 3) := by decide +kernel
theorem dX8_stands_31 : decode cX8_stands 31 = .ok (.iload_n 3, 1) := by decide +kernel
theorem dX8_stands_32 : decode cX8_stands 32 = .ok (.ireturn, 1) := by decide +kernel
theorem dX8_stands_33 : decode cX8_stands 33 = .ok (.iload_n 2, 1) := by decide +kernel
theorem dX8_stands_34 : decode cX8_stands 34 = .ok (.lookupswitch 54 #[(0, 26), (1, 39)], 26) := by decide +kernel
theorem dX8_stands_60 : decode cX8_stands 60 = .ok (.aload_n 0, 1) := by decide +kernel
theorem dX8_stands_61 : decode cX8_stands 61 = .ok (.getfield 34, 3) := by decide +kernel
theorem dX8_stands_64 : decode cX8_stands 64 = .ok (.getfield 119, 3) := by decide +kernel
theorem dX8_stands_67 : decode cX8_stands 67 = .ok (.getfield 84, 3) := by decide +kernel
theorem dX8_stands_70 : decode cX8_stands 70 = .ok (.iload_n 1, 1) := by decide +kernel
theorem dX8_stands_71 : decode cX8_stands 71 = .ok (.iaload, 1) := by decide +kernel
theorem dX8_stands_72 : decode cX8_stands 72 = .ok (.ireturn, 1) := by decide +kernel
theorem dX8_stands_73 : decode cX8_stands 73 = .ok (.aload_n 0, 1) := by decide +kernel
theorem dX8_stands_74 : decode cX8_stands 74 = .ok (.getfield 34, 3) := by decide +kernel
theorem dX8_stands_77 : decode cX8_stands 77 = .ok (.getfield 119, 3) := by decide +kernel
theorem dX8_stands_80 : decode cX8_stands 80 = .ok (.getfield 88, 3) := by decide +kernel
theorem dX8_stands_83 : decode cX8_stands 83 = .ok (.iload_n 1, 1) := by decide +kernel
theorem dX8_stands_84 : decode cX8_stands 84 = .ok (.invokestatic 134, 3) := by decide +kernel
theorem dX8_stands_87 : decode cX8_stands 87 = .ok (.ireturn, 1) := by decide +kernel
theorem dX8_stands_88 : decode cX8_stands 88 = .ok (.aload_n 0, 1) := by decide +kernel
theorem dX8_stands_89 : decode cX8_stands 89 = .ok (.getfield 34, 3) := by decide +kernel
theorem dX8_stands_92 : decode cX8_stands 92 = .ok (.getfield 119, 3) := by decide +kernel
theorem dX8_stands_95 : decode cX8_stands 95 = .ok (.iload_n 1, 1) := by decide +kernel
theorem dX8_stands_96 : decode cX8_stands 96 = .ok (.invokevirtual 138, 3) := by decide +kernel
theorem dX8_stands_99 : decode cX8_stands 99 = .ok (.ireturn, 1) := by decide +kernel
theorem dX8_posted_0 : decode cX8_posted 0 = .ok (.iload_n 1, 1) := by decide +kernel
theorem dX8_posted_1 : decode cX8_posted 1 = .ok (.iconst 3, 1) := by decide +kernel
theorem dX8_posted_2 : decode cX8_posted 2 = .ok (.invokestatic 59, 3) := by decide +kernel
theorem dX8_posted_5 : decode cX8_posted 5 = .ok (.ifCond .ne 6, 3) := by decide +kernel
theorem dX8_posted_8 : decode cX8_posted 8 = .ok (.bipush (-2), 2) := by decide +kernel
theorem dX8_posted_10 : decode cX8_posted 10 = .ok (.ireturn, 1) := by decide +kernel
theorem dX8_posted_11 : decode cX8_posted 11 = .ok (.aload_n 0, 1) := by decide +kernel
theorem dX8_posted_12 : decode cX8_posted 12 = .ok (.invokevirtual 107, 3) := by decide +kernel
theorem dX8_posted_15 : decode cX8_posted 15 = .ok (.istore_n 2, 1) := by decide +kernel
theorem dX8_posted_16 : decode cX8_posted 16 = .ok (.iload_n 2, 1) := by decide +kernel
theorem dX8_posted_17 : decode cX8_posted 17 = .ok (.ifCond .eq 5, 3) := by decide +kernel
theorem dX8_posted_20 : decode cX8_posted 20 = .ok (.iload_n 2, 1) := by decide +kernel
theorem dX8_posted_21 : decode cX8_posted 21 = .ok (.ireturn, 1) := by decide +kernel
theorem dX8_posted_22 : decode cX8_posted 22 = .ok (.iload_n 1, 1) := by decide +kernel
theorem dX8_posted_23 : decode cX8_posted 23 = .ok (.lookupswitch 44 #[(0, 25), (1, 36)], 25) := by decide +kernel
theorem dX8_posted_48 : decode cX8_posted 48 = .ok (.aload_n 0, 1) := by decide +kernel
theorem dX8_posted_49 : decode cX8_posted 49 = .ok (.getfield 34, 3) := by decide +kernel
theorem dX8_posted_52 : decode cX8_posted 52 = .ok (.getfield 119, 3) := by decide +kernel
theorem dX8_posted_55 : decode cX8_posted 55 = .ok (.invokevirtual 141, 3) := by decide +kernel
theorem dX8_posted_58 : decode cX8_posted 58 = .ok (.ireturn, 1) := by decide +kernel
theorem dX8_posted_59 : decode cX8_posted 59 = .ok (.aload_n 0, 1) := by decide +kernel
theorem dX8_posted_60 : decode cX8_posted 60 = .ok (.getfield 34, 3) := by decide +kernel
theorem dX8_posted_63 : decode cX8_posted 63 = .ok (.getfield 144, 3) := by decide +kernel
theorem dX8_posted_66 : decode cX8_posted 66 = .ok (.ireturn, 1) := by decide +kernel
theorem dX8_posted_67 : decode cX8_posted 67 = .ok (.aload_n 0, 1) := by decide +kernel
theorem dX8_posted_68 : decode cX8_posted 68 = .ok (.getfield 34, 3) := by decide +kernel
theorem dX8_posted_71 : decode cX8_posted 71 = .ok (.getfield 119, 3) := by decide +kernel
theorem dX8_posted_74 : decode cX8_posted 74 = .ok (.invokevirtual 147, 3) := by decide +kernel
theorem dX8_posted_77 : decode cX8_posted 77 = .ok (.invokestatic 70, 3) := by decide +kernel
theorem dX8_posted_80 : decode cX8_posted 80 = .ok (.ireturn, 1) := by decide +kernel
theorem dX8_done_0 : decode cX8_done 0 = .ok (.aload_n 0, 1) := by decide +kernel
theorem dX8_done_1 : decode cX8_done 1 = .ok (.invokevirtual 107, 3) := by decide +kernel
theorem dX8_done_4 : decode cX8_done 4 = .ok (.istore_n 1, 1) := by decide +kernel
theorem dX8_done_5 : decode cX8_done 5 = .ok (.iload_n 1, 1) := by decide +kernel
theorem dX8_done_6 : decode cX8_done 6 = .ok (.ifCond .eq 5, 3) := by decide +kernel
theorem dX8_done_9 : decode cX8_done 9 = .ok (.iload_n 1, 1) := by decide +kernel
theorem dX8_done_10 : decode cX8_done 10 = .ok (.ireturn, 1) := by decide +kernel
theorem dX8_done_11 : decode cX8_done 11 = .ok (.aload_n 0, 1) := by decide +kernel
theorem dX8_done_12 : decode cX8_done 12 = .ok (.getfield 10, 3) := by decide +kernel
theorem dX8_done_15 : decode cX8_done 15 = .ok (.aload_n 0, 1) := by decide +kernel
theorem dX8_done_16 : decode cX8_done 16 = .ok (.getfield 34, 3) := by decide +kernel
theorem dX8_done_19 : decode cX8_done 19 = .ok (.getfield 119, 3) := by decide +kernel
theorem dX8_done_22 : decode cX8_done 22 = .ok (.invokevirtual 150, 3) := by decide +kernel
theorem dX8_done_25 : decode cX8_done 25 = .ok (.aload_n 0, 1) := by decide +kernel
theorem dX8_done_26 : decode cX8_done 26 = .ok (.getfield 27, 3) := by decide +kernel
theorem dX8_done_29 : decode cX8_done 29 = .ok (.iconst 0, 1) := by decide +kernel
theorem dX8_done_30 : decode cX8_done 30 = .ok (.putfield 100, 3) := by decide +kernel
theorem dX8_done_33 : decode cX8_done 33 = .ok (.aload_n 0, 1) := by decide +kernel
theorem dX8_done_34 : decode cX8_done 34 = .ok (.getfield 27, 3) := by decide +kernel
theorem dX8_done_37 : decode cX8_done 37 = .ok (.getfield 154, 3) := by decide +kernel
theorem dX8_done_40 : decode cX8_done 40 = .ok (.ireturn, 1) := by decide +kernel
theorem dX8_says_0 : decode cX8_says 0 = .ok (.iload_n 1, 1) := by decide +kernel
theorem dX8_says_1 : decode cX8_says 1 = .ok (.sipush 256, 3) := by decide +kernel
theorem dX8_says_4 : decode cX8_says 4 = .ok (.invokestatic 59, 3) := by decide +kernel
theorem dX8_says_7 : decode cX8_says 7 = .ok (.ifCond .eq 10, 3) := by decide +kernel
theorem dX8_says_10 : decode cX8_says 10 = .ok (.iload_n 1, 1) := by decide +kernel
theorem dX8_says_11 : decode cX8_says 11 = .ok (.invokestatic 157, 3) := by decide +kernel
theorem dX8_says_14 : decode cX8_says 14 = .ok (.goto 5, 3) := by decide +kernel
theorem dX8_says_17 : decode cX8_says 17 = .ok (.bipush (-2), 2) := by decide +kernel
theorem dX8_says_19 : decode cX8_says 19 = .ok (.ireturn, 1) := by decide +kernel
theorem dX8_grew_0 : decode cX8_grew 0 = .ok (.iload_n 1, 1) := by decide +kernel
theorem dX8_grew_1 : decode cX8_grew 1 = .ok (.sipush 256, 3) := by decide +kernel
theorem dX8_grew_4 : decode cX8_grew 4 = .ok (.invokestatic 59, 3) := by decide +kernel
theorem dX8_grew_7 : decode cX8_grew 7 = .ok (.ifCond .eq 31, 3) := by decide +kernel
theorem dX8_grew_10 : decode cX8_grew 10 = .ok (.iload_n 2, 1) := by decide +kernel
theorem dX8_grew_11 : decode cX8_grew 11 = .ok (.sipush 256, 3) := by decide +kernel
theorem dX8_grew_14 : decode cX8_grew 14 = .ok (.invokestatic 59, 3) := by decide +kernel
theorem dX8_grew_17 : decode cX8_grew 17 = .ok (.ifCond .eq 21, 3) := by decide +kernel
theorem dX8_grew_20 : decode cX8_grew 20 = .ok (.iload_n 3, 1) := by decide +kernel
theorem dX8_grew_21 : decode cX8_grew 21 = .ok (.bipush 11, 2) := by decide +kernel
theorem dX8_grew_23 : decode cX8_grew 23 = .ok (.invokestatic 59, 3) := by decide +kernel
theorem dX8_grew_26 : decode cX8_grew 26 = .ok (.ifCond .eq 12, 3) := by decide +kernel
theorem dX8_grew_29 : decode cX8_grew 29 = .ok (.iload 4, 2) := by decide +kernel
theorem dX8_grew_31 : decode cX8_grew 31 = .ok (.iconst 2, 1) := by decide +kernel
theorem dX8_grew_32 : decode cX8_grew 32 = .ok (.invokestatic 59, 3) := by decide +kernel
theorem dX8_grew_35 : decode cX8_grew 35 = .ok (.ifCond .ne 7, 3) := by decide +kernel
theorem dX8_grew_38 : decode cX8_grew 38 = .ok (.ldc2_w 162, 3) := by decide +kernel
theorem dX8_grew_41 : decode cX8_grew 41 = .ok (.lreturn, 1) := by decide +kernel
theorem dX8_grew_42 : decode cX8_grew 42 = .ok (.iload 4, 2) := by decide +kernel
theorem dX8_grew_44 : decode cX8_grew 44 = .ok (.ifCond .ne 25, 3) := by decide +kernel
theorem dX8_grew_47 : decode cX8_grew 47 = .ok (.iload_n 1, 1) := by decide +kernel
theorem dX8_grew_48 : decode cX8_grew 48 = .ok (.iload_n 2, 1) := by decide +kernel
theorem dX8_grew_49 : decode cX8_grew 49 = .ok (.iload_n 3, 1) := by decide +kernel
theorem dX8_grew_50 : decode cX8_grew 50 = .ok (.aload_n 0, 1) := by decide +kernel
theorem dX8_grew_51 : decode cX8_grew 51 = .ok (.getfield 10, 3) := by decide +kernel
theorem dX8_grew_54 : decode cX8_grew 54 = .ok (.getfield 91, 3) := by decide +kernel
theorem dX8_grew_57 : decode cX8_grew 57 = .ok (.aload_n 0, 1) := by decide +kernel
theorem dX8_grew_58 : decode cX8_grew 58 = .ok (.getfield 10, 3) := by decide +kernel
theorem dX8_grew_61 : decode cX8_grew 61 = .ok (.getfield 94, 3) := by decide +kernel
theorem dX8_grew_64 : decode cX8_grew 64 = .ok (.invokestatic 164, 3) := by decide +kernel
theorem dX8_grew_67 : decode cX8_grew 67 = .ok (.i2l, 1) := by decide +kernel
theorem dX8_grew_68 : decode cX8_grew 68 = .ok (.lreturn, 1) := by decide +kernel
theorem dX8_grew_69 : decode cX8_grew 69 = .ok (.iload_n 1, 1) := by decide +kernel
theorem dX8_grew_70 : decode cX8_grew 70 = .ok (.iload_n 2, 1) := by decide +kernel
theorem dX8_grew_71 : decode cX8_grew 71 = .ok (.iload_n 3, 1) := by decide +kernel
theorem dX8_grew_72 : decode cX8_grew 72 = .ok (.aload_n 0, 1) := by decide +kernel
theorem dX8_grew_73 : decode cX8_grew 73 = .ok (.getfield 10, 3) := by decide +kernel
theorem dX8_grew_76 : decode cX8_grew 76 = .ok (.getfield 91, 3) := by decide +kernel
theorem dX8_grew_79 : decode cX8_grew 79 = .ok (.aload_n 0, 1) := by decide +kernel
theorem dX8_grew_80 : decode cX8_grew 80 = .ok (.getfield 10, 3) := by decide +kernel
theorem dX8_grew_83 : decode cX8_grew 83 = .ok (.getfield 94, 3) := by decide +kernel
theorem dX8_grew_86 : decode cX8_grew 86 = .ok (.invokestatic 168, 3) := by decide +kernel
theorem dX8_grew_89 : decode cX8_grew 89 = .ok (.lreturn, 1) := by decide +kernel
theorem dX8_soon_0 : decode cX8_soon 0 = .ok (.iload_n 1, 1) := by decide +kernel
theorem dX8_soon_1 : decode cX8_soon 1 = .ok (.sipush 256, 3) := by decide +kernel
theorem dX8_soon_4 : decode cX8_soon 4 = .ok (.invokestatic 59, 3) := by decide +kernel
theorem dX8_soon_7 : decode cX8_soon 7 = .ok (.ifCond .eq 13, 3) := by decide +kernel
theorem dX8_soon_10 : decode cX8_soon 10 = .ok (.iload_n 2, 1) := by decide +kernel
theorem dX8_soon_11 : decode cX8_soon 11 = .ok (.sipush 256, 3) := by decide +kernel
theorem dX8_soon_14 : decode cX8_soon 14 = .ok (.invokestatic 59, 3) := by decide +kernel
theorem dX8_soon_17 : decode cX8_soon 17 = .ok (.ifCond .ne 6, 3) := by decide +kernel
theorem dX8_soon_20 : decode cX8_soon 20 = .ok (.bipush (-2), 2) := by decide +kernel
theorem dX8_soon_22 : decode cX8_soon 22 = .ok (.ireturn, 1) := by decide +kernel
theorem dX8_soon_23 : decode cX8_soon 23 = .ok (.aload_n 0, 1) := by decide +kernel
theorem dX8_soon_24 : decode cX8_soon 24 = .ok (.getfield 41, 3) := by decide +kernel
theorem dX8_soon_27 : decode cX8_soon 27 = .ok (.iload_n 1, 1) := by decide +kernel
theorem dX8_soon_28 : decode cX8_soon 28 = .ok (.iload_n 2, 1) := by decide +kernel
theorem dX8_soon_29 : decode cX8_soon 29 = .ok (.aload_n 0, 1) := by decide +kernel
theorem dX8_soon_30 : decode cX8_soon 30 = .ok (.getfield 10, 3) := by decide +kernel
theorem dX8_soon_33 : decode cX8_soon 33 = .ok (.getfield 91, 3) := by decide +kernel
theorem dX8_soon_36 : decode cX8_soon 36 = .ok (.aload_n 0, 1) := by decide +kernel
theorem dX8_soon_37 : decode cX8_soon 37 = .ok (.getfield 10, 3) := by decide +kernel
theorem dX8_soon_40 : decode cX8_soon 40 = .ok (.getfield 94, 3) := by decide +kernel
theorem dX8_soon_43 : decode cX8_soon 43 = .ok (.invokevirtual 172, 3) := by decide +kernel
theorem dX8_soon_46 : decode cX8_soon 46 = .ok (.ireturn, 1) := by decide +kernel
theorem dX8_most_0 : decode cX8_most 0 = .ok (.iload_n 1, 1) := by decide +kernel
theorem dX8_most_1 : decode cX8_most 1 = .ok (.iconst 2, 1) := by decide +kernel
theorem dX8_most_2 : decode cX8_most 2 = .ok (.invokestatic 59, 3) := by decide +kernel
theorem dX8_most_5 : decode cX8_most 5 = .ok (.ifCond .ne 6, 3) := by decide +kernel
theorem dX8_most_8 : decode cX8_most 8 = .ok (.bipush (-2), 2) := by decide +kernel
theorem dX8_most_10 : decode cX8_most 10 = .ok (.ireturn, 1) := by decide +kernel
theorem dX8_most_11 : decode cX8_most 11 = .ok (.iload_n 1, 1) := by decide +kernel
theorem dX8_most_12 : decode cX8_most 12 = .ok (.ifCond .ne 13, 3) := by decide +kernel
theorem dX8_most_15 : decode cX8_most 15 = .ok (.aload_n 0, 1) := by decide +kernel
theorem dX8_most_16 : decode cX8_most 16 = .ok (.getfield 10, 3) := by decide +kernel
theorem dX8_most_19 : decode cX8_most 19 = .ok (.invokestatic 176, 3) := by decide +kernel
theorem dX8_most_22 : decode cX8_most 22 = .ok (.goto 10, 3) := by decide +kernel
theorem dX8_most_25 : decode cX8_most 25 = .ok (.aload_n 0, 1) := by decide +kernel
theorem dX8_most_26 : decode cX8_most 26 = .ok (.getfield 10, 3) := by decide +kernel
theorem dX8_most_29 : decode cX8_most 29 = .ok (.invokestatic 182, 3) := by decide +kernel
theorem dX8_most_32 : decode cX8_most 32 = .ok (.ireturn, 1) := by decide +kernel
theorem dX8_patch_0 : decode cX8_patch 0 = .ok (.iload_n 1, 1) := by decide +kernel
theorem dX8_patch_1 : decode cX8_patch 1 = .ok (.iconst 2, 1) := by decide +kernel
theorem dX8_patch_2 : decode cX8_patch 2 = .ok (.invokestatic 59, 3) := by decide +kernel
theorem dX8_patch_5 : decode cX8_patch 5 = .ok (.ifCond .ne 6, 3) := by decide +kernel
theorem dX8_patch_8 : decode cX8_patch 8 = .ok (.bipush (-2), 2) := by decide +kernel
theorem dX8_patch_10 : decode cX8_patch 10 = .ok (.ireturn, 1) := by decide +kernel
theorem dX8_patch_11 : decode cX8_patch 11 = .ok (.aload_n 0, 1) := by decide +kernel
theorem dX8_patch_12 : decode cX8_patch 12 = .ok (.getfield 10, 3) := by decide +kernel
theorem dX8_patch_15 : decode cX8_patch 15 = .ok (.invokevirtual 185, 3) := by decide +kernel
theorem dX8_patch_18 : decode cX8_patch 18 = .ok (.istore_n 2, 1) := by decide +kernel
theorem dX8_patch_19 : decode cX8_patch 19 = .ok (.bipush (-6), 2) := by decide +kernel
theorem dX8_patch_21 : decode cX8_patch 21 = .ok (.istore_n 3, 1) := by decide +kernel
theorem dX8_patch_22 : decode cX8_patch 22 = .ok (.iconst 0, 1) := by decide +kernel
theorem dX8_patch_23 : decode cX8_patch 23 = .ok (.istore 4, 2) := by decide +kernel
theorem dX8_patch_25 : decode cX8_patch 25 = .ok (.iconst 0, 1) := by decide +kernel
theorem dX8_patch_26 : decode cX8_patch 26 = .ok (.istore 5, 2) := by decide +kernel
theorem dX8_patch_28 : decode cX8_patch 28 = .ok (.iconst 0, 1) := by decide +kernel
theorem dX8_patch_29 : decode cX8_patch 29 = .ok (.istore 6, 2) := by decide +kernel
theorem dX8_patch_31 : decode cX8_patch 31 = .ok (.iload 6, 2) := by decide +kernel
theorem dX8_patch_33 : decode cX8_patch 33 = .ok (.bipush 16, 2) := by decide +kernel
theorem dX8_patch_35 : decode cX8_patch 35 = .ok (.if_icmp .ge 48, 3) := by decide +kernel
theorem dX8_patch_38 : decode cX8_patch 38 = .ok (.iload_n 2, 1) := by decide +kernel
theorem dX8_patch_39 : decode cX8_patch 39 = .ok (.iload 6, 2) := by decide +kernel
theorem dX8_patch_41 : decode cX8_patch 41 = .ok (.invokestatic 134, 3) := by decide +kernel
theorem dX8_patch_44 : decode cX8_patch 44 = .ok (.iconst 1, 1) := by decide +kernel
theorem dX8_patch_45 : decode cX8_patch 45 = .ok (.if_icmp .ne 7, 3) := by decide +kernel
theorem dX8_patch_48 : decode cX8_patch 48 = .ok (.iconst 0, 1) := by decide +kernel
theorem dX8_patch_49 : decode cX8_patch 49 = .ok (.goto 7, 3) := by decide +kernel
theorem dX8_patch_52 : decode cX8_patch 52 = .ok (.iload 5, 2) := by decide +kernel
theorem dX8_patch_54 : decode cX8_patch 54 = .ok (.iconst 1, 1) := by decide +kernel
theorem dX8_patch_55 : decode cX8_patch 55 = .ok (.iadd, 1) := by decide +kernel
theorem dX8_patch_56 : decode cX8_patch 56 = .ok (.istore 5, 2) := by decide +kernel
theorem dX8_patch_58 : decode cX8_patch 58 = .ok (.iload 5, 2) := by decide +kernel
theorem dX8_patch_60 : decode cX8_patch 60 = .ok (.iload 4, 2) := by decide +kernel
theorem dX8_patch_62 : decode cX8_patch 62 = .ok (.if_icmp .le 15, 3) := by decide +kernel
theorem dX8_patch_65 : decode cX8_patch 65 = .ok (.iload 5, 2) := by decide +kernel
theorem dX8_patch_67 : decode cX8_patch 67 = .ok (.istore 4, 2) := by decide +kernel
theorem dX8_patch_69 : decode cX8_patch 69 = .ok (.iload 6, 2) := by decide +kernel
theorem dX8_patch_71 : decode cX8_patch 71 = .ok (.iload 5, 2) := by decide +kernel
theorem dX8_patch_73 : decode cX8_patch 73 = .ok (.isub, 1) := by decide +kernel
theorem dX8_patch_74 : decode cX8_patch 74 = .ok (.iconst 1, 1) := by decide +kernel
theorem dX8_patch_75 : decode cX8_patch 75 = .ok (.iadd, 1) := by decide +kernel
theorem dX8_patch_76 : decode cX8_patch 76 = .ok (.istore_n 3, 1) := by decide +kernel
theorem dX8_patch_77 : decode cX8_patch 77 = .ok (.iinc 6 1, 3) := by decide +kernel
theorem dX8_patch_80 : decode cX8_patch 80 = .ok (.goto (-49), 3) := by decide +kernel
theorem dX8_patch_83 : decode cX8_patch 83 = .ok (.iload_n 1, 1) := by decide +kernel
theorem dX8_patch_84 : decode cX8_patch 84 = .ok (.ifCond .ne 8, 3) := by decide +kernel
theorem dX8_patch_87 : decode cX8_patch 87 = .ok (.iload 4, 2) := by decide +kernel
theorem dX8_patch_89 : decode cX8_patch 89 = .ok (.goto 4, 3) := by decide +kernel
theorem dX8_patch_92 : decode cX8_patch 92 = .ok (.iload_n 3, 1) := by decide +kernel
theorem dX8_patch_93 : decode cX8_patch 93 = .ok (.ireturn, 1) := by decide +kernel
theorem dX8_seen_0 : decode cX8_seen 0 = .ok (.iload_n 1, 1) := by decide +kernel
theorem dX8_seen_1 : decode cX8_seen 1 = .ok (.sipush 256, 3) := by decide +kernel
theorem dX8_seen_4 : decode cX8_seen 4 = .ok (.invokestatic 59, 3) := by decide +kernel
theorem dX8_seen_7 : decode cX8_seen 7 = .ok (.ifCond .eq 13, 3) := by decide +kernel
theorem dX8_seen_10 : decode cX8_seen 10 = .ok (.iload_n 2, 1) := by decide +kernel
theorem dX8_seen_11 : decode cX8_seen 11 = .ok (.sipush 256, 3) := by decide +kernel
theorem dX8_seen_14 : decode cX8_seen 14 = .ok (.invokestatic 59, 3) := by decide +kernel
theorem dX8_seen_17 : decode cX8_seen 17 = .ok (.ifCond .ne 6, 3) := by decide +kernel
theorem dX8_seen_20 : decode cX8_seen 20 = .ok (.bipush (-2), 2) := by decide +kernel
theorem dX8_seen_22 : decode cX8_seen 22 = .ok (.ireturn, 1) := by decide +kernel
theorem dX8_seen_23 : decode cX8_seen 23 = .ok (.aload_n 0, 1) := by decide +kernel
theorem dX8_seen_24 : decode cX8_seen 24 = .ok (.getfield 10, 3) := by decide +kernel
theorem dX8_seen_27 : decode cX8_seen 27 = .ok (.getfield 188, 3) := by decide +kernel
theorem dX8_seen_30 : decode cX8_seen 30 = .ok (.bipush 8, 2) := by decide +kernel
theorem dX8_seen_32 : decode cX8_seen 32 = .ok (.if_icmp .lt 6, 3) := by decide +kernel
theorem dX8_seen_35 : decode cX8_seen 35 = .ok (.bipush (-4), 2) := by decide +kernel
theorem dX8_seen_37 : decode cX8_seen 37 = .ok (.ireturn, 1) := by decide +kernel
theorem dX8_seen_38 : decode cX8_seen 38 = .ok (.aload_n 0, 1) := by decide +kernel
theorem dX8_seen_39 : decode cX8_seen 39 = .ok (.getfield 10, 3) := by decide +kernel
theorem dX8_seen_42 : decode cX8_seen 42 = .ok (.iload_n 1, 1) := by decide +kernel
theorem dX8_seen_43 : decode cX8_seen 43 = .ok (.iload_n 2, 1) := by decide +kernel
theorem dX8_seen_44 : decode cX8_seen 44 = .ok (.invokevirtual 191, 3) := by decide +kernel
theorem dX8_seen_47 : decode cX8_seen 47 = .ok (.aload_n 0, 1) := by decide +kernel
theorem dX8_seen_48 : decode cX8_seen 48 = .ok (.getfield 10, 3) := by decide +kernel
theorem dX8_seen_51 : decode cX8_seen 51 = .ok (.getfield 188, 3) := by decide +kernel
theorem dX8_seen_54 : decode cX8_seen 54 = .ok (.ireturn, 1) := by decide +kernel
theorem dX8_forget_0 : decode cX8_forget 0 = .ok (.aload_n 0, 1) := by decide +kernel
theorem dX8_forget_1 : decode cX8_forget 1 = .ok (.getfield 10, 3) := by decide +kernel
theorem dX8_forget_4 : decode cX8_forget 4 = .ok (.getfield 188, 3) := by decide +kernel
theorem dX8_forget_7 : decode cX8_forget 7 = .ok (.istore_n 1, 1) := by decide +kernel
theorem dX8_forget_8 : decode cX8_forget 8 = .ok (.aload_n 0, 1) := by decide +kernel
theorem dX8_forget_9 : decode cX8_forget 9 = .ok (.getfield 10, 3) := by decide +kernel
theorem dX8_forget_12 : decode cX8_forget 12 = .ok (.iconst 0, 1) := by decide +kernel
theorem dX8_forget_13 : decode cX8_forget 13 = .ok (.putfield 188, 3) := by decide +kernel
theorem dX8_forget_16 : decode cX8_forget 16 = .ok (.aload_n 0, 1) := by decide +kernel
theorem dX8_forget_17 : decode cX8_forget 17 = .ok (.getfield 10, 3) := by decide +kernel
theorem dX8_forget_20 : decode cX8_forget 20 = .ok (.iconst 0, 1) := by decide +kernel
theorem dX8_forget_21 : decode cX8_forget 21 = .ok (.putfield 195, 3) := by decide +kernel
theorem dX8_forget_24 : decode cX8_forget 24 = .ok (.aload_n 0, 1) := by decide +kernel
theorem dX8_forget_25 : decode cX8_forget 25 = .ok (.getfield 10, 3) := by decide +kernel
theorem dX8_forget_28 : decode cX8_forget 28 = .ok (.iconst 0, 1) := by decide +kernel
theorem dX8_forget_29 : decode cX8_forget 29 = .ok (.putfield 198, 3) := by decide +kernel
theorem dX8_forget_32 : decode cX8_forget 32 = .ok (.iload_n 1, 1) := by decide +kernel
theorem dX8_forget_33 : decode cX8_forget 33 = .ok (.ireturn, 1) := by decide +kernel
theorem dX8_laws_0 : decode cX8_laws 0 = .ok (.iconst 0, 1) := by decide +kernel
theorem dX8_laws_1 : decode cX8_laws 1 = .ok (.istore_n 2, 1) := by decide +kernel
theorem dX8_laws_2 : decode cX8_laws 2 = .ok (.iconst 0, 1) := by decide +kernel
theorem dX8_laws_3 : decode cX8_laws 3 = .ok (.istore_n 3, 1) := by decide +kernel
theorem dX8_laws_4 : decode cX8_laws 4 = .ok (.iload_n 3, 1) := by decide +kernel
theorem dX8_laws_5 : decode cX8_laws 5 = .ok (.sipush 256, 3) := by decide +kernel
theorem dX8_laws_8 : decode cX8_laws 8 = .ok (.if_icmp .ge 30, 3) := by decide +kernel
theorem dX8_laws_11 : decode cX8_laws 11 = .ok (.aload_n 0, 1) := by decide +kernel
theorem dX8_laws_12 : decode cX8_laws 12 = .ok (.getfield 10, 3) := by decide +kernel
theorem dX8_laws_15 : decode cX8_laws 15 = .ok (.iload_n 3, 1) := by decide +kernel
theorem dX8_laws_16 : decode cX8_laws 16 = .ok (.invokevirtual 201, 3) := by decide +kernel
theorem dX8_laws_19 : decode cX8_laws 19 = .ok (.ifCond .eq 13, 3) := by decide +kernel
theorem dX8_laws_22 : decode cX8_laws 22 = .ok (.iload_n 2, 1) := by decide +kernel
theorem dX8_laws_23 : decode cX8_laws 23 = .ok (.iload_n 1, 1) := by decide +kernel
theorem dX8_laws_24 : decode cX8_laws 24 = .ok (.if_icmp .ne 5, 3) := by decide +kernel
theorem dX8_laws_27 : decode cX8_laws 27 = .ok (.iload_n 3, 1) := by decide +kernel
theorem dX8_laws_28 : decode cX8_laws 28 = .ok (.ireturn, 1) := by decide +kernel
theorem dX8_laws_29 : decode cX8_laws 29 = .ok (.iinc 2 1, 3) := by decide +kernel
theorem dX8_laws_32 : decode cX8_laws 32 = .ok (.iinc 3 1, 3) := by decide +kernel
theorem dX8_laws_35 : decode cX8_laws 35 = .ok (.goto (-31), 3) := by decide +kernel
theorem dX8_laws_38 : decode cX8_laws 38 = .ok (.iload_n 1, 1) := by decide +kernel
theorem dX8_laws_39 : decode cX8_laws 39 = .ok (.iconst (-1), 1) := by decide +kernel
theorem dX8_laws_40 : decode cX8_laws 40 = .ok (.if_icmp .ne 7, 3) := by decide +kernel
theorem dX8_laws_43 : decode cX8_laws 43 = .ok (.iload_n 2, 1) := by decide +kernel
theorem dX8_laws_44 : decode cX8_laws 44 = .ok (.goto 5, 3) := by decide +kernel
theorem dX8_laws_47 : decode cX8_laws 47 = .ok (.bipush (-6), 2) := by decide +kernel
theorem dX8_laws_49 : decode cX8_laws 49 = .ok (.ireturn, 1) := by decide +kernel
theorem dX8_look_0 : decode cX8_look 0 = .ok (.iload_n 1, 1) := by decide +kernel
theorem dX8_look_1 : decode cX8_look 1 = .ok (.iconst 2, 1) := by decide +kernel
theorem dX8_look_2 : decode cX8_look 2 = .ok (.invokestatic 59, 3) := by decide +kernel
theorem dX8_look_5 : decode cX8_look 5 = .ok (.ifCond .ne 6, 3) := by decide +kernel
theorem dX8_look_8 : decode cX8_look 8 = .ok (.bipush (-2), 2) := by decide +kernel
theorem dX8_look_10 : decode cX8_look 10 = .ok (.ireturn, 1) := by decide +kernel
theorem dX8_look_11 : decode cX8_look 11 = .ok (.aload_n 0, 1) := by decide +kernel
theorem dX8_look_12 : decode cX8_look 12 = .ok (.getfield 10, 3) := by decide +kernel
theorem dX8_look_15 : decode cX8_look 15 = .ok (.getfield 195, 3) := by decide +kernel
theorem dX8_look_18 : decode cX8_look 18 = .ok (.aload_n 0, 1) := by decide +kernel
theorem dX8_look_19 : decode cX8_look 19 = .ok (.getfield 10, 3) := by decide +kernel
theorem dX8_look_22 : decode cX8_look 22 = .ok (.getfield 198, 3) := by decide +kernel
theorem dX8_look_25 : decode cX8_look 25 = .ok (.iand, 1) := by decide +kernel
theorem dX8_look_26 : decode cX8_look 26 = .ok (.ifCond .eq 6, 3) := by decide +kernel
theorem dX8_look_29 : decode cX8_look 29 = .ok (.bipush (-6), 2) := by decide +kernel
theorem dX8_look_31 : decode cX8_look 31 = .ok (.ireturn, 1) := by decide +kernel
theorem dX8_look_32 : decode cX8_look 32 = .ok (.iconst 0, 1) := by decide +kernel
theorem dX8_look_33 : decode cX8_look 33 = .ok (.istore_n 2, 1) := by decide +kernel
theorem dX8_look_34 : decode cX8_look 34 = .ok (.sipush 257, 3) := by decide +kernel
theorem dX8_look_37 : decode cX8_look 37 = .ok (.istore_n 3, 1) := by decide +kernel
theorem dX8_look_38 : decode cX8_look 38 = .ok (.iconst 0, 1) := by decide +kernel
theorem dX8_look_39 : decode cX8_look 39 = .ok (.istore 4, 2) := by decide +kernel
theorem dX8_look_41 : decode cX8_look 41 = .ok (.iload 4, 2) := by decide +kernel
theorem dX8_look_43 : decode cX8_look 43 = .ok (.sipush 256, 3) := by decide +kernel
theorem dX8_look_46 : decode cX8_look 46 = .ok (.if_icmp .ge 32, 3) := by decide +kernel
theorem dX8_look_49 : decode cX8_look 49 = .ok (.aload_n 0, 1) := by decide +kernel
theorem dX8_look_50 : decode cX8_look 50 = .ok (.getfield 10, 3) := by decide +kernel
theorem dX8_look_53 : decode cX8_look 53 = .ok (.iload 4, 2) := by decide +kernel
theorem dX8_look_55 : decode cX8_look 55 = .ok (.invokevirtual 204, 3) := by decide +kernel
theorem dX8_look_58 : decode cX8_look 58 = .ok (.istore 5, 2) := by decide +kernel
theorem dX8_look_60 : decode cX8_look 60 = .ok (.iload 5, 2) := by decide +kernel
theorem dX8_look_62 : decode cX8_look 62 = .ok (.iload_n 3, 1) := by decide +kernel
theorem dX8_look_63 : decode cX8_look 63 = .ok (.if_icmp .ge 9, 3) := by decide +kernel
theorem dX8_look_66 : decode cX8_look 66 = .ok (.iload 5, 2) := by decide +kernel
theorem dX8_look_68 : decode cX8_look 68 = .ok (.istore_n 3, 1) := by decide +kernel
theorem dX8_look_69 : decode cX8_look 69 = .ok (.iload 4, 2) := by decide +kernel
theorem dX8_look_71 : decode cX8_look 71 = .ok (.istore_n 2, 1) := by decide +kernel
theorem dX8_look_72 : decode cX8_look 72 = .ok (.iinc 4 1, 3) := by decide +kernel
theorem dX8_look_75 : decode cX8_look 75 = .ok (.goto (-34), 3) := by decide +kernel
theorem dX8_look_78 : decode cX8_look 78 = .ok (.iload_n 1, 1) := by decide +kernel
theorem dX8_look_79 : decode cX8_look 79 = .ok (.ifCond .ne 7, 3) := by decide +kernel
theorem dX8_look_82 : decode cX8_look 82 = .ok (.iload_n 2, 1) := by decide +kernel
theorem dX8_look_83 : decode cX8_look 83 = .ok (.goto 4, 3) := by decide +kernel
theorem dX8_look_86 : decode cX8_look 86 = .ok (.iload_n 3, 1) := by decide +kernel
theorem dX8_look_87 : decode cX8_look 87 = .ok (.ireturn, 1) := by decide +kernel
theorem dX8_gusts_0 : decode cX8_gusts 0 = .ok (.iload_n 1, 1) := by decide +kernel
theorem dX8_gusts_1 : decode cX8_gusts 1 = .ok (.bipush 16, 2) := by decide +kernel
theorem dX8_gusts_3 : decode cX8_gusts 3 = .ok (.invokestatic 59, 3) := by decide +kernel
theorem dX8_gusts_6 : decode cX8_gusts 6 = .ok (.ifCond .eq 69, 3) := by decide +kernel
theorem dX8_gusts_9 : decode cX8_gusts 9 = .ok (.iload_n 2, 1) := by decide +kernel
theorem dX8_gusts_10 : decode cX8_gusts 10 = .ok (.bipush 7, 2) := by decide +kernel
theorem dX8_gusts_12 : decode cX8_gusts 12 = .ok (.invokestatic 59, 3) := by decide +kernel
theorem dX8_gusts_15 : decode cX8_gusts 15 = .ok (.ifCond .eq 60, 3) := by decide +kernel
theorem dX8_gusts_18 : decode cX8_gusts 18 = .ok (.iload_n 3, 1) := by decide +kernel
theorem dX8_gusts_19 : decode cX8_gusts 19 = .ok (.bipush 11, 2) := by decide +kernel
theorem dX8_gusts_21 : decode cX8_gusts 21 = .ok (.invokestatic 59, 3) := by decide +kernel
theorem dX8_gusts_24 : decode cX8_gusts 24 = .ok (.ifCond .eq 51, 3) := by decide +kernel
theorem dX8_gusts_27 : decode cX8_gusts 27 = .ok (.iload 4, 2) := by decide +kernel
theorem dX8_gusts_29 : decode cX8_gusts 29 = .ok (.bipush 11, 2) := by decide +kernel
theorem dX8_gusts_31 : decode cX8_gusts 31 = .ok (.invokestatic 59, 3) := by decide +kernel
theorem dX8_gusts_34 : decode cX8_gusts 34 = .ok (.ifCond .eq 41, 3) := by decide +kernel
theorem dX8_gusts_37 : decode cX8_gusts 37 = .ok (.iload_n 3, 1) := by decide +kernel
theorem dX8_gusts_38 : decode cX8_gusts 38 = .ok (.iload 4, 2) := by decide +kernel
theorem dX8_gusts_40 : decode cX8_gusts 40 = .ok (.iadd, 1) := by decide +kernel
theorem dX8_gusts_41 : decode cX8_gusts 41 = .ok (.bipush 10, 2) := by decide +kernel
theorem dX8_gusts_43 : decode cX8_gusts 43 = .ok (.if_icmp .gt 32, 3) := by decide +kernel
theorem dX8_gusts_46 : decode cX8_gusts 46 = .ok (.iload 5, 2) := by decide +kernel
theorem dX8_gusts_48 : decode cX8_gusts 48 = .ok (.iconst (-1), 1) := by decide +kernel
theorem dX8_gusts_49 : decode cX8_gusts 49 = .ok (.if_icmp .eq 13, 3) := by decide +kernel
theorem dX8_gusts_52 : decode cX8_gusts 52 = .ok (.iload 5, 2) := by decide +kernel
theorem dX8_gusts_54 : decode cX8_gusts 54 = .ok (.bipush 16, 2) := by decide +kernel
theorem dX8_gusts_56 : decode cX8_gusts 56 = .ok (.invokestatic 59, 3) := by decide +kernel
theorem dX8_gusts_59 : decode cX8_gusts 59 = .ok (.ifCond .eq 16, 3) := by decide +kernel
theorem dX8_gusts_62 : decode cX8_gusts 62 = .ok (.iload 6, 2) := by decide +kernel
theorem dX8_gusts_64 : decode cX8_gusts 64 = .ok (.iconst 2, 1) := by decide +kernel
theorem dX8_gusts_65 : decode cX8_gusts 65 = .ok (.invokestatic 59, 3) := by decide +kernel
theorem dX8_gusts_68 : decode cX8_gusts 68 = .ok (.ifCond .eq 7, 3) := by decide +kernel
theorem dX8_gusts_71 : decode cX8_gusts 71 = .ok (.iconst 1, 1) := by decide +kernel
theorem dX8_gusts_72 : decode cX8_gusts 72 = .ok (.goto 4, 3) := by decide +kernel
theorem dX8_gusts_75 : decode cX8_gusts 75 = .ok (.iconst 0, 1) := by decide +kernel
theorem dX8_gusts_76 : decode cX8_gusts 76 = .ok (.istore 7, 2) := by decide +kernel
theorem dX8_gusts_78 : decode cX8_gusts 78 = .ok (.iload 7, 2) := by decide +kernel
theorem dX8_gusts_80 : decode cX8_gusts 80 = .ok (.ifCond .ne 7, 3) := by decide +kernel
theorem dX8_gusts_83 : decode cX8_gusts 83 = .ok (.ldc2_w 207, 3) := by decide +kernel
theorem dX8_gusts_86 : decode cX8_gusts 86 = .ok (.lreturn, 1) := by decide +kernel
theorem dX8_gusts_87 : decode cX8_gusts 87 = .ok (.aload_n 0, 1) := by decide +kernel
theorem dX8_gusts_88 : decode cX8_gusts 88 = .ok (.getfield 48, 3) := by decide +kernel
theorem dX8_gusts_91 : decode cX8_gusts 91 = .ok (.iload_n 1, 1) := by decide +kernel
theorem dX8_gusts_92 : decode cX8_gusts 92 = .ok (.iload_n 2, 1) := by decide +kernel
theorem dX8_gusts_93 : decode cX8_gusts 93 = .ok (.iload_n 3, 1) := by decide +kernel
theorem dX8_gusts_94 : decode cX8_gusts 94 = .ok (.iload 4, 2) := by decide +kernel
theorem dX8_gusts_96 : decode cX8_gusts 96 = .ok (.invokevirtual 209, 3) := by decide +kernel
theorem dX8_gusts_99 : decode cX8_gusts 99 = .ok (.aload_n 0, 1) := by decide +kernel
theorem dX8_gusts_100 : decode cX8_gusts 100 = .ok (.getfield 48, 3) := by decide +kernel
theorem dX8_gusts_103 : decode cX8_gusts 103 = .ok (.iload 5, 2) := by decide +kernel
theorem dX8_gusts_105 : decode cX8_gusts 105 = .ok (.iload_n 2, 1) := by decide +kernel
theorem dX8_gusts_106 : decode cX8_gusts 106 = .ok (.iload 6, 2) := by decide +kernel
theorem dX8_gusts_108 : decode cX8_gusts 108 = .ok (.invokevirtual 213, 3) := by decide +kernel
theorem dX8_gusts_111 : decode cX8_gusts 111 = .ok (.lreturn, 1) := by decide +kernel
theorem dX8_spoon_0 : decode cX8_spoon 0 = .ok (.iload_n 1, 1) := by decide +kernel
theorem dX8_spoon_1 : decode cX8_spoon 1 = .ok (.bipush 61, 2) := by decide +kernel
theorem dX8_spoon_3 : decode cX8_spoon 3 = .ok (.invokestatic 59, 3) := by decide +kernel
theorem dX8_spoon_6 : decode cX8_spoon 6 = .ok (.ifCond .eq 11, 3) := by decide +kernel
theorem dX8_spoon_9 : decode cX8_spoon 9 = .ok (.iload_n 2, 1) := by decide +kernel
theorem dX8_spoon_10 : decode cX8_spoon 10 = .ok (.iconst 2, 1) := by decide +kernel
theorem dX8_spoon_11 : decode cX8_spoon 11 = .ok (.invokestatic 59, 3) := by decide +kernel
theorem dX8_spoon_14 : decode cX8_spoon 14 = .ok (.ifCond .ne 6, 3) := by decide +kernel
theorem dX8_spoon_17 : decode cX8_spoon 17 = .ok (.bipush (-2), 2) := by decide +kernel
theorem dX8_spoon_19 : decode cX8_spoon 19 = .ok (.ireturn, 1) := by decide +kernel
theorem dX8_spoon_20 : decode cX8_spoon 20 = .ok (.aload_n 0, 1) := by decide +kernel
theorem dX8_spoon_21 : decode cX8_spoon 21 = .ok (.getfield 55, 3) := by decide +kernel
theorem dX8_spoon_24 : decode cX8_spoon 24 = .ok (.iload_n 1, 1) := by decide +kernel
theorem dX8_spoon_25 : decode cX8_spoon 25 = .ok (.iconst 0, 1) := by decide +kernel
theorem dX8_spoon_26 : decode cX8_spoon 26 = .ok (.invokevirtual 217, 3) := by decide +kernel
theorem dX8_spoon_29 : decode cX8_spoon 29 = .ok (.istore_n 3, 1) := by decide +kernel
theorem dX8_spoon_30 : decode cX8_spoon 30 = .ok (.iload_n 2, 1) := by decide +kernel
theorem dX8_spoon_31 : decode cX8_spoon 31 = .ok (.ifCond .ne 15, 3) := by decide +kernel
theorem dX8_spoon_34 : decode cX8_spoon 34 = .ok (.iload_n 3, 1) := by decide +kernel
theorem dX8_spoon_35 : decode cX8_spoon 35 = .ok (.bipush (-6), 2) := by decide +kernel
theorem dX8_spoon_37 : decode cX8_spoon 37 = .ok (.if_icmp .ne 7, 3) := by decide +kernel
theorem dX8_spoon_40 : decode cX8_spoon 40 = .ok (.iconst 0, 1) := by decide +kernel
theorem dX8_spoon_41 : decode cX8_spoon 41 = .ok (.goto 4, 3) := by decide +kernel
theorem dX8_spoon_44 : decode cX8_spoon 44 = .ok (.iconst 1, 1) := by decide +kernel
theorem dX8_spoon_45 : decode cX8_spoon 45 = .ok (.ireturn, 1) := by decide +kernel
theorem dX8_spoon_46 : decode cX8_spoon 46 = .ok (.iload_n 3, 1) := by decide +kernel
theorem dX8_spoon_47 : decode cX8_spoon 47 = .ok (.ireturn, 1) := by decide +kernel
theorem dX8_year_0 : decode cX8_year 0 = .ok (.iload_n 1, 1) := by decide +kernel
theorem dX8_year_1 : decode cX8_year 1 = .ok (.sipush 10000, 3) := by decide +kernel
theorem dX8_year_4 : decode cX8_year 4 = .ok (.invokestatic 59, 3) := by decide +kernel
theorem dX8_year_7 : decode cX8_year 7 = .ok (.ifCond .eq 22, 3) := by decide +kernel
theorem dX8_year_10 : decode cX8_year 10 = .ok (.iload_n 2, 1) := by decide +kernel
theorem dX8_year_11 : decode cX8_year 11 = .ok (.iconst 1, 1) := by decide +kernel
theorem dX8_year_12 : decode cX8_year 12 = .ok (.if_icmp .lt 17, 3) := by decide +kernel
theorem dX8_year_15 : decode cX8_year 15 = .ok (.iload_n 2, 1) := by decide +kernel
theorem dX8_year_16 : decode cX8_year 16 = .ok (.bipush 99, 2) := by decide +kernel
theorem dX8_year_18 : decode cX8_year 18 = .ok (.if_icmp .gt 11, 3) := by decide +kernel
theorem dX8_year_21 : decode cX8_year 21 = .ok (.iload_n 3, 1) := by decide +kernel
theorem dX8_year_22 : decode cX8_year 22 = .ok (.iconst 3, 1) := by decide +kernel
theorem dX8_year_23 : decode cX8_year 23 = .ok (.invokestatic 59, 3) := by decide +kernel
theorem dX8_year_26 : decode cX8_year 26 = .ok (.ifCond .ne 6, 3) := by decide +kernel
theorem dX8_year_29 : decode cX8_year 29 = .ok (.bipush (-2), 2) := by decide +kernel
theorem dX8_year_31 : decode cX8_year 31 = .ok (.ireturn, 1) := by decide +kernel
theorem dX8_year_32 : decode cX8_year 32 = .ok (.aload_n 0, 1) := by decide +kernel
theorem dX8_year_33 : decode cX8_year 33 = .ok (.getfield 34, 3) := by decide +kernel
theorem dX8_year_36 : decode cX8_year 36 = .ok (.aload_n 0, 1) := by decide +kernel
theorem dX8_year_37 : decode cX8_year 37 = .ok (.getfield 10, 3) := by decide +kernel
theorem dX8_year_40 : decode cX8_year 40 = .ok (.iload_n 1, 1) := by decide +kernel
theorem dX8_year_41 : decode cX8_year 41 = .ok (.iload_n 2, 1) := by decide +kernel
theorem dX8_year_42 : decode cX8_year 42 = .ok (.invokevirtual 220, 3) := by decide +kernel
theorem dX8_year_45 : decode cX8_year 45 = .ok (.iload_n 3, 1) := by decide +kernel
theorem dX8_year_46 : decode cX8_year 46 = .ok (.lookupswitch 54 #[(0, 26), (1, 40)], 26) := by decide +kernel
theorem dX8_year_72 : decode cX8_year 72 = .ok (.aload_n 0, 1) := by decide +kernel
theorem dX8_year_73 : decode cX8_year 73 = .ok (.getfield 34, 3) := by decide +kernel
theorem dX8_year_76 : decode cX8_year 76 = .ok (.getfield 119, 3) := by decide +kernel
theorem dX8_year_79 : decode cX8_year 79 = .ok (.invokevirtual 141, 3) := by decide +kernel
theorem dX8_year_82 : decode cX8_year 82 = .ok (.invokestatic 70, 3) := by decide +kernel
theorem dX8_year_85 : decode cX8_year 85 = .ok (.ireturn, 1) := by decide +kernel
theorem dX8_year_86 : decode cX8_year 86 = .ok (.aload_n 0, 1) := by decide +kernel
theorem dX8_year_87 : decode cX8_year 87 = .ok (.getfield 34, 3) := by decide +kernel
theorem dX8_year_90 : decode cX8_year 90 = .ok (.getfield 119, 3) := by decide +kernel
theorem dX8_year_93 : decode cX8_year 93 = .ok (.invokevirtual 147, 3) := by decide +kernel
theorem dX8_year_96 : decode cX8_year 96 = .ok (.invokestatic 70, 3) := by decide +kernel
theorem dX8_year_99 : decode cX8_year 99 = .ok (.ireturn, 1) := by decide +kernel
theorem dX8_year_100 : decode cX8_year 100 = .ok (.aload_n 0, 1) := by decide +kernel
theorem dX8_year_101 : decode cX8_year 101 = .ok (.getfield 34, 3) := by decide +kernel
theorem dX8_year_104 : decode cX8_year 104 = .ok (.getfield 119, 3) := by decide +kernel
theorem dX8_year_107 : decode cX8_year 107 = .ok (.invokevirtual 224, 3) := by decide +kernel
theorem dX8_year_110 : decode cX8_year 110 = .ok (.invokestatic 70, 3) := by decide +kernel
theorem dX8_year_113 : decode cX8_year 113 = .ok (.ireturn, 1) := by decide +kernel
theorem dX8_image_0 : decode cX8_image 0 = .ok (.iload_n 1, 1) := by decide +kernel
theorem dX8_image_1 : decode cX8_image 1 = .ok (.iconst 2, 1) := by decide +kernel
theorem dX8_image_2 : decode cX8_image 2 = .ok (.invokestatic 59, 3) := by decide +kernel
theorem dX8_image_5 : decode cX8_image 5 = .ok (.ifCond .ne 6, 3) := by decide +kernel
theorem dX8_image_8 : decode cX8_image 8 = .ok (.bipush (-2), 2) := by decide +kernel
theorem dX8_image_10 : decode cX8_image 10 = .ok (.ireturn, 1) := by decide +kernel
theorem dX8_image_11 : decode cX8_image 11 = .ok (.aload_n 0, 1) := by decide +kernel
theorem dX8_image_12 : decode cX8_image 12 = .ok (.getfield 16, 3) := by decide +kernel
theorem dX8_image_15 : decode cX8_image 15 = .ok (.iload_n 1, 1) := by decide +kernel
theorem dX8_image_16 : decode cX8_image 16 = .ok (.aaload, 1) := by decide +kernel
theorem dX8_image_17 : decode cX8_image 17 = .ok (.aload_n 0, 1) := by decide +kernel
theorem dX8_image_18 : decode cX8_image 18 = .ok (.getfield 10, 3) := by decide +kernel
theorem dX8_image_21 : decode cX8_image 21 = .ok (.invokevirtual 150, 3) := by decide +kernel
theorem dX8_image_24 : decode cX8_image 24 = .ok (.aload_n 0, 1) := by decide +kernel
theorem dX8_image_25 : decode cX8_image 25 = .ok (.dup, 1) := by decide +kernel
theorem dX8_image_26 : decode cX8_image 26 = .ok (.getfield 20, 3) := by decide +kernel
theorem dX8_image_29 : decode cX8_image 29 = .ok (.iconst 1, 1) := by decide +kernel
theorem dX8_image_30 : decode cX8_image 30 = .ok (.iload_n 1, 1) := by decide +kernel
theorem dX8_image_31 : decode cX8_image 31 = .ok (.ishl, 1) := by decide +kernel
theorem dX8_image_32 : decode cX8_image 32 = .ok (.ior, 1) := by decide +kernel
theorem dX8_image_33 : decode cX8_image 33 = .ok (.putfield 20, 3) := by decide +kernel
theorem dX8_image_36 : decode cX8_image 36 = .ok (.iconst 1, 1) := by decide +kernel
theorem dX8_image_37 : decode cX8_image 37 = .ok (.ireturn, 1) := by decide +kernel
theorem dX8_restore_0 : decode cX8_restore 0 = .ok (.iload_n 1, 1) := by decide +kernel
theorem dX8_restore_1 : decode cX8_restore 1 = .ok (.iconst 2, 1) := by decide +kernel
theorem dX8_restore_2 : decode cX8_restore 2 = .ok (.invokestatic 59, 3) := by decide +kernel
theorem dX8_restore_5 : decode cX8_restore 5 = .ok (.ifCond .ne 6, 3) := by decide +kernel
theorem dX8_restore_8 : decode cX8_restore 8 = .ok (.bipush (-2), 2) := by decide +kernel
theorem dX8_restore_10 : decode cX8_restore 10 = .ok (.ireturn, 1) := by decide +kernel
theorem dX8_restore_11 : decode cX8_restore 11 = .ok (.aload_n 0, 1) := by decide +kernel
theorem dX8_restore_12 : decode cX8_restore 12 = .ok (.getfield 20, 3) := by decide +kernel
theorem dX8_restore_15 : decode cX8_restore 15 = .ok (.iload_n 1, 1) := by decide +kernel
theorem dX8_restore_16 : decode cX8_restore 16 = .ok (.invokestatic 134, 3) := by decide +kernel
theorem dX8_restore_19 : decode cX8_restore 19 = .ok (.ifCond .ne 6, 3) := by decide +kernel
theorem dX8_restore_22 : decode cX8_restore 22 = .ok (.bipush (-3), 2) := by decide +kernel
theorem dX8_restore_24 : decode cX8_restore 24 = .ok (.ireturn, 1) := by decide +kernel
theorem dX8_restore_25 : decode cX8_restore 25 = .ok (.aload_n 0, 1) := by decide +kernel
theorem dX8_restore_26 : decode cX8_restore 26 = .ok (.getfield 10, 3) := by decide +kernel
theorem dX8_restore_29 : decode cX8_restore 29 = .ok (.aload_n 0, 1) := by decide +kernel
theorem dX8_restore_30 : decode cX8_restore 30 = .ok (.getfield 16, 3) := by decide +kernel
theorem dX8_restore_33 : decode cX8_restore 33 = .ok (.iload_n 1, 1) := by decide +kernel
theorem dX8_restore_34 : decode cX8_restore 34 = .ok (.aaload, 1) := by decide +kernel
theorem dX8_restore_35 : decode cX8_restore 35 = .ok (.invokevirtual 150, 3) := by decide +kernel
theorem dX8_restore_38 : decode cX8_restore 38 = .ok (.iconst 1, 1) := by decide +kernel
theorem dX8_restore_39 : decode cX8_restore 39 = .ok (.ireturn, 1) := by decide +kernel
theorem dX8_told_0 : decode cX8_told 0 = .ok (.iload_n 1, 1) := by decide +kernel
theorem dX8_told_1 : decode cX8_told 1 = .ok (.bipush 100, 2) := by decide +kernel
theorem dX8_told_3 : decode cX8_told 3 = .ok (.if_icmp .lt 19, 3) := by decide +kernel
theorem dX8_told_6 : decode cX8_told 6 = .ok (.aload_n 0, 1) := by decide +kernel
theorem dX8_told_7 : decode cX8_told 7 = .ok (.iload_n 1, 1) := by decide +kernel
theorem dX8_told_8 : decode cX8_told 8 = .ok (.bipush 10, 2) := by decide +kernel
theorem dX8_told_10 : decode cX8_told 10 = .ok (.idiv, 1) := by decide +kernel
theorem dX8_told_11 : decode cX8_told 11 = .ok (.bipush 10, 2) := by decide +kernel
theorem dX8_told_13 : decode cX8_told 13 = .ok (.isub, 1) := by decide +kernel
theorem dX8_told_14 : decode cX8_told 14 = .ok (.iload_n 1, 1) := by decide +kernel
theorem dX8_told_15 : decode cX8_told 15 = .ok (.bipush 10, 2) := by decide +kernel
theorem dX8_told_17 : decode cX8_told 17 = .ok (.irem, 1) := by decide +kernel
theorem dX8_told_18 : decode cX8_told 18 = .ok (.invokevirtual 227, 3) := by decide +kernel
theorem dX8_told_21 : decode cX8_told 21 = .ok (.ireturn, 1) := by decide +kernel
theorem dX8_told_22 : decode cX8_told 22 = .ok (.iload_n 1, 1) := by decide +kernel
theorem dX8_told_23 : decode cX8_told 23 = .ok (.bipush 10, 2) := by decide +kernel
theorem dX8_told_25 : decode cX8_told 25 = .ok (.if_icmp .lt 18, 3) := by decide +kernel
theorem dX8_told_28 : decode cX8_told 28 = .ok (.aload_n 0, 1) := by decide +kernel
theorem dX8_told_29 : decode cX8_told 29 = .ok (.iload_n 1, 1) := by decide +kernel
theorem dX8_told_30 : decode cX8_told 30 = .ok (.bipush 10, 2) := by decide +kernel
theorem dX8_told_32 : decode cX8_told 32 = .ok (.idiv, 1) := by decide +kernel
theorem dX8_told_33 : decode cX8_told 33 = .ok (.iconst 1, 1) := by decide +kernel
theorem dX8_told_34 : decode cX8_told 34 = .ok (.isub, 1) := by decide +kernel
theorem dX8_told_35 : decode cX8_told 35 = .ok (.iload_n 1, 1) := by decide +kernel
theorem dX8_told_36 : decode cX8_told 36 = .ok (.bipush 10, 2) := by decide +kernel
theorem dX8_told_38 : decode cX8_told 38 = .ok (.irem, 1) := by decide +kernel
theorem dX8_told_39 : decode cX8_told 39 = .ok (.invokevirtual 230, 3) := by decide +kernel
theorem dX8_told_42 : decode cX8_told 42 = .ok (.ireturn, 1) := by decide +kernel
theorem dX8_told_43 : decode cX8_told 43 = .ok (.iload_n 1, 1) := by decide +kernel
theorem dX8_told_44 : decode cX8_told 44 = .ok (.tableswitch 88 0 5 #[40, 48, 56, 64, 72, 80], 40) := by decide +kernel
theorem dX8_told_84 : decode cX8_told 84 = .ok (.aload_n 0, 1) := by decide +kernel
theorem dX8_told_85 : decode cX8_told 85 = .ok (.getfield 27, 3) := by decide +kernel
theorem dX8_told_88 : decode cX8_told 88 = .ok (.getfield 100, 3) := by decide +kernel
theorem dX8_told_91 : decode cX8_told 91 = .ok (.ireturn, 1) := by decide +kernel
theorem dX8_told_92 : decode cX8_told 92 = .ok (.aload_n 0, 1) := by decide +kernel
theorem dX8_told_93 : decode cX8_told 93 = .ok (.getfield 10, 3) := by decide +kernel
theorem dX8_told_96 : decode cX8_told 96 = .ok (.getfield 67, 3) := by decide +kernel
theorem dX8_told_99 : decode cX8_told 99 = .ok (.ireturn, 1) := by decide +kernel
theorem dX8_told_100 : decode cX8_told 100 = .ok (.aload_n 0, 1) := by decide +kernel
theorem dX8_told_101 : decode cX8_told 101 = .ok (.getfield 10, 3) := by decide +kernel
theorem dX8_told_104 : decode cX8_told 104 = .ok (.getfield 91, 3) := by decide +kernel
theorem dX8_told_107 : decode cX8_told 107 = .ok (.ireturn, 1) := by decide +kernel
theorem dX8_told_108 : decode cX8_told 108 = .ok (.aload_n 0, 1) := by decide +kernel
theorem dX8_told_109 : decode cX8_told 109 = .ok (.getfield 10, 3) := by decide +kernel
theorem dX8_told_112 : decode cX8_told 112 = .ok (.getfield 94, 3) := by decide +kernel
theorem dX8_told_115 : decode cX8_told 115 = .ok (.ireturn, 1) := by decide +kernel
theorem dX8_told_116 : decode cX8_told 116 = .ok (.aload_n 0, 1) := by decide +kernel
theorem dX8_told_117 : decode cX8_told 117 = .ok (.getfield 10, 3) := by decide +kernel
theorem dX8_told_120 : decode cX8_told 120 = .ok (.getfield 188, 3) := by decide +kernel
theorem dX8_told_123 : decode cX8_told 123 = .ok (.ireturn, 1) := by decide +kernel
theorem dX8_told_124 : decode cX8_told 124 = .ok (.aload_n 0, 1) := by decide +kernel
theorem dX8_told_125 : decode cX8_told 125 = .ok (.getfield 10, 3) := by decide +kernel
theorem dX8_told_128 : decode cX8_told 128 = .ok (.invokevirtual 147, 3) := by decide +kernel
theorem dX8_told_131 : decode cX8_told 131 = .ok (.ireturn, 1) := by decide +kernel
theorem dX8_told_132 : decode cX8_told 132 = .ok (.bipush (-2), 2) := by decide +kernel
theorem dX8_told_134 : decode cX8_told 134 = .ok (.ireturn, 1) := by decide +kernel
theorem dX8_toldOfFlake_0 : decode cX8_toldOfFlake 0 = .ok (.aload_n 0, 1) := by decide +kernel
theorem dX8_toldOfFlake_1 : decode cX8_toldOfFlake 1 = .ok (.getfield 10, 3) := by decide +kernel
theorem dX8_toldOfFlake_4 : decode cX8_toldOfFlake 4 = .ok (.iload_n 1, 1) := by decide +kernel
theorem dX8_toldOfFlake_5 : decode cX8_toldOfFlake 5 = .ok (.invokevirtual 76, 3) := by decide +kernel
theorem dX8_toldOfFlake_8 : decode cX8_toldOfFlake 8 = .ok (.ifCond .ne 6, 3) := by decide +kernel
theorem dX8_toldOfFlake_11 : decode cX8_toldOfFlake 11 = .ok (.bipush (-2), 2) := by decide +kernel
theorem dX8_toldOfFlake_13 : decode cX8_toldOfFlake 13 = .ok (.ireturn, 1) := by decide +kernel
theorem dX8_toldOfFlake_14 : decode cX8_toldOfFlake 14 = .ok (.iload_n 2, 1) := by decide +kernel
theorem dX8_toldOfFlake_15 : decode cX8_toldOfFlake 15 = .ok (.tableswitch 83 0 4 #[33, 43, 53, 63, 73], 33) := by decide +kernel
theorem dX8_toldOfFlake_48 : decode cX8_toldOfFlake 48 = .ok (.aload_n 0, 1) := by decide +kernel
theorem dX8_toldOfFlake_49 : decode cX8_toldOfFlake 49 = .ok (.getfield 10, 3) := by decide +kernel
theorem dX8_toldOfFlake_52 : decode cX8_toldOfFlake 52 = .ok (.getfield 122, 3) := by decide +kernel
theorem dX8_toldOfFlake_55 : decode cX8_toldOfFlake 55 = .ok (.iload_n 1, 1) := by decide +kernel
theorem dX8_toldOfFlake_56 : decode cX8_toldOfFlake 56 = .ok (.iaload, 1) := by decide +kernel
theorem dX8_toldOfFlake_57 : decode cX8_toldOfFlake 57 = .ok (.ireturn, 1) := by decide +kernel
theorem dX8_toldOfFlake_58 : decode cX8_toldOfFlake 58 = .ok (.aload_n 0, 1) := by decide +kernel
theorem dX8_toldOfFlake_59 : decode cX8_toldOfFlake 59 = .ok (.getfield 10, 3) := by decide +kernel
theorem dX8_toldOfFlake_62 : decode cX8_toldOfFlake 62 = .ok (.getfield 125, 3) := by decide +kernel
theorem dX8_toldOfFlake_65 : decode cX8_toldOfFlake 65 = .ok (.iload_n 1, 1) := by decide +kernel
theorem dX8_toldOfFlake_66 : decode cX8_toldOfFlake 66 = .ok (.iaload, 1) := by decide +kernel
theorem dX8_toldOfFlake_67 : decode cX8_toldOfFlake 67 = .ok (.ireturn, 1) := by decide +kernel
theorem dX8_toldOfFlake_68 : decode cX8_toldOfFlake 68 = .ok (.aload_n 0, 1) := by decide +kernel
theorem dX8_toldOfFlake_69 : decode cX8_toldOfFlake 69 = .ok (.getfield 10, 3) := by decide +kernel
theorem dX8_toldOfFlake_72 : decode cX8_toldOfFlake 72 = .ok (.getfield 128, 3) := by decide +kernel
theorem dX8_toldOfFlake_75 : decode cX8_toldOfFlake 75 = .ok (.iload_n 1, 1) := by decide +kernel
theorem dX8_toldOfFlake_76 : decode cX8_toldOfFlake 76 = .ok (.iaload, 1) := by decide +kernel
theorem dX8_toldOfFlake_77 : decode cX8_toldOfFlake 77 = .ok (.ireturn, 1) := by decide +kernel
theorem dX8_toldOfFlake_78 : decode cX8_toldOfFlake 78 = .ok (.aload_n 0, 1) := by decide +kernel
theorem dX8_toldOfFlake_79 : decode cX8_toldOfFlake 79 = .ok (.getfield 10, 3) := by decide +kernel
theorem dX8_toldOfFlake_82 : decode cX8_toldOfFlake 82 = .ok (.getfield 233, 3) := by decide +kernel
theorem dX8_toldOfFlake_85 : decode cX8_toldOfFlake 85 = .ok (.iload_n 1, 1) := by decide +kernel
theorem dX8_toldOfFlake_86 : decode cX8_toldOfFlake 86 = .ok (.iaload, 1) := by decide +kernel
theorem dX8_toldOfFlake_87 : decode cX8_toldOfFlake 87 = .ok (.ireturn, 1) := by decide +kernel
theorem dX8_toldOfFlake_88 : decode cX8_toldOfFlake 88 = .ok (.aload_n 0, 1) := by decide +kernel
theorem dX8_toldOfFlake_89 : decode cX8_toldOfFlake 89 = .ok (.getfield 10, 3) := by decide +kernel
theorem dX8_toldOfFlake_92 : decode cX8_toldOfFlake 92 = .ok (.getfield 131, 3) := by decide +kernel
theorem dX8_toldOfFlake_95 : decode cX8_toldOfFlake 95 = .ok (.iload_n 1, 1) := by decide +kernel
theorem dX8_toldOfFlake_96 : decode cX8_toldOfFlake 96 = .ok (.iaload, 1) := by decide +kernel
theorem dX8_toldOfFlake_97 : decode cX8_toldOfFlake 97 = .ok (.ireturn, 1) := by decide +kernel
theorem dX8_toldOfFlake_98 : decode cX8_toldOfFlake 98 = .ok (.bipush (-2), 2) := by decide +kernel
theorem dX8_toldOfFlake_100 : decode cX8_toldOfFlake 100 = .ok (.ireturn, 1) := by decide +kernel
theorem dX8_toldOfOne_0 : decode cX8_toldOfOne 0 = .ok (.iload_n 1, 1) := by decide +kernel
theorem dX8_toldOfOne_1 : decode cX8_toldOfOne 1 = .ok (.bipush 6, 2) := by decide +kernel
theorem dX8_toldOfOne_3 : decode cX8_toldOfOne 3 = .ok (.invokestatic 59, 3) := by decide +kernel
theorem dX8_toldOfOne_6 : decode cX8_toldOfOne 6 = .ok (.ifCond .eq 11, 3) := by decide +kernel
theorem dX8_toldOfOne_9 : decode cX8_toldOfOne 9 = .ok (.iload_n 2, 1) := by decide +kernel
theorem dX8_toldOfOne_10 : decode cX8_toldOfOne 10 = .ok (.iconst 2, 1) := by decide +kernel
theorem dX8_toldOfOne_11 : decode cX8_toldOfOne 11 = .ok (.invokestatic 59, 3) := by decide +kernel
theorem dX8_toldOfOne_14 : decode cX8_toldOfOne 14 = .ok (.ifCond .ne 6, 3) := by decide +kernel
theorem dX8_toldOfOne_17 : decode cX8_toldOfOne 17 = .ok (.bipush (-2), 2) := by decide +kernel
theorem dX8_toldOfOne_19 : decode cX8_toldOfOne 19 = .ok (.ireturn, 1) := by decide +kernel
theorem dX8_toldOfOne_20 : decode cX8_toldOfOne 20 = .ok (.iload_n 2, 1) := by decide +kernel
theorem dX8_toldOfOne_21 : decode cX8_toldOfOne 21 = .ok (.ifCond .ne 15, 3) := by decide +kernel
theorem dX8_toldOfOne_24 : decode cX8_toldOfOne 24 = .ok (.aload_n 0, 1) := by decide +kernel
theorem dX8_toldOfOne_25 : decode cX8_toldOfOne 25 = .ok (.getfield 10, 3) := by decide +kernel
theorem dX8_toldOfOne_28 : decode cX8_toldOfOne 28 = .ok (.getfield 84, 3) := by decide +kernel
theorem dX8_toldOfOne_31 : decode cX8_toldOfOne 31 = .ok (.iload_n 1, 1) := by decide +kernel
theorem dX8_toldOfOne_32 : decode cX8_toldOfOne 32 = .ok (.iaload, 1) := by decide +kernel
theorem dX8_toldOfOne_33 : decode cX8_toldOfOne 33 = .ok (.goto 14, 3) := by decide +kernel
theorem dX8_toldOfOne_36 : decode cX8_toldOfOne 36 = .ok (.aload_n 0, 1) := by decide +kernel
theorem dX8_toldOfOne_37 : decode cX8_toldOfOne 37 = .ok (.getfield 10, 3) := by decide +kernel
theorem dX8_toldOfOne_40 : decode cX8_toldOfOne 40 = .ok (.getfield 88, 3) := by decide +kernel
theorem dX8_toldOfOne_43 : decode cX8_toldOfOne 43 = .ok (.iload_n 1, 1) := by decide +kernel
theorem dX8_toldOfOne_44 : decode cX8_toldOfOne 44 = .ok (.invokestatic 134, 3) := by decide +kernel
theorem dX8_toldOfOne_47 : decode cX8_toldOfOne 47 = .ok (.ireturn, 1) := by decide +kernel
theorem dX8_refusalOfDays_0 : decode cX8_refusalOfDays 0 = .ok (.aload_n 0, 1) := by decide +kernel
theorem dX8_refusalOfDays_1 : decode cX8_refusalOfDays 1 = .ok (.getfield 27, 3) := by decide +kernel
theorem dX8_refusalOfDays_4 : decode cX8_refusalOfDays 4 = .ok (.invokevirtual 103, 3) := by decide +kernel
theorem dX8_refusalOfDays_7 : decode cX8_refusalOfDays 7 = .ok (.bipush (-6), 2) := by decide +kernel
theorem dX8_refusalOfDays_9 : decode cX8_refusalOfDays 9 = .ok (.if_icmp .eq 6, 3) := by decide +kernel
theorem dX8_refusalOfDays_12 : decode cX8_refusalOfDays 12 = .ok (.bipush (-5), 2) := by decide +kernel
theorem dX8_refusalOfDays_14 : decode cX8_refusalOfDays 14 = .ok (.ireturn, 1) := by decide +kernel
theorem dX8_refusalOfDays_15 : decode cX8_refusalOfDays 15 = .ok (.aload_n 0, 1) := by decide +kernel
theorem dX8_refusalOfDays_16 : decode cX8_refusalOfDays 16 = .ok (.getfield 34, 3) := by decide +kernel
theorem dX8_refusalOfDays_19 : decode cX8_refusalOfDays 19 = .ok (.aload_n 0, 1) := by decide +kernel
theorem dX8_refusalOfDays_20 : decode cX8_refusalOfDays 20 = .ok (.getfield 10, 3) := by decide +kernel
theorem dX8_refusalOfDays_23 : decode cX8_refusalOfDays 23 = .ok (.aload_n 0, 1) := by decide +kernel
theorem dX8_refusalOfDays_24 : decode cX8_refusalOfDays 24 = .ok (.getfield 27, 3) := by decide +kernel
theorem dX8_refusalOfDays_27 : decode cX8_refusalOfDays 27 = .ok (.invokevirtual 236, 3) := by decide +kernel
theorem dX8_refusalOfDays_30 : decode cX8_refusalOfDays 30 = .ok (.aload_n 0, 1) := by decide +kernel
theorem dX8_refusalOfDays_31 : decode cX8_refusalOfDays 31 = .ok (.getfield 34, 3) := by decide +kernel
theorem dX8_refusalOfDays_34 : decode cX8_refusalOfDays 34 = .ok (.getfield 110, 3) := by decide +kernel
theorem dX8_refusalOfDays_37 : decode cX8_refusalOfDays 37 = .ok (.bipush (-6), 2) := by decide +kernel
theorem dX8_refusalOfDays_39 : decode cX8_refusalOfDays 39 = .ok (.if_icmp .ne 7, 3) := by decide +kernel
theorem dX8_refusalOfDays_42 : decode cX8_refusalOfDays 42 = .ok (.iconst 0, 1) := by decide +kernel
theorem dX8_refusalOfDays_43 : decode cX8_refusalOfDays 43 = .ok (.goto 5, 3) := by decide +kernel
theorem dX8_refusalOfDays_46 : decode cX8_refusalOfDays 46 = .ok (.bipush (-3), 2) := by decide +kernel
theorem dX8_refusalOfDays_48 : decode cX8_refusalOfDays 48 = .ok (.ireturn, 1) := by decide +kernel
theorem dX8_isBelow_0 : decode cX8_isBelow 0 = .ok (.iload_n 0, 1) := by decide +kernel
theorem dX8_isBelow_1 : decode cX8_isBelow 1 = .ok (.ifCond .lt 12, 3) := by decide +kernel
theorem dX8_isBelow_4 : decode cX8_isBelow 4 = .ok (.iload_n 0, 1) := by decide +kernel
theorem dX8_isBelow_5 : decode cX8_isBelow 5 = .ok (.iload_n 1, 1) := by decide +kernel
theorem dX8_isBelow_6 : decode cX8_isBelow 6 = .ok (.if_icmp .ge 7, 3) := by decide +kernel
theorem dX8_isBelow_9 : decode cX8_isBelow 9 = .ok (.iconst 1, 1) := by decide +kernel
theorem dX8_isBelow_10 : decode cX8_isBelow 10 = .ok (.goto 4, 3) := by decide +kernel
theorem dX8_isBelow_13 : decode cX8_isBelow 13 = .ok (.iconst 0, 1) := by decide +kernel
theorem dX8_isBelow_14 : decode cX8_isBelow 14 = .ok (.ireturn, 1) := by decide +kernel
theorem dX8_bit_0 : decode cX8_bit 0 = .ok (.iload_n 0, 1) := by decide +kernel
theorem dX8_bit_1 : decode cX8_bit 1 = .ok (.iload_n 1, 1) := by decide +kernel
theorem dX8_bit_2 : decode cX8_bit 2 = .ok (.ishr, 1) := by decide +kernel
theorem dX8_bit_3 : decode cX8_bit 3 = .ok (.iconst 1, 1) := by decide +kernel
theorem dX8_bit_4 : decode cX8_bit 4 = .ok (.iand, 1) := by decide +kernel
theorem dX8_bit_5 : decode cX8_bit 5 = .ok (.ireturn, 1) := by decide +kernel
theorem dJ6_bitCount_0f7a4_0 : decode cJ6_bitCount_0f7a4 0 = .ok (.iload_n 0, 1) := by decide +kernel
theorem dJ6_bitCount_0f7a4_1 : decode cJ6_bitCount_0f7a4 1 = .ok (.iload_n 0, 1) := by decide +kernel
theorem dJ6_bitCount_0f7a4_2 : decode cJ6_bitCount_0f7a4 2 = .ok (.iconst 1, 1) := by decide +kernel
theorem dJ6_bitCount_0f7a4_3 : decode cJ6_bitCount_0f7a4 3 = .ok (.iushr, 1) := by decide +kernel
theorem dJ6_bitCount_0f7a4_4 : decode cJ6_bitCount_0f7a4 4 = .ok (.ldc_w 265, 3) := by decide +kernel
theorem dJ6_bitCount_0f7a4_7 : decode cJ6_bitCount_0f7a4 7 = .ok (.iand, 1) := by decide +kernel
theorem dJ6_bitCount_0f7a4_8 : decode cJ6_bitCount_0f7a4 8 = .ok (.isub, 1) := by decide +kernel
theorem dJ6_bitCount_0f7a4_9 : decode cJ6_bitCount_0f7a4 9 = .ok (.istore_n 0, 1) := by decide +kernel
theorem dJ6_bitCount_0f7a4_10 : decode cJ6_bitCount_0f7a4 10 = .ok (.iload_n 0, 1) := by decide +kernel
theorem dJ6_bitCount_0f7a4_11 : decode cJ6_bitCount_0f7a4 11 = .ok (.ldc_w 266, 3) := by decide +kernel
theorem dJ6_bitCount_0f7a4_14 : decode cJ6_bitCount_0f7a4 14 = .ok (.iand, 1) := by decide +kernel
theorem dJ6_bitCount_0f7a4_15 : decode cJ6_bitCount_0f7a4 15 = .ok (.iload_n 0, 1) := by decide +kernel
theorem dJ6_bitCount_0f7a4_16 : decode cJ6_bitCount_0f7a4 16 = .ok (.iconst 2, 1) := by decide +kernel
theorem dJ6_bitCount_0f7a4_17 : decode cJ6_bitCount_0f7a4 17 = .ok (.iushr, 1) := by decide +kernel
theorem dJ6_bitCount_0f7a4_18 : decode cJ6_bitCount_0f7a4 18 = .ok (.ldc_w 266, 3) := by decide +kernel
theorem dJ6_bitCount_0f7a4_21 : decode cJ6_bitCount_0f7a4 21 = .ok (.iand, 1) := by decide +kernel
theorem dJ6_bitCount_0f7a4_22 : decode cJ6_bitCount_0f7a4 22 = .ok (.iadd, 1) := by decide +kernel
theorem dJ6_bitCount_0f7a4_23 : decode cJ6_bitCount_0f7a4 23 = .ok (.istore_n 0, 1) := by decide +kernel
theorem dJ6_bitCount_0f7a4_24 : decode cJ6_bitCount_0f7a4 24 = .ok (.iload_n 0, 1) := by decide +kernel
theorem dJ6_bitCount_0f7a4_25 : decode cJ6_bitCount_0f7a4 25 = .ok (.iload_n 0, 1) := by decide +kernel
theorem dJ6_bitCount_0f7a4_26 : decode cJ6_bitCount_0f7a4 26 = .ok (.iconst 4, 1) := by decide +kernel
theorem dJ6_bitCount_0f7a4_27 : decode cJ6_bitCount_0f7a4 27 = .ok (.iushr, 1) := by decide +kernel
theorem dJ6_bitCount_0f7a4_28 : decode cJ6_bitCount_0f7a4 28 = .ok (.iadd, 1) := by decide +kernel
theorem dJ6_bitCount_0f7a4_29 : decode cJ6_bitCount_0f7a4 29 = .ok (.ldc_w 267, 3) := by decide +kernel
theorem dJ6_bitCount_0f7a4_32 : decode cJ6_bitCount_0f7a4 32 = .ok (.iand, 1) := by decide +kernel
theorem dJ6_bitCount_0f7a4_33 : decode cJ6_bitCount_0f7a4 33 = .ok (.istore_n 0, 1) := by decide +kernel
theorem dJ6_bitCount_0f7a4_34 : decode cJ6_bitCount_0f7a4 34 = .ok (.iload_n 0, 1) := by decide +kernel
theorem dJ6_bitCount_0f7a4_35 : decode cJ6_bitCount_0f7a4 35 = .ok (.iload_n 0, 1) := by decide +kernel
theorem dJ6_bitCount_0f7a4_36 : decode cJ6_bitCount_0f7a4 36 = .ok (.bipush 8, 2) := by decide +kernel
theorem dJ6_bitCount_0f7a4_38 : decode cJ6_bitCount_0f7a4 38 = .ok (.iushr, 1) := by decide +kernel
theorem dJ6_bitCount_0f7a4_39 : decode cJ6_bitCount_0f7a4 39 = .ok (.iadd, 1) := by decide +kernel
theorem dJ6_bitCount_0f7a4_40 : decode cJ6_bitCount_0f7a4 40 = .ok (.istore_n 0, 1) := by decide +kernel
theorem dJ6_bitCount_0f7a4_41 : decode cJ6_bitCount_0f7a4 41 = .ok (.iload_n 0, 1) := by decide +kernel
theorem dJ6_bitCount_0f7a4_42 : decode cJ6_bitCount_0f7a4 42 = .ok (.iload_n 0, 1) := by decide +kernel
theorem dJ6_bitCount_0f7a4_43 : decode cJ6_bitCount_0f7a4 43 = .ok (.bipush 16, 2) := by decide +kernel
theorem dJ6_bitCount_0f7a4_45 : decode cJ6_bitCount_0f7a4 45 = .ok (.iushr, 1) := by decide +kernel
theorem dJ6_bitCount_0f7a4_46 : decode cJ6_bitCount_0f7a4 46 = .ok (.iadd, 1) := by decide +kernel
theorem dJ6_bitCount_0f7a4_47 : decode cJ6_bitCount_0f7a4 47 = .ok (.istore_n 0, 1) := by decide +kernel
theorem dJ6_bitCount_0f7a4_48 : decode cJ6_bitCount_0f7a4 48 = .ok (.iload_n 0, 1) := by decide +kernel
theorem dJ6_bitCount_0f7a4_49 : decode cJ6_bitCount_0f7a4 49 = .ok (.bipush 63, 2) := by decide +kernel
theorem dJ6_bitCount_0f7a4_51 : decode cJ6_bitCount_0f7a4 51 = .ok (.iand, 1) := by decide +kernel
theorem dJ6_bitCount_0f7a4_52 : decode cJ6_bitCount_0f7a4 52 = .ok (.ireturn, 1) := by decide +kernel
theorem dJ9_abs_0f7a4_0 : decode cJ9_abs_0f7a4 0 = .ok (.iload_n 0, 1) := by decide +kernel
theorem dJ9_abs_0f7a4_1 : decode cJ9_abs_0f7a4 1 = .ok (.ifCond .ge 8, 3) := by decide +kernel
theorem dJ9_abs_0f7a4_4 : decode cJ9_abs_0f7a4 4 = .ok (.iload_n 0, 1) := by decide +kernel
theorem dJ9_abs_0f7a4_5 : decode cJ9_abs_0f7a4 5 = .ok (.ineg, 1) := by decide +kernel
theorem dJ9_abs_0f7a4_6 : decode cJ9_abs_0f7a4 6 = .ok (.goto 4, 3) := by decide +kernel
theorem dJ9_abs_0f7a4_9 : decode cJ9_abs_0f7a4 9 = .ok (.iload_n 0, 1) := by decide +kernel
theorem dJ9_abs_0f7a4_10 : decode cJ9_abs_0f7a4 10 = .ok (.ireturn, 1) := by decide +kernel
theorem dJ9_max_7cf53_0 : decode cJ9_max_7cf53 0 = .ok (.iload_n 0, 1) := by decide +kernel
theorem dJ9_max_7cf53_1 : decode cJ9_max_7cf53 1 = .ok (.iload_n 1, 1) := by decide +kernel
theorem dJ9_max_7cf53_2 : decode cJ9_max_7cf53 2 = .ok (.if_icmp .lt 7, 3) := by decide +kernel
theorem dJ9_max_7cf53_5 : decode cJ9_max_7cf53 5 = .ok (.iload_n 0, 1) := by decide +kernel
theorem dJ9_max_7cf53_6 : decode cJ9_max_7cf53 6 = .ok (.goto 4, 3) := by decide +kernel
theorem dJ9_max_7cf53_9 : decode cJ9_max_7cf53 9 = .ok (.iload_n 1, 1) := by decide +kernel
theorem dJ9_max_7cf53_10 : decode cJ9_max_7cf53 10 = .ok (.ireturn, 1) := by decide +kernel
theorem dJ7_fill_53178_0 : decode cJ7_fill_53178 0 = .ok (.iconst 0, 1) := by decide +kernel
theorem dJ7_fill_53178_1 : decode cJ7_fill_53178 1 = .ok (.istore_n 2, 1) := by decide +kernel
theorem dJ7_fill_53178_2 : decode cJ7_fill_53178 2 = .ok (.aload_n 0, 1) := by decide +kernel
theorem dJ7_fill_53178_3 : decode cJ7_fill_53178 3 = .ok (.arraylength, 1) := by decide +kernel
theorem dJ7_fill_53178_4 : decode cJ7_fill_53178 4 = .ok (.istore_n 3, 1) := by decide +kernel
theorem dJ7_fill_53178_5 : decode cJ7_fill_53178 5 = .ok (.iload_n 2, 1) := by decide +kernel
theorem dJ7_fill_53178_6 : decode cJ7_fill_53178 6 = .ok (.iload_n 3, 1) := by decide +kernel
theorem dJ7_fill_53178_7 : decode cJ7_fill_53178 7 = .ok (.if_icmp .ge 13, 3) := by decide +kernel
theorem dJ7_fill_53178_10 : decode cJ7_fill_53178 10 = .ok (.aload_n 0, 1) := by decide +kernel
theorem dJ7_fill_53178_11 : decode cJ7_fill_53178 11 = .ok (.iload_n 2, 1) := by decide +kernel
theorem dJ7_fill_53178_12 : decode cJ7_fill_53178 12 = .ok (.iload_n 1, 1) := by decide +kernel
theorem dJ7_fill_53178_13 : decode cJ7_fill_53178 13 = .ok (.iastore, 1) := by decide +kernel
theorem dJ7_fill_53178_14 : decode cJ7_fill_53178 14 = .ok (.iinc 2 1, 3) := by decide +kernel
theorem dJ7_fill_53178_17 : decode cJ7_fill_53178 17 = .ok (.goto (-12), 3) := by decide +kernel
theorem dJ7_fill_53178_20 : decode cJ7_fill_53178 20 = .ok (.return_, 1) := by decide +kernel
