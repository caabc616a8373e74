theorem dX6_init_0 : decode cX6_init 0 = .ok (.aload_n 0, 1) := by decide +kernel
theorem dX6_init_1 : decode cX6_init 1 = .ok (.invokespecial 1, 3) := by decide +kernel
theorem dX6_init_4 : decode cX6_init 4 = .ok (.aload_n 0, 1) := by decide +kernel
theorem dX6_init_5 : decode cX6_init 5 = .ok (.bipush 60, 2) := by decide +kernel
theorem dX6_init_7 : decode cX6_init 7 = .ok (.newarray .int, 2) := by decide +kernel
theorem dX6_init_9 : decode cX6_init 9 = .ok (.putfield 7, 3) := by decide +kernel
theorem dX6_init_12 : decode cX6_init 12 = .ok (.aload_n 0, 1) := by decide +kernel
theorem dX6_init_13 : decode cX6_init 13 = .ok (.sipush 960, 3) := by decide +kernel
theorem dX6_init_16 : decode cX6_init 16 = .ok (.newarray .long, 2) := by decide +kernel
theorem dX6_init_18 : decode cX6_init 18 = .ok (.putfield 13, 3) := by decide +kernel
theorem dX6_init_21 : decode cX6_init 21 = .ok (.aload_n 0, 1) := by decide +kernel
theorem dX6_init_22 : decode cX6_init 22 = .ok (.bipush 16, 2) := by decide +kernel
theorem dX6_init_24 : decode cX6_init 24 = .ok (.newarray .long, 2) := by decide +kernel
theorem dX6_init_26 : decode cX6_init 26 = .ok (.putfield 17, 3) := by decide +kernel
theorem dX6_init_29 : decode cX6_init 29 = .ok (.aload_n 0, 1) := by decide +kernel
theorem dX6_init_30 : decode cX6_init 30 = .ok (.bipush 9, 2) := by decide +kernel
theorem dX6_init_32 : decode cX6_init 32 = .ok (.newarray .int, 2) := by decide +kernel
theorem dX6_init_34 : decode cX6_init 34 = .ok (.putfield 20, 3) := by decide +kernel
theorem dX6_init_37 : decode cX6_init 37 = .ok (.aload_n 0, 1) := by decide +kernel
theorem dX6_init_38 : decode cX6_init 38 = .ok (.iconst 5, 1) := by decide +kernel
theorem dX6_init_39 : decode cX6_init 39 = .ok (.newarray .int, 2) := by decide +kernel
theorem dX6_init_41 : decode cX6_init 41 = .ok (.putfield 23, 3) := by decide +kernel
theorem dX6_init_44 : decode cX6_init 44 = .ok (.aload_n 0, 1) := by decide +kernel
theorem dX6_init_45 : decode cX6_init 45 = .ok (.iconst 5, 1) := by decide +kernel
theorem dX6_init_46 : decode cX6_init 46 = .ok (.newarray .int, 2) := by decide +kernel
theorem dX6_init_48 : decode cX6_init 48 = .ok (.putfield 26, 3) := by decide +kernel
theorem dX6_init_51 : decode cX6_init 51 = .ok (.aload_n 0, 1) := by decide +kernel
theorem dX6_init_52 : decode cX6_init 52 = .ok (.bipush 16, 2) := by decide +kernel
theorem dX6_init_54 : decode cX6_init 54 = .ok (.newarray .long, 2) := by decide +kernel
theorem dX6_init_56 : decode cX6_init 56 = .ok (.putfield 29, 3) := by decide +kernel
theorem dX6_init_59 : decode cX6_init 59 = .ok (.aload_n 0, 1) := by decide +kernel
theorem dX6_init_60 : decode cX6_init 60 = .ok (.sipush 320, 3) := by decide +kernel
theorem dX6_init_63 : decode cX6_init 63 = .ok (.newarray .long, 2) := by decide +kernel
theorem dX6_init_65 : decode cX6_init 65 = .ok (.putfield 32, 3) := by decide +kernel
theorem dX6_init_68 : decode cX6_init 68 = .ok (.aload_n 0, 1) := by decide +kernel
theorem dX6_init_69 : decode cX6_init 69 = .ok (.bipush 16, 2) := by decide +kernel
theorem dX6_init_71 : decode cX6_init 71 = .ok (.newarray .long, 2) := by decide +kernel
theorem dX6_init_73 : decode cX6_init 73 = .ok (.putfield 35, 3) := by decide +kernel
theorem dX6_init_76 : decode cX6_init 76 = .ok (.aload_n 0, 1) := by decide +kernel
theorem dX6_init_77 : decode cX6_init 77 = .ok (.bipush 16, 2) := by decide +kernel
theorem dX6_init_79 : decode cX6_init 79 = .ok (.newarray .long, 2) := by decide +kernel
theorem dX6_init_81 : decode cX6_init 81 = .ok (.putfield 38, 3) := by decide +kernel
theorem dX6_init_84 : decode cX6_init 84 = .ok (.aload_n 0, 1) := by decide +kernel
theorem dX6_init_85 : decode cX6_init 85 = .ok (.bipush 16, 2) := by decide +kernel
theorem dX6_init_87 : decode cX6_init 87 = .ok (.newarray .long, 2) := by decide +kernel
theorem dX6_init_89 : decode cX6_init 89 = .ok (.putfield 41, 3) := by decide +kernel
theorem dX6_init_92 : decode cX6_init 92 = .ok (.aload_n 0, 1) := by decide +kernel
theorem dX6_init_93 : decode cX6_init 93 = .ok (.iconst 2, 1) := by decide +kernel
theorem dX6_init_94 : decode cX6_init 94 = .ok (.iconst 3, 1) := by decide +kernel
theorem dX6_init_95 : decode cX6_init 95 = .ok (.invokevirtual 44, 3) := by decide +kernel
theorem dX6_init_98 : decode cX6_init 98 = .ok (.pop, 1) := by decide +kernel
theorem dX6_init_99 : decode cX6_init 99 = .ok (.return_, 1) := by decide +kernel
theorem dX6_isPrime_0 : decode cX6_isPrime 0 = .ok (.iload_n 0, 1) := by decide +kernel
theorem dX6_isPrime_1 : decode cX6_isPrime 1 = .ok (.iconst 2, 1) := by decide +kernel
theorem dX6_isPrime_2 : decode cX6_isPrime 2 = .ok (.if_icmp .le 13, 3) := by decide +kernel
theorem dX6_isPrime_5 : decode cX6_isPrime 5 = .ok (.iload_n 0, 1) := by decide +kernel
theorem dX6_isPrime_6 : decode cX6_isPrime 6 = .ok (.iconst 2, 1) := by decide +kernel
theorem dX6_isPrime_7 : decode cX6_isPrime 7 = .ok (.irem, 1) := by decide +kernel
theorem dX6_isPrime_8 : decode cX6_isPrime 8 = .ok (.ifCond .eq 7, 3) := by decide +kernel
theorem dX6_isPrime_11 : decode cX6_isPrime 11 = .ok (.iconst 1, 1) := by decide +kernel
theorem dX6_isPrime_12 : decode cX6_isPrime 12 = .ok (.goto 4, 3) := by decide +kernel
theorem dX6_isPrime_15 : decode cX6_isPrime 15 = .ok (.iconst 0, 1) := by decide +kernel
theorem dX6_isPrime_16 : decode cX6_isPrime 16 = .ok (.istore_n 1, 1) := by decide +kernel
theorem dX6_isPrime_17 : decode cX6_isPrime 17 = .ok (.ldc2_w 48, 3) := by decide +kernel
theorem dX6_isPrime_20 : decode cX6_isPrime 20 = .ok (.lstore_n 2, 1) := by decide +kernel
theorem dX6_isPrime_21 : decode cX6_isPrime 21 = .ok (.iload_n 1, 1) := by decide +kernel
theorem dX6_isPrime_22 : decode cX6_isPrime 22 = .ok (.ifCond .eq 36, 3) := by decide +kernel
theorem dX6_isPrime_25 : decode cX6_isPrime 25 = .ok (.lload_n 2, 1) := by decide +kernel
theorem dX6_isPrime_26 : decode cX6_isPrime 26 = .ok (.lload_n 2, 1) := by decide +kernel
theorem dX6_isPrime_27 : decode cX6_isPrime 27 = .ok (.lmul, 1) := by decide +kernel
theorem dX6_isPrime_28 : decode cX6_isPrime 28 = .ok (.iload_n 0, 1) := by decide +kernel
theorem dX6_isPrime_29 : decode cX6_isPrime 29 = .ok (.i2l, 1) := by decide +kernel
theorem dX6_isPrime_30 : decode cX6_isPrime 30 = .ok (.lcmp, 1) := by decide +kernel
theorem dX6_isPrime_31 : decode cX6_isPrime 31 = .ok (.ifCond .gt 27, 3) := by decide +kernel
theorem dX6_isPrime_34 : decode cX6_isPrime 34 = .ok (.iload_n 0, 1) := by decide +kernel
theorem dX6_isPrime_35 : decode cX6_isPrime 35 = .ok (.i2l, 1) := by decide +kernel
theorem dX6_isPrime_36 : decode cX6_isPrime 36 = .ok (.lload_n 2, 1) := by decide +kernel
theorem dX6_isPrime_37 : decode cX6_isPrime 37 = .ok (.lrem, 1) := by decide +kernel
theorem dX6_isPrime_38 : decode cX6_isPrime 38 = .ok (.lconst 0, 1) := by decide +kernel
theorem dX6_isPrime_39 : decode cX6_isPrime 39 = .ok (.lcmp, 1) := by decide +kernel
theorem dX6_isPrime_40 : decode cX6_isPrime 40 = .ok (.ifCond .eq 7, 3) := by decide +kernel
theorem dX6_isPrime_43 : decode cX6_isPrime 43 = .ok (.iconst 1, 1) := by decide +kernel
theorem dX6_isPrime_44 : decode cX6_isPrime 44 = .ok (.goto 4, 3) := by decide +kernel
theorem dX6_isPrime_47 : decode cX6_isPrime 47 = .ok (.iconst 0, 1) := by decide +kernel
theorem dX6_isPrime_48 : decode cX6_isPrime 48 = .ok (.istore_n 1, 1) := by decide +kernel
theorem dX6_isPrime_49 : decode cX6_isPrime 49 = .ok (.lload_n 2, 1) := by decide +kernel
theorem dX6_isPrime_50 : decode cX6_isPrime 50 = .ok (.ldc2_w 50, 3) := by decide +kernel
theorem dX6_isPrime_53 : decode cX6_isPrime 53 = .ok (.ladd, 1) := by decide +kernel
theorem dX6_isPrime_54 : decode cX6_isPrime 54 = .ok (.lstore_n 2, 1) := by decide +kernel
theorem dX6_isPrime_55 : decode cX6_isPrime 55 = .ok (.goto (-34), 3) := by decide +kernel
theorem dX6_isPrime_58 : decode cX6_isPrime 58 = .ok (.iload_n 1, 1) := by decide +kernel
theorem dX6_isPrime_59 : decode cX6_isPrime 59 = .ok (.ireturn, 1) := by decide +kernel
theorem dX6_begin_0 : decode cX6_begin 0 = .ok (.iload_n 1, 1) := by decide +kernel
theorem dX6_begin_1 : decode cX6_begin 1 = .ok (.iconst 2, 1) := by decide +kernel
theorem dX6_begin_2 : decode cX6_begin 2 = .ok (.if_icmp .lt 15, 3) := by decide +kernel
theorem dX6_begin_5 : decode cX6_begin 5 = .ok (.iload_n 1, 1) := by decide +kernel
theorem dX6_begin_6 : decode cX6_begin 6 = .ok (.iconst 3, 1) := by decide +kernel
theorem dX6_begin_7 : decode cX6_begin 7 = .ok (.if_icmp .gt 10, 3) := by decide +kernel
theorem dX6_begin_10 : decode cX6_begin 10 = .ok (.iload_n 2, 1) := by decide +kernel
theorem dX6_begin_11 : decode cX6_begin 11 = .ok (.invokestatic 52, 3) := by decide +kernel
theorem dX6_begin_14 : decode cX6_begin 14 = .ok (.ifCond .ne 6, 3) := by decide +kernel
theorem dX6_begin_17 : decode cX6_begin 17 = .ok (.bipush (-2), 2) := by decide +kernel
theorem dX6_begin_19 : decode cX6_begin 19 = .ok (.ireturn, 1) := by decide +kernel
theorem dX6_begin_20 : decode cX6_begin 20 = .ok (.aload_n 0, 1) := by decide +kernel
theorem dX6_begin_21 : decode cX6_begin 21 = .ok (.iload_n 1, 1) := by decide +kernel
theorem dX6_begin_22 : decode cX6_begin 22 = .ok (.putfield 56, 3) := by decide +kernel
theorem dX6_begin_25 : decode cX6_begin 25 = .ok (.aload_n 0, 1) := by decide +kernel
theorem dX6_begin_26 : decode cX6_begin 26 = .ok (.iload_n 2, 1) := by decide +kernel
theorem dX6_begin_27 : decode cX6_begin 27 = .ok (.i2l, 1) := by decide +kernel
theorem dX6_begin_28 : decode cX6_begin 28 = .ok (.putfield 60, 3) := by decide +kernel
theorem dX6_begin_31 : decode cX6_begin 31 = .ok (.aload_n 0, 1) := by decide +kernel
theorem dX6_begin_32 : decode cX6_begin 32 = .ok (.iconst 0, 1) := by decide +kernel
theorem dX6_begin_33 : decode cX6_begin 33 = .ok (.putfield 64, 3) := by decide +kernel
theorem dX6_begin_36 : decode cX6_begin 36 = .ok (.aload_n 0, 1) := by decide +kernel
theorem dX6_begin_37 : decode cX6_begin 37 = .ok (.iconst 0, 1) := by decide +kernel
theorem dX6_begin_38 : decode cX6_begin 38 = .ok (.putfield 67, 3) := by decide +kernel
theorem dX6_begin_41 : decode cX6_begin 41 = .ok (.aload_n 0, 1) := by decide +kernel
theorem dX6_begin_42 : decode cX6_begin 42 = .ok (.iconst 0, 1) := by decide +kernel
theorem dX6_begin_43 : decode cX6_begin 43 = .ok (.putfield 70, 3) := by decide +kernel
theorem dX6_begin_46 : decode cX6_begin 46 = .ok (.aload_n 0, 1) := by decide +kernel
theorem dX6_begin_47 : decode cX6_begin 47 = .ok (.iconst (-1), 1) := by decide +kernel
theorem dX6_begin_48 : decode cX6_begin 48 = .ok (.putfield 73, 3) := by decide +kernel
theorem dX6_begin_51 : decode cX6_begin 51 = .ok (.iconst 0, 1) := by decide +kernel
theorem dX6_begin_52 : decode cX6_begin 52 = .ok (.istore_n 3, 1) := by decide +kernel
theorem dX6_begin_53 : decode cX6_begin 53 = .ok (.iload_n 3, 1) := by decide +kernel
theorem dX6_begin_54 : decode cX6_begin 54 = .ok (.bipush 16, 2) := by decide +kernel
theorem dX6_begin_56 : decode cX6_begin 56 = .ok (.if_icmp .ge 16, 3) := by decide +kernel
theorem dX6_begin_59 : decode cX6_begin 59 = .ok (.aload_n 0, 1) := by decide +kernel
theorem dX6_begin_60 : decode cX6_begin 60 = .ok (.getfield 17, 3) := by decide +kernel
theorem dX6_begin_63 : decode cX6_begin 63 = .ok (.iload_n 3, 1) := by decide +kernel
theorem dX6_begin_64 : decode cX6_begin 64 = .ok (.lconst 0, 1) := by decide +kernel
theorem dX6_begin_65 : decode cX6_begin 65 = .ok (.lastore, 1) := by decide +kernel
theorem dX6_begin_66 : decode cX6_begin 66 = .ok (.iinc 3 1, 3) := by decide +kernel
theorem dX6_begin_69 : decode cX6_begin 69 = .ok (.goto (-16), 3) := by decide +kernel
theorem dX6_begin_72 : decode cX6_begin 72 = .ok (.iconst 1, 1) := by decide +kernel
theorem dX6_begin_73 : decode cX6_begin 73 = .ok (.ireturn, 1) := by decide +kernel
theorem dX6_mod_0 : decode cX6_mod 0 = .ok (.lload_n 1, 1) := by decide +kernel
theorem dX6_mod_1 : decode cX6_mod 1 = .ok (.aload_n 0, 1) := by decide +kernel
theorem dX6_mod_2 : decode cX6_mod 2 = .ok (.getfield 60, 3) := by decide +kernel
theorem dX6_mod_5 : decode cX6_mod 5 = .ok (.lrem, 1) := by decide +kernel
theorem dX6_mod_6 : decode cX6_mod 6 = .ok (.lstore_n 3, 1) := by decide +kernel
theorem dX6_mod_7 : decode cX6_mod 7 = .ok (.lload_n 3, 1) := by decide +kernel
theorem dX6_mod_8 : decode cX6_mod 8 = .ok (.lconst 0, 1) := by decide +kernel
theorem dX6_mod_9 : decode cX6_mod 9 = .ok (.lcmp, 1) := by decide +kernel
theorem dX6_mod_10 : decode cX6_mod 10 = .ok (.ifCond .ge 12, 3) := by decide +kernel
theorem dX6_mod_13 : decode cX6_mod 13 = .ok (.lload_n 3, 1) := by decide +kernel
theorem dX6_mod_14 : decode cX6_mod 14 = .ok (.aload_n 0, 1) := by decide +kernel
theorem dX6_mod_15 : decode cX6_mod 15 = .ok (.getfield 60, 3) := by decide +kernel
theorem dX6_mod_18 : decode cX6_mod 18 = .ok (.ladd, 1) := by decide +kernel
theorem dX6_mod_19 : decode cX6_mod 19 = .ok (.goto 4, 3) := by decide +kernel
theorem dX6_mod_22 : decode cX6_mod 22 = .ok (.lload_n 3, 1) := by decide +kernel
theorem dX6_mod_23 : decode cX6_mod 23 = .ok (.lreturn, 1) := by decide +kernel
theorem dX6_times_0 : decode cX6_times 0 = .ok (.lload_n 1, 1) := by decide +kernel
theorem dX6_times_1 : decode cX6_times 1 = .ok (.lload_n 3, 1) := by decide +kernel
theorem dX6_times_2 : decode cX6_times 2 = .ok (.lmul, 1) := by decide +kernel
theorem dX6_times_3 : decode cX6_times 3 = .ok (.aload_n 0, 1) := by decide +kernel
theorem dX6_times_4 : decode cX6_times 4 = .ok (.getfield 60, 3) := by decide +kernel
theorem dX6_times_7 : decode cX6_times 7 = .ok (.lrem, 1) := by decide +kernel
theorem dX6_times_8 : decode cX6_times 8 = .ok (.lreturn, 1) := by decide +kernel
theorem dX6_less_0 : decode cX6_less 0 = .ok (.lload_n 1, 1) := by decide +kernel
theorem dX6_less_1 : decode cX6_less 1 = .ok (.lload_n 3, 1) := by decide +kernel
theorem dX6_less_2 : decode cX6_less 2 = .ok (.lcmp, 1) := by decide +kernel
theorem dX6_less_3 : decode cX6_less 3 = .ok (.ifCond .lt 9, 3) := by decide +kernel
theorem dX6_less_6 : decode cX6_less 6 = .ok (.lload_n 1, 1) := by decide +kernel
theorem dX6_less_7 : decode cX6_less 7 = .ok (.lload_n 3, 1) := by decide +kernel
theorem dX6_less_8 : decode cX6_less 8 = .ok (.lsub, 1) := by decide +kernel
theorem dX6_less_9 : decode cX6_less 9 = .ok (.goto 11, 3) := by decide +kernel
theorem dX6_less_12 : decode cX6_less 12 = .ok (.lload_n 1, 1) := by decide +kernel
theorem dX6_less_13 : decode cX6_less 13 = .ok (.lload_n 3, 1) := by decide +kernel
theorem dX6_less_14 : decode cX6_less 14 = .ok (.lsub, 1) := by decide +kernel
theorem dX6_less_15 : decode cX6_less 15 = .ok (.aload_n 0, 1) := by decide +kernel
theorem dX6_less_16 : decode cX6_less 16 = .ok (.getfield 60, 3) := by decide +kernel
theorem dX6_less_19 : decode cX6_less 19 = .ok (.ladd, 1) := by decide +kernel
theorem dX6_less_20 : decode cX6_less 20 = .ok (.lreturn, 1) := by decide +kernel
theorem dX6_power_0 : decode cX6_power 0 = .ok (.lload_n 1, 1) := by decide +kernel
theorem dX6_power_1 : decode cX6_power 1 = .ok (.lstore 5, 2) := by decide +kernel
theorem dX6_power_3 : decode cX6_power 3 = .ok (.lconst 1, 1) := by decide +kernel
theorem dX6_power_4 : decode cX6_power 4 = .ok (.lstore 7, 2) := by decide +kernel
theorem dX6_power_6 : decode cX6_power 6 = .ok (.lload_n 3, 1) := by decide +kernel
theorem dX6_power_7 : decode cX6_power 7 = .ok (.lstore 9, 2) := by decide +kernel
theorem dX6_power_9 : decode cX6_power 9 = .ok (.lload 9, 2) := by decide +kernel
theorem dX6_power_11 : decode cX6_power 11 = .ok (.lconst 0, 1) := by decide +kernel
theorem dX6_power_12 : decode cX6_power 12 = .ok (.lcmp, 1) := by decide +kernel
theorem dX6_power_13 : decode cX6_power 13 = .ok (.ifCond .le 46, 3) := by decide +kernel
theorem dX6_power_16 : decode cX6_power 16 = .ok (.lload 9, 2) := by decide +kernel
theorem dX6_power_18 : decode cX6_power 18 = .ok (.lconst 1, 1) := by decide +kernel
theorem dX6_power_19 : decode cX6_power 19 = .ok (.land, 1) := by decide +kernel
theorem dX6_power_20 : decode cX6_power 20 = .ok (.lconst 1, 1) := by decide +kernel
theorem dX6_power_21 : decode cX6_power 21 = .ok (.lcmp, 1) := by decide +kernel
theorem dX6_power_22 : decode cX6_power 22 = .ok (.ifCond .ne 14, 3) := by decide +kernel
theorem dX6_power_25 : decode cX6_power 25 = .ok (.aload_n 0, 1) := by decide +kernel
theorem dX6_power_26 : decode cX6_power 26 = .ok (.lload 7, 2) := by decide +kernel
theorem dX6_power_28 : decode cX6_power 28 = .ok (.lload 5, 2) := by decide +kernel
theorem dX6_power_30 : decode cX6_power 30 = .ok (.invokevirtual 76, 3) := by decide +kernel
theorem dX6_power_33 : decode cX6_power 33 = .ok (.goto 5, 3) := by decide +kernel
theorem dX6_power_36 : decode cX6_power 36 = .ok (.lload 7, 2) := by decide +kernel
theorem dX6_power_38 : decode cX6_power 38 = .ok (.lstore 7, 2) := by decide +kernel
theorem dX6_power_40 : decode cX6_power 40 = .ok (.aload_n 0, 1) := by decide +kernel
theorem dX6_power_41 : decode cX6_power 41 = .ok (.lload 5, 2) := by decide +kernel
theorem dX6_power_43 : decode cX6_power 43 = .ok (.lload 5, 2) := by decide +kernel
theorem dX6_power_45 : decode cX6_power 45 = .ok (.invokevirtual 76, 3) := by decide +kernel
theorem dX6_power_48 : decode cX6_power 48 = .ok (.lstore 5, 2) := by decide +kernel
theorem dX6_power_50 : decode cX6_power 50 = .ok (.lload 9, 2) := by decide +kernel
theorem dX6_power_52 : decode cX6_power 52 = .ok (.iconst 1, 1) := by decide +kernel
theorem dX6_power_53 : decode cX6_power 53 = .ok (.lshr, 1) := by decide +kernel
theorem dX6_power_54 : decode cX6_power 54 = .ok (.lstore 9, 2) := by decide +kernel
theorem dX6_power_56 : decode cX6_power 56 = .ok (.goto (-47), 3) := by decide +kernel
theorem dX6_power_59 : decode cX6_power 59 = .ok (.lload 7, 2) := by decide +kernel
theorem dX6_power_61 : decode cX6_power 61 = .ok (.lreturn, 1) := by decide +kernel
theorem dX6_over_0 : decode cX6_over 0 = .ok (.aload_n 0, 1) := by decide +kernel
theorem dX6_over_1 : decode cX6_over 1 = .ok (.lload_n 1, 1) := by decide +kernel
theorem dX6_over_2 : decode cX6_over 2 = .ok (.aload_n 0, 1) := by decide +kernel
theorem dX6_over_3 : decode cX6_over 3 = .ok (.getfield 60, 3) := by decide +kernel
theorem dX6_over_6 : decode cX6_over 6 = .ok (.ldc2_w 50, 3) := by decide +kernel
theorem dX6_over_9 : decode cX6_over 9 = .ok (.lsub, 1) := by decide +kernel
theorem dX6_over_10 : decode cX6_over 10 = .ok (.invokevirtual 80, 3) := by decide +kernel
theorem dX6_over_13 : decode cX6_over 13 = .ok (.lreturn, 1) := by decide +kernel
theorem dX6_isSquare_0 : decode cX6_isSquare 0 = .ok (.lload_n 1, 1) := by decide +kernel
theorem dX6_isSquare_1 : decode cX6_isSquare 1 = .ok (.lconst 0, 1) := by decide +kernel
theorem dX6_isSquare_2 : decode cX6_isSquare 2 = .ok (.lcmp, 1) := by decide +kernel
theorem dX6_isSquare_3 : decode cX6_isSquare 3 = .ok (.ifCond .eq 23, 3) := by decide +kernel
theorem dX6_isSquare_6 : decode cX6_isSquare 6 = .ok (.aload_n 0, 1) := by decide +kernel
theorem dX6_isSquare_7 : decode cX6_isSquare 7 = .ok (.lload_n 1, 1) := by decide +kernel
theorem dX6_isSquare_8 : decode cX6_isSquare 8 = .ok (.aload_n 0, 1) := by decide +kernel
theorem dX6_isSquare_9 : decode cX6_isSquare 9 = .ok (.getfield 60, 3) := by decide +kernel
theorem dX6_isSquare_12 : decode cX6_isSquare 12 = .ok (.lconst 1, 1) := by decide +kernel
theorem dX6_isSquare_13 : decode cX6_isSquare 13 = .ok (.lsub, 1) := by decide +kernel
theorem dX6_isSquare_14 : decode cX6_isSquare 14 = .ok (.ldc2_w 50, 3) := by decide +kernel
theorem dX6_isSquare_17 : decode cX6_isSquare 17 = .ok (.ldiv, 1) := by decide +kernel
theorem dX6_isSquare_18 : decode cX6_isSquare 18 = .ok (.invokevirtual 80, 3) := by decide +kernel
theorem dX6_isSquare_21 : decode cX6_isSquare 21 = .ok (.lconst 1, 1) := by decide +kernel
theorem dX6_isSquare_22 : decode cX6_isSquare 22 = .ok (.lcmp, 1) := by decide +kernel
theorem dX6_isSquare_23 : decode cX6_isSquare 23 = .ok (.ifCond .ne 7, 3) := by decide +kernel
theorem dX6_isSquare_26 : decode cX6_isSquare 26 = .ok (.iconst 1, 1) := by decide +kernel
theorem dX6_isSquare_27 : decode cX6_isSquare 27 = .ok (.goto 4, 3) := by decide +kernel
theorem dX6_isSquare_30 : decode cX6_isSquare 30 = .ok (.iconst 0, 1) := by decide +kernel
theorem dX6_isSquare_31 : decode cX6_isSquare 31 = .ok (.ireturn, 1) := by decide +kernel
theorem dX6_rootOf_0 : decode cX6_rootOf 0 = .ok (.lload_n 1, 1) := by decide +kernel
theorem dX6_rootOf_1 : decode cX6_rootOf 1 = .ok (.lconst 0, 1) := by decide +kernel
theorem dX6_rootOf_2 : decode cX6_rootOf 2 = .ok (.lcmp, 1) := by decide +kernel
theorem dX6_rootOf_3 : decode cX6_rootOf 3 = .ok (.ifCond .ne 5, 3) := by decide +kernel
theorem dX6_rootOf_6 : decode cX6_rootOf 6 = .ok (.lconst 0, 1) := by decide +kernel
theorem dX6_rootOf_7 : decode cX6_rootOf 7 = .ok (.lreturn, 1) := by decide +kernel
theorem dX6_rootOf_8 : decode cX6_rootOf 8 = .ok (.aload_n 0, 1) := by decide +kernel
theorem dX6_rootOf_9 : decode cX6_rootOf 9 = .ok (.getfield 60, 3) := by decide +kernel
theorem dX6_rootOf_12 : decode cX6_rootOf 12 = .ok (.lconst 1, 1) := by decide +kernel
theorem dX6_rootOf_13 : decode cX6_rootOf 13 = .ok (.lsub, 1) := by decide +kernel
theorem dX6_rootOf_14 : decode cX6_rootOf 14 = .ok (.lstore_n 3, 1) := by decide +kernel
theorem dX6_rootOf_15 : decode cX6_rootOf 15 = .ok (.iconst 0, 1) := by decide +kernel
theorem dX6_rootOf_16 : decode cX6_rootOf 16 = .ok (.istore 5, 2) := by decide +kernel
theorem dX6_rootOf_18 : decode cX6_rootOf 18 = .ok (.lload_n 3, 1) := by decide +kernel
theorem dX6_rootOf_19 : decode cX6_rootOf 19 = .ok (.ldc2_w 50, 3) := by decide +kernel
theorem dX6_rootOf_22 : decode cX6_rootOf 22 = .ok (.lrem, 1) := by decide +kernel
theorem dX6_rootOf_23 : decode cX6_rootOf 23 = .ok (.lconst 0, 1) := by decide +kernel
theorem dX6_rootOf_24 : decode cX6_rootOf 24 = .ok (.lcmp, 1) := by decide +kernel
theorem dX6_rootOf_25 : decode cX6_rootOf 25 = .ok (.ifCond .ne 15, 3) := by decide +kernel
theorem dX6_rootOf_28 : decode cX6_rootOf 28 = .ok (.lload_n 3, 1) := by decide +kernel
theorem dX6_rootOf_29 : decode cX6_rootOf 29 = .ok (.ldc2_w 50, 3) := by decide +kernel
theorem dX6_rootOf_32 : decode cX6_rootOf 32 = .ok (.ldiv, 1) := by decide +kernel
theorem dX6_rootOf_33 : decode cX6_rootOf 33 = .ok (.lstore_n 3, 1) := by decide +kernel
theorem dX6_rootOf_34 : decode cX6_rootOf 34 = .ok (.iinc 5 1, 3) := by decide +kernel
theorem dX6_rootOf_37 : decode cX6_rootOf 37 = .ok (.goto (-19), 3) := by decide +kernel
theorem dX6_rootOf_40 : decode cX6_rootOf 40 = .ok (.ldc2_w 50, 3) := by decide +kernel
theorem dX6_rootOf_43 : decode cX6_rootOf 43 = .ok (.lstore 6, 2) := by decide +kernel
theorem dX6_rootOf_45 : decode cX6_rootOf 45 = .ok (.aload_n 0, 1) := by decide +kernel
theorem dX6_rootOf_46 : decode cX6_rootOf 46 = .ok (.lload 6, 2) := by decide +kernel
theorem dX6_rootOf_48 : decode cX6_rootOf 48 = .ok (.invokevirtual 83, 3) := by decide +kernel
theorem dX6_rootOf_51 : decode cX6_rootOf 51 = .ok (.ifCond .eq 12, 3) := by decide +kernel
theorem dX6_rootOf_54 : decode cX6_rootOf 54 = .ok (.lload 6, 2) := by decide +kernel
theorem dX6_rootOf_56 : decode cX6_rootOf 56 = .ok (.lconst 1, 1) := by decide +kernel
theorem dX6_rootOf_57 : decode cX6_rootOf 57 = .ok (.ladd, 1) := by decide +kernel
theorem dX6_rootOf_58 : decode cX6_rootOf 58 = .ok (.lstore 6, 2) := by decide +kernel
theorem dX6_rootOf_60 : decode cX6_rootOf 60 = .ok (.goto (-15), 3) := by decide +kernel
theorem dX6_rootOf_63 : decode cX6_rootOf 63 = .ok (.aload_n 0, 1) := by decide +kernel
theorem dX6_rootOf_64 : decode cX6_rootOf 64 = .ok (.lload 6, 2) := by decide +kernel
theorem dX6_rootOf_66 : decode cX6_rootOf 66 = .ok (.lload_n 3, 1) := by decide +kernel
theorem dX6_rootOf_67 : decode cX6_rootOf 67 = .ok (.invokevirtual 80, 3) := by decide +kernel
theorem dX6_rootOf_70 : decode cX6_rootOf 70 = .ok (.lstore 8, 2) := by decide +kernel
theorem dX6_rootOf_72 : decode cX6_rootOf 72 = .ok (.aload_n 0, 1) := by decide +kernel
theorem dX6_rootOf_73 : decode cX6_rootOf 73 = .ok (.lload_n 1, 1) := by decide +kernel
theorem dX6_rootOf_74 : decode cX6_rootOf 74 = .ok (.lload_n 3, 1) := by decide +kernel
theorem dX6_rootOf_75 : decode cX6_rootOf 75 = .ok (.lconst 1, 1) := by decide +kernel
theorem dX6_rootOf_76 : decode cX6_rootOf 76 = .ok (.ladd, 1) := by decide +kernel
theorem dX6_rootOf_77 : decode cX6_rootOf 77 = .ok (.ldc2_w 50, 3) := by decide +kernel
theorem dX6_rootOf_80 : decode cX6_rootOf 80 = .ok (.ldiv, 1) := by decide +kernel
theorem dX6_rootOf_81 : decode cX6_rootOf 81 = .ok (.invokevirtual 80, 3) := by decide +kernel
theorem dX6_rootOf_84 : decode cX6_rootOf 84 = .ok (.lstore 10, 2) := by decide +kernel
theorem dX6_rootOf_86 : decode cX6_rootOf 86 = .ok (.aload_n 0, 1) := by decide +kernel
theorem dX6_rootOf_87 : decode cX6_rootOf 87 = .ok (.lload_n 1, 1) := by decide +kernel
theorem dX6_rootOf_88 : decode cX6_rootOf 88 = .ok (.lload_n 3, 1) := by decide +kernel
theorem dX6_rootOf_89 : decode cX6_rootOf 89 = .ok (.invokevirtual 80, 3) := by decide +kernel
theorem dX6_rootOf_92 : decode cX6_rootOf 92 = .ok (.lstore 12, 2) := by decide +kernel
theorem dX6_rootOf_94 : decode cX6_rootOf 94 = .ok (.iload 5, 2) := by decide +kernel
theorem dX6_rootOf_96 : decode cX6_rootOf 96 = .ok (.istore 14, 2) := by decide +kernel
theorem dX6_rootOf_98 : decode cX6_rootOf 98 = .ok (.lload 12, 2) := by decide +kernel
theorem dX6_rootOf_100 : decode cX6_rootOf 100 = .ok (.lconst 1, 1) := by decide +kernel
theorem dX6_rootOf_101 : decode cX6_rootOf 101 = .ok (.lcmp, 1) := by decide +kernel
theorem dX6_rootOf_102 : decode cX6_rootOf 102 = .ok (.ifCond .eq 105, 3) := by decide +kernel
theorem dX6_rootOf_105 : decode cX6_rootOf 105 = .ok (.iconst 0, 1) := by decide +kernel
theorem dX6_rootOf_106 : decode cX6_rootOf 106 = .ok (.istore 15, 2) := by decide +kernel
theorem dX6_rootOf_108 : decode cX6_rootOf 108 = .ok (.lload 12, 2) := by decide +kernel
theorem dX6_rootOf_110 : decode cX6_rootOf 110 = .ok (.lstore 16, 2) := by decide +kernel
theorem dX6_rootOf_112 : decode cX6_rootOf 112 = .ok (.lload 16, 2) := by decide +kernel
theorem dX6_rootOf_114 : decode cX6_rootOf 114 = .ok (.lconst 1, 1) := by decide +kernel
theorem dX6_rootOf_115 : decode cX6_rootOf 115 = .ok (.lcmp, 1) := by decide +kernel
theorem dX6_rootOf_116 : decode cX6_rootOf 116 = .ok (.ifCond .eq 19, 3) := by decide +kernel
theorem dX6_rootOf_119 : decode cX6_rootOf 119 = .ok (.iinc 15 1, 3) := by decide +kernel
theorem dX6_rootOf_122 : decode cX6_rootOf 122 = .ok (.aload_n 0, 1) := by decide +kernel
theorem dX6_rootOf_123 : decode cX6_rootOf 123 = .ok (.lload 16, 2) := by decide +kernel
theorem dX6_rootOf_125 : decode cX6_rootOf 125 = .ok (.lload 16, 2) := by decide +kernel
theorem dX6_rootOf_127 : decode cX6_rootOf 127 = .ok (.invokevirtual 76, 3) := by decide +kernel
theorem dX6_rootOf_130 : decode cX6_rootOf 130 = .ok (.lstore 16, 2) := by decide +kernel
theorem dX6_rootOf_132 : decode cX6_rootOf 132 = .ok (.goto (-20), 3) := by decide +kernel
theorem dX6_rootOf_135 : decode cX6_rootOf 135 = .ok (.lload 8, 2) := by decide +kernel
theorem dX6_rootOf_137 : decode cX6_rootOf 137 = .ok (.lstore 16, 2) := by decide +kernel
theorem dX6_rootOf_139 : decode cX6_rootOf 139 = .ok (.iconst 0, 1) := by decide +kernel
theorem dX6_rootOf_140 : decode cX6_rootOf 140 = .ok (.istore 18, 2) := by decide +kernel
theorem dX6_rootOf_142 : decode cX6_rootOf 142 = .ok (.iload 18, 2) := by decide +kernel
theorem dX6_rootOf_144 : decode cX6_rootOf 144 = .ok (.iload 14, 2) := by decide +kernel
theorem dX6_rootOf_146 : decode cX6_rootOf 146 = .ok (.iload 15, 2) := by decide +kernel
theorem dX6_rootOf_148 : decode cX6_rootOf 148 = .ok (.isub, 1) := by decide +kernel
theorem dX6_rootOf_149 : decode cX6_rootOf 149 = .ok (.iconst 1, 1) := by decide +kernel
theorem dX6_rootOf_150 : decode cX6_rootOf 150 = .ok (.isub, 1) := by decide +kernel
theorem dX6_rootOf_151 : decode cX6_rootOf 151 = .ok (.if_icmp .ge 19, 3) := by decide +kernel
theorem dX6_rootOf_154 : decode cX6_rootOf 154 = .ok (.aload_n 0, 1) := by decide +kernel
theorem dX6_rootOf_155 : decode cX6_rootOf 155 = .ok (.lload 16, 2) := by decide +kernel
theorem dX6_rootOf_157 : decode cX6_rootOf 157 = .ok (.lload 16, 2) := by decide +kernel
theorem dX6_rootOf_159 : decode cX6_rootOf 159 = .ok (.invokevirtual 76, 3) := by decide +kernel
theorem dX6_rootOf_162 : decode cX6_rootOf 162 = .ok (.lstore 16, 2) := by decide +kernel
theorem dX6_rootOf_164 : decode cX6_rootOf 164 = .ok (.iinc 18 1, 3) := by decide +kernel
theorem dX6_rootOf_167 : decode cX6_rootOf 167 = .ok (.goto (-25), 3) := by decide +kernel
theorem dX6_rootOf_170 : decode cX6_rootOf 170 = .ok (.aload_n 0, 1) := by decide +kernel
theorem dX6_rootOf_171 : decode cX6_rootOf 171 = .ok (.lload 10, 2) := by decide +kernel
theorem dX6_rootOf_173 : decode cX6_rootOf 173 = .ok (.lload 16, 2) := by decide +kernel
theorem dX6_rootOf_175 : decode cX6_rootOf 175 = .ok (.invokevirtual 76, 3) := by decide +kernel
theorem dX6_rootOf_178 : decode cX6_rootOf 178 = .ok (.lstore 10, 2) := by decide +kernel
theorem dX6_rootOf_180 : decode cX6_rootOf 180 = .ok (.aload_n 0, 1) := by decide +kernel
theorem dX6_rootOf_181 : decode cX6_rootOf 181 = .ok (.lload 16, 2) := by decide +kernel
theorem dX6_rootOf_183 : decode cX6_rootOf 183 = .ok (.lload 16, 2) := by decide +kernel
theorem dX6_rootOf_185 : decode cX6_rootOf 185 = .ok (.invokevirtual 76, 3) := by decide +kernel
theorem dX6_rootOf_188 : decode cX6_rootOf 188 = .ok (.lstore 8, 2) := by decide +kernel
theorem dX6_rootOf_190 : decode cX6_rootOf 190 = .ok (.aload_n 0, 1) := by decide +kernel
theorem dX6_rootOf_191 : decode cX6_rootOf 191 = .ok (.lload 12, 2) := by decide +kernel
theorem dX6_rootOf_193 : decode cX6_rootOf 193 = .ok (.lload 8, 2) := by decide +kernel
theorem dX6_rootOf_195 : decode cX6_rootOf 195 = .ok (.invokevirtual 76, 3) := by decide +kernel
theorem dX6_rootOf_198 : decode cX6_rootOf 198 = .ok (.lstore 12, 2) := by decide +kernel
theorem dX6_rootOf_200 : decode cX6_rootOf 200 = .ok (.iload 15, 2) := by decide +kernel
theorem dX6_rootOf_202 : decode cX6_rootOf 202 = .ok (.istore 14, 2) := by decide +kernel
theorem dX6_rootOf_204 : decode cX6_rootOf 204 = .ok (.goto (-106), 3) := by decide +kernel
theorem dX6_rootOf_207 : decode cX6_rootOf 207 = .ok (.lload 10, 2) := by decide +kernel
theorem dX6_rootOf_209 : decode cX6_rootOf 209 = .ok (.aload_n 0, 1) := by decide +kernel
theorem dX6_rootOf_210 : decode cX6_rootOf 210 = .ok (.getfield 60, 3) := by decide +kernel
theorem dX6_rootOf_213 : decode cX6_rootOf 213 = .ok (.lload 10, 2) := by decide +kernel
theorem dX6_rootOf_215 : decode cX6_rootOf 215 = .ok (.lsub, 1) := by decide +kernel
theorem dX6_rootOf_216 : decode cX6_rootOf 216 = .ok (.lcmp, 1) := by decide +kernel
theorem dX6_rootOf_217 : decode cX6_rootOf 217 = .ok (.ifCond .gt 8, 3) := by decide +kernel
theorem dX6_rootOf_220 : decode cX6_rootOf 220 = .ok (.lload 10, 2) := by decide +kernel
theorem dX6_rootOf_222 : decode cX6_rootOf 222 = .ok (.goto 10, 3) := by decide +kernel
theorem dX6_rootOf_225 : decode cX6_rootOf 225 = .ok (.aload_n 0, 1) := by decide +kernel
theorem dX6_rootOf_226 : decode cX6_rootOf 226 = .ok (.getfield 60, 3) := by decide +kernel
theorem dX6_rootOf_229 : decode cX6_rootOf 229 = .ok (.lload 10, 2) := by decide +kernel
theorem dX6_rootOf_231 : decode cX6_rootOf 231 = .ok (.lsub, 1) := by decide +kernel
theorem dX6_rootOf_232 : decode cX6_rootOf 232 = .ok (.lreturn, 1) := by decide +kernel
theorem dX6_root_0 : decode cX6_root 0 = .ok (.aload_n 0, 1) := by decide +kernel
theorem dX6_root_1 : decode cX6_root 1 = .ok (.lload_n 1, 1) := by decide +kernel
theorem dX6_root_2 : decode cX6_root 2 = .ok (.invokevirtual 87, 3) := by decide +kernel
theorem dX6_root_5 : decode cX6_root 5 = .ok (.lstore_n 3, 1) := by decide +kernel
theorem dX6_root_6 : decode cX6_root 6 = .ok (.aload_n 0, 1) := by decide +kernel
theorem dX6_root_7 : decode cX6_root 7 = .ok (.lload_n 3, 1) := by decide +kernel
theorem dX6_root_8 : decode cX6_root 8 = .ok (.invokevirtual 83, 3) := by decide +kernel
theorem dX6_root_11 : decode cX6_root 11 = .ok (.ifCond .eq 12, 3) := by decide +kernel
theorem dX6_root_14 : decode cX6_root 14 = .ok (.aload_n 0, 1) := by decide +kernel
theorem dX6_root_15 : decode cX6_root 15 = .ok (.lload_n 3, 1) := by decide +kernel
theorem dX6_root_16 : decode cX6_root 16 = .ok (.invokevirtual 91, 3) := by decide +kernel
theorem dX6_root_19 : decode cX6_root 19 = .ok (.l2i, 1) := by decide +kernel
theorem dX6_root_20 : decode cX6_root 20 = .ok (.goto 4, 3) := by decide +kernel
theorem dX6_root_23 : decode cX6_root 23 = .ok (.iconst (-1), 1) := by decide +kernel
theorem dX6_root_24 : decode cX6_root 24 = .ok (.ireturn, 1) := by decide +kernel
theorem dX6_at_0 : decode cX6_at 0 = .ok (.aload_n 0, 1) := by decide +kernel
theorem dX6_at_1 : decode cX6_at 1 = .ok (.getfield 32, 3) := by decide +kernel
theorem dX6_at_4 : decode cX6_at 4 = .ok (.bipush 20, 2) := by decide +kernel
theorem dX6_at_6 : decode cX6_at 6 = .ok (.iload_n 1, 1) := by decide +kernel
theorem dX6_at_7 : decode cX6_at 7 = .ok (.imul, 1) := by decide +kernel
theorem dX6_at_8 : decode cX6_at 8 = .ok (.iload_n 2, 1) := by decide +kernel
theorem dX6_at_9 : decode cX6_at 9 = .ok (.iadd, 1) := by decide +kernel
theorem dX6_at_10 : decode cX6_at 10 = .ok (.laload, 1) := by decide +kernel
theorem dX6_at_11 : decode cX6_at 11 = .ok (.lreturn, 1) := by decide +kernel
theorem dX6_set_0 : decode cX6_set 0 = .ok (.aload_n 0, 1) := by decide +kernel
theorem dX6_set_1 : decode cX6_set 1 = .ok (.getfield 32, 3) := by decide +kernel
theorem dX6_set_4 : decode cX6_set 4 = .ok (.bipush 20, 2) := by decide +kernel
theorem dX6_set_6 : decode cX6_set 6 = .ok (.iload_n 1, 1) := by decide +kernel
theorem dX6_set_7 : decode cX6_set 7 = .ok (.imul, 1) := by decide +kernel
theorem dX6_set_8 : decode cX6_set 8 = .ok (.iload_n 2, 1) := by decide +kernel
theorem dX6_set_9 : decode cX6_set 9 = .ok (.iadd, 1) := by decide +kernel
theorem dX6_set_10 : decode cX6_set 10 = .ok (.lload_n 3, 1) := by decide +kernel
theorem dX6_set_11 : decode cX6_set 11 = .ok (.lastore, 1) := by decide +kernel
theorem dX6_set_12 : decode cX6_set 12 = .ok (.return_, 1) := by decide +kernel
theorem dX6_reduce_0 : decode cX6_reduce 0 = .ok (.iconst 0, 1) := by decide +kernel
theorem dX6_reduce_1 : decode cX6_reduce 1 = .ok (.istore 4, 2) := by decide +kernel
theorem dX6_reduce_3 : decode cX6_reduce 3 = .ok (.iconst 0, 1) := by decide +kernel
theorem dX6_reduce_4 : decode cX6_reduce 4 = .ok (.istore 5, 2) := by decide +kernel
theorem dX6_reduce_6 : decode cX6_reduce 6 = .ok (.iload 5, 2) := by decide +kernel
theorem dX6_reduce_8 : decode cX6_reduce 8 = .ok (.iload_n 3, 1) := by decide +kernel
theorem dX6_reduce_9 : decode cX6_reduce 9 = .ok (.if_icmp .ge 216, 3) := by decide +kernel
theorem dX6_reduce_12 : decode cX6_reduce 12 = .ok (.iload 4, 2) := by decide +kernel
theorem dX6_reduce_14 : decode cX6_reduce 14 = .ok (.iload_n 1, 1) := by decide +kernel
theorem dX6_reduce_15 : decode cX6_reduce 15 = .ok (.if_icmp .ge 210, 3) := by decide +kernel
theorem dX6_reduce_18 : decode cX6_reduce 18 = .ok (.iload 4, 2) := by decide +kernel
theorem dX6_reduce_20 : decode cX6_reduce 20 = .ok (.istore 6, 2) := by decide +kernel
theorem dX6_reduce_22 : decode cX6_reduce 22 = .ok (.iload 6, 2) := by decide +kernel
theorem dX6_reduce_24 : decode cX6_reduce 24 = .ok (.iload_n 1, 1) := by decide +kernel
theorem dX6_reduce_25 : decode cX6_reduce 25 = .ok (.if_icmp .ge 22, 3) := by decide +kernel
theorem dX6_reduce_28 : decode cX6_reduce 28 = .ok (.aload_n 0, 1) := by decide +kernel
theorem dX6_reduce_29 : decode cX6_reduce 29 = .ok (.iload 6, 2) := by decide +kernel
theorem dX6_reduce_31 : decode cX6_reduce 31 = .ok (.iload 5, 2) := by decide +kernel
theorem dX6_reduce_33 : decode cX6_reduce 33 = .ok (.invokevirtual 94, 3) := by decide +kernel
theorem dX6_reduce_36 : decode cX6_reduce 36 = .ok (.lconst 0, 1) := by decide +kernel
theorem dX6_reduce_37 : decode cX6_reduce 37 = .ok (.lcmp, 1) := by decide +kernel
theorem dX6_reduce_38 : decode cX6_reduce 38 = .ok (.ifCond .ne 9, 3) := by decide +kernel
theorem dX6_reduce_41 : decode cX6_reduce 41 = .ok (.iinc 6 1, 3) := by decide +kernel
theorem dX6_reduce_44 : decode cX6_reduce 44 = .ok (.goto (-22), 3) := by decide +kernel
theorem dX6_reduce_47 : decode cX6_reduce 47 = .ok (.iload 6, 2) := by decide +kernel
theorem dX6_reduce_49 : decode cX6_reduce 49 = .ok (.iload_n 1, 1) := by decide +kernel
theorem dX6_reduce_50 : decode cX6_reduce 50 = .ok (.if_icmp .ge 169, 3) := by decide +kernel
theorem dX6_reduce_53 : decode cX6_reduce 53 = .ok (.aload_n 0, 1) := by decide +kernel
theorem dX6_reduce_54 : decode cX6_reduce 54 = .ok (.aload_n 0, 1) := by decide +kernel
theorem dX6_reduce_55 : decode cX6_reduce 55 = .ok (.iload 6, 2) := by decide +kernel
theorem dX6_reduce_57 : decode cX6_reduce 57 = .ok (.iload 5, 2) := by decide +kernel
theorem dX6_reduce_59 : decode cX6_reduce 59 = .ok (.invokevirtual 94, 3) := by decide +kernel
theorem dX6_reduce_62 : decode cX6_reduce 62 = .ok (.invokevirtual 98, 3) := by decide +kernel
theorem dX6_reduce_65 : decode cX6_reduce 65 = .ok (.lstore 7, 2) := by decide +kernel
theorem dX6_reduce_67 : decode cX6_reduce 67 = .ok (.iconst 0, 1) := by decide +kernel
theorem dX6_reduce_68 : decode cX6_reduce 68 = .ok (.istore 9, 2) := by decide +kernel
theorem dX6_reduce_70 : decode cX6_reduce 70 = .ok (.iload 9, 2) := by decide +kernel
theorem dX6_reduce_72 : decode cX6_reduce 72 = .ok (.iload_n 2, 1) := by decide +kernel
theorem dX6_reduce_73 : decode cX6_reduce 73 = .ok (.if_icmp .ge 51, 3) := by decide +kernel
theorem dX6_reduce_76 : decode cX6_reduce 76 = .ok (.aload_n 0, 1) := by decide +kernel
theorem dX6_reduce_77 : decode cX6_reduce 77 = .ok (.iload 6, 2) := by decide +kernel
theorem dX6_reduce_79 : decode cX6_reduce 79 = .ok (.iload 9, 2) := by decide +kernel
theorem dX6_reduce_81 : decode cX6_reduce 81 = .ok (.invokevirtual 94, 3) := by decide +kernel
theorem dX6_reduce_84 : decode cX6_reduce 84 = .ok (.lstore 10, 2) := by decide +kernel
theorem dX6_reduce_86 : decode cX6_reduce 86 = .ok (.aload_n 0, 1) := by decide +kernel
theorem dX6_reduce_87 : decode cX6_reduce 87 = .ok (.iload 6, 2) := by decide +kernel
theorem dX6_reduce_89 : decode cX6_reduce 89 = .ok (.iload 9, 2) := by decide +kernel
theorem dX6_reduce_91 : decode cX6_reduce 91 = .ok (.aload_n 0, 1) := by decide +kernel
theorem dX6_reduce_92 : decode cX6_reduce 92 = .ok (.iload 4, 2) := by decide +kernel
theorem dX6_reduce_94 : decode cX6_reduce 94 = .ok (.iload 9, 2) := by decide +kernel
theorem dX6_reduce_96 : decode cX6_reduce 96 = .ok (.invokevirtual 94, 3) := by decide +kernel
theorem dX6_reduce_99 : decode cX6_reduce 99 = .ok (.invokevirtual 101, 3) := by decide +kernel
theorem dX6_reduce_102 : decode cX6_reduce 102 = .ok (.aload_n 0, 1) := by decide +kernel
theorem dX6_reduce_103 : decode cX6_reduce 103 = .ok (.iload 4, 2) := by decide +kernel
theorem dX6_reduce_105 : decode cX6_reduce 105 = .ok (.iload 9, 2) := by decide +kernel
theorem dX6_reduce_107 : decode cX6_reduce 107 = .ok (.aload_n 0, 1) := by decide +kernel
theorem dX6_reduce_108 : decode cX6_reduce 108 = .ok (.lload 10, 2) := by decide +kernel
theorem dX6_reduce_110 : decode cX6_reduce 110 = .ok (.lload 7, 2) := by decide +kernel
theorem dX6_reduce_112 : decode cX6_reduce 112 = .ok (.invokevirtual 76, 3) := by decide +kernel
theorem dX6_reduce_115 : decode cX6_reduce 115 = .ok (.invokevirtual 101, 3) := by decide +kernel
theorem dX6_reduce_118 : decode cX6_reduce 118 = .ok (.iinc 9 1, 3) := by decide +kernel
theorem dX6_reduce_121 : decode cX6_reduce 121 = .ok (.goto (-51), 3) := by decide +kernel
theorem dX6_reduce_124 : decode cX6_reduce 124 = .ok (.iconst 0, 1) := by decide +kernel
theorem dX6_reduce_125 : decode cX6_reduce 125 = .ok (.istore 9, 2) := by decide +kernel
theorem dX6_reduce_127 : decode cX6_reduce 127 = .ok (.iload 9, 2) := by decide +kernel
theorem dX6_reduce_129 : decode cX6_reduce 129 = .ok (.iload_n 1, 1) := by decide +kernel
theorem dX6_reduce_130 : decode cX6_reduce 130 = .ok (.if_icmp .ge 86, 3) := by decide +kernel
theorem dX6_reduce_133 : decode cX6_reduce 133 = .ok (.iload 9, 2) := by decide +kernel
theorem dX6_reduce_135 : decode cX6_reduce 135 = .ok (.iload 4, 2) := by decide +kernel
theorem dX6_reduce_137 : decode cX6_reduce 137 = .ok (.if_icmp .ne 7, 3) := by decide +kernel
theorem dX6_reduce_140 : decode cX6_reduce 140 = .ok (.lconst 0, 1) := by decide +kernel
theorem dX6_reduce_141 : decode cX6_reduce 141 = .ok (.goto 11, 3) := by decide +kernel
theorem dX6_reduce_144 : decode cX6_reduce 144 = .ok (.aload_n 0, 1) := by decide +kernel
theorem dX6_reduce_145 : decode cX6_reduce 145 = .ok (.iload 9, 2) := by decide +kernel
theorem dX6_reduce_147 : decode cX6_reduce 147 = .ok (.iload 5, 2) := by decide +kernel
theorem dX6_reduce_149 : decode cX6_reduce 149 = .ok (.invokevirtual 94, 3) := by decide +kernel
theorem dX6_reduce_152 : decode cX6_reduce 152 = .ok (.lstore 10, 2) := by decide +kernel
theorem dX6_reduce_154 : decode cX6_reduce 154 = .ok (.iconst 0, 1) := by decide +kernel
theorem dX6_reduce_155 : decode cX6_reduce 155 = .ok (.istore 12, 2) := by decide +kernel
theorem dX6_reduce_157 : decode cX6_reduce 157 = .ok (.iload 12, 2) := by decide +kernel
theorem dX6_reduce_159 : decode cX6_reduce 159 = .ok (.iload_n 2, 1) := by decide +kernel
theorem dX6_reduce_160 : decode cX6_reduce 160 = .ok (.if_icmp .ge 50, 3) := by decide +kernel
theorem dX6_reduce_163 : decode cX6_reduce 163 = .ok (.lload 10, 2) := by decide +kernel
theorem dX6_reduce_165 : decode cX6_reduce 165 = .ok (.lconst 0, 1) := by decide +kernel
theorem dX6_reduce_166 : decode cX6_reduce 166 = .ok (.lcmp, 1) := by decide +kernel
theorem dX6_reduce_167 : decode cX6_reduce 167 = .ok (.ifCond .eq 43, 3) := by decide +kernel
theorem dX6_reduce_170 : decode cX6_reduce 170 = .ok (.aload_n 0, 1) := by decide +kernel
theorem dX6_reduce_171 : decode cX6_reduce 171 = .ok (.iload 9, 2) := by decide +kernel
theorem dX6_reduce_173 : decode cX6_reduce 173 = .ok (.iload 12, 2) := by decide +kernel
theorem dX6_reduce_175 : decode cX6_reduce 175 = .ok (.aload_n 0, 1) := by decide +kernel
theorem dX6_reduce_176 : decode cX6_reduce 176 = .ok (.aload_n 0, 1) := by decide +kernel
theorem dX6_reduce_177 : decode cX6_reduce 177 = .ok (.iload 9, 2) := by decide +kernel
theorem dX6_reduce_179 : decode cX6_reduce 179 = .ok (.iload 12, 2) := by decide +kernel
theorem dX6_reduce_181 : decode cX6_reduce 181 = .ok (.invokevirtual 94, 3) := by decide +kernel
theorem dX6_reduce_184 : decode cX6_reduce 184 = .ok (.aload_n 0, 1) := by decide +kernel
theorem dX6_reduce_185 : decode cX6_reduce 185 = .ok (.lload 10, 2) := by decide +kernel
theorem dX6_reduce_187 : decode cX6_reduce 187 = .ok (.aload_n 0, 1) := by decide +kernel
theorem dX6_reduce_188 : decode cX6_reduce 188 = .ok (.iload 4, 2) := by decide +kernel
theorem dX6_reduce_190 : decode cX6_reduce 190 = .ok (.iload 12, 2) := by decide +kernel
theorem dX6_reduce_192 : decode cX6_reduce 192 = .ok (.invokevirtual 94, 3) := by decide +kernel
theorem dX6_reduce_195 : decode cX6_reduce 195 = .ok (.invokevirtual 76, 3) := by decide +kernel
theorem dX6_reduce_198 : decode cX6_reduce 198 = .ok (.invokevirtual 105, 3) := by decide +kernel
theorem dX6_reduce_201 : decode cX6_reduce 201 = .ok (.invokevirtual 101, 3) := by decide +kernel
theorem dX6_reduce_204 : decode cX6_reduce 204 = .ok (.iinc 12 1, 3) := by decide +kernel
theorem dX6_reduce_207 : decode cX6_reduce 207 = .ok (.goto (-50), 3) := by decide +kernel
theorem dX6_reduce_210 : decode cX6_reduce 210 = .ok (.iinc 9 1, 3) := by decide +kernel
theorem dX6_reduce_213 : decode cX6_reduce 213 = .ok (.goto (-86), 3) := by decide +kernel
theorem dX6_reduce_216 : decode cX6_reduce 216 = .ok (.iinc 4 1, 3) := by decide +kernel
theorem dX6_reduce_219 : decode cX6_reduce 219 = .ok (.iinc 5 1, 3) := by decide +kernel
theorem dX6_reduce_222 : decode cX6_reduce 222 = .ok (.goto (-216), 3) := by decide +kernel
theorem dX6_reduce_225 : decode cX6_reduce 225 = .ok (.iload 4, 2) := by decide +kernel
theorem dX6_reduce_227 : decode cX6_reduce 227 = .ok (.ireturn, 1) := by decide +kernel
theorem dX6_side_0 : decode cX6_side 0 = .ok (.aload_n 0, 1) := by decide +kernel
theorem dX6_side_1 : decode cX6_side 1 = .ok (.getfield 56, 3) := by decide +kernel
theorem dX6_side_4 : decode cX6_side 4 = .ok (.iconst 1, 1) := by decide +kernel
theorem dX6_side_5 : decode cX6_side 5 = .ok (.iadd, 1) := by decide +kernel
theorem dX6_side_6 : decode cX6_side 6 = .ok (.ireturn, 1) := by decide +kernel
theorem dX6_of_0 : decode cX6_of 0 = .ok (.aload_n 0, 1) := by decide +kernel
theorem dX6_of_1 : decode cX6_of 1 = .ok (.getfield 13, 3) := by decide +kernel
theorem dX6_of_4 : decode cX6_of 4 = .ok (.bipush 16, 2) := by decide +kernel
theorem dX6_of_6 : decode cX6_of 6 = .ok (.iload_n 1, 1) := by decide +kernel
theorem dX6_of_7 : decode cX6_of 7 = .ok (.imul, 1) := by decide +kernel
theorem dX6_of_8 : decode cX6_of 8 = .ok (.iload_n 2, 1) := by decide +kernel
theorem dX6_of_9 : decode cX6_of 9 = .ok (.iadd, 1) := by decide +kernel
theorem dX6_of_10 : decode cX6_of 10 = .ok (.laload, 1) := by decide +kernel
theorem dX6_of_11 : decode cX6_of 11 = .ok (.lreturn, 1) := by decide +kernel
theorem dX6_lay_0 : decode cX6_lay 0 = .ok (.iconst 0, 1) := by decide +kernel
theorem dX6_lay_1 : decode cX6_lay 1 = .ok (.istore 4, 2) := by decide +kernel
theorem dX6_lay_3 : decode cX6_lay 3 = .ok (.iload 4, 2) := by decide +kernel
theorem dX6_lay_5 : decode cX6_lay 5 = .ok (.iload_n 3, 1) := by decide +kernel
theorem dX6_lay_6 : decode cX6_lay 6 = .ok (.if_icmp .ge 23, 3) := by decide +kernel
theorem dX6_lay_9 : decode cX6_lay 9 = .ok (.aload_n 0, 1) := by decide +kernel
theorem dX6_lay_10 : decode cX6_lay 10 = .ok (.iload_n 1, 1) := by decide +kernel
theorem dX6_lay_11 : decode cX6_lay 11 = .ok (.iload 4, 2) := by decide +kernel
theorem dX6_lay_13 : decode cX6_lay 13 = .ok (.aload_n 0, 1) := by decide +kernel
theorem dX6_lay_14 : decode cX6_lay 14 = .ok (.iload_n 2, 1) := by decide +kernel
theorem dX6_lay_15 : decode cX6_lay 15 = .ok (.iload 4, 2) := by decide +kernel
theorem dX6_lay_17 : decode cX6_lay 17 = .ok (.invokevirtual 108, 3) := by decide +kernel
theorem dX6_lay_20 : decode cX6_lay 20 = .ok (.invokevirtual 101, 3) := by decide +kernel
theorem dX6_lay_23 : decode cX6_lay 23 = .ok (.iinc 4 1, 3) := by decide +kernel
theorem dX6_lay_26 : decode cX6_lay 26 = .ok (.goto (-23), 3) := by decide +kernel
theorem dX6_lay_29 : decode cX6_lay 29 = .ok (.return_, 1) := by decide +kernel
theorem dX6_squareRank_0 : decode cX6_squareRank 0 = .ok (.iconst 0, 1) := by decide +kernel
theorem dX6_squareRank_1 : decode cX6_squareRank 1 = .ok (.istore_n 2, 1) := by decide +kernel
theorem dX6_squareRank_2 : decode cX6_squareRank 2 = .ok (.iload_n 2, 1) := by decide +kernel
theorem dX6_squareRank_3 : decode cX6_squareRank 3 = .ok (.aload_n 0, 1) := by decide +kernel
theorem dX6_squareRank_4 : decode cX6_squareRank 4 = .ok (.invokevirtual 111, 3) := by decide +kernel
theorem dX6_squareRank_7 : decode cX6_squareRank 7 = .ok (.if_icmp .ge 44, 3) := by decide +kernel
theorem dX6_squareRank_10 : decode cX6_squareRank 10 = .ok (.iconst 0, 1) := by decide +kernel
theorem dX6_squareRank_11 : decode cX6_squareRank 11 = .ok (.istore_n 3, 1) := by decide +kernel
theorem dX6_squareRank_12 : decode cX6_squareRank 12 = .ok (.iload_n 3, 1) := by decide +kernel
theorem dX6_squareRank_13 : decode cX6_squareRank 13 = .ok (.aload_n 0, 1) := by decide +kernel
theorem dX6_squareRank_14 : decode cX6_squareRank 14 = .ok (.invokevirtual 111, 3) := by decide +kernel
theorem dX6_squareRank_17 : decode cX6_squareRank 17 = .ok (.if_icmp .ge 28, 3) := by decide +kernel
theorem dX6_squareRank_20 : decode cX6_squareRank 20 = .ok (.aload_n 0, 1) := by decide +kernel
theorem dX6_squareRank_21 : decode cX6_squareRank 21 = .ok (.iload_n 2, 1) := by decide +kernel
theorem dX6_squareRank_22 : decode cX6_squareRank 22 = .ok (.iload_n 3, 1) := by decide +kernel
theorem dX6_squareRank_23 : decode cX6_squareRank 23 = .ok (.aload_n 0, 1) := by decide +kernel
theorem dX6_squareRank_24 : decode cX6_squareRank 24 = .ok (.iload_n 1, 1) := by decide +kernel
theorem dX6_squareRank_25 : decode cX6_squareRank 25 = .ok (.iload_n 2, 1) := by decide +kernel
theorem dX6_squareRank_26 : decode cX6_squareRank 26 = .ok (.aload_n 0, 1) := by decide +kernel
theorem dX6_squareRank_27 : decode cX6_squareRank 27 = .ok (.invokevirtual 111, 3) := by decide +kernel
theorem dX6_squareRank_30 : decode cX6_squareRank 30 = .ok (.imul, 1) := by decide +kernel
theorem dX6_squareRank_31 : decode cX6_squareRank 31 = .ok (.iload_n 3, 1) := by decide +kernel
theorem dX6_squareRank_32 : decode cX6_squareRank 32 = .ok (.iadd, 1) := by decide +kernel
theorem dX6_squareRank_33 : decode cX6_squareRank 33 = .ok (.invokevirtual 108, 3) := by decide +kernel
theorem dX6_squareRank_36 : decode cX6_squareRank 36 = .ok (.invokevirtual 101, 3) := by decide +kernel
theorem dX6_squareRank_39 : decode cX6_squareRank 39 = .ok (.iinc 3 1, 3) := by decide +kernel
theorem dX6_squareRank_42 : decode cX6_squareRank 42 = .ok (.goto (-30), 3) := by decide +kernel
theorem dX6_squareRank_45 : decode cX6_squareRank 45 = .ok (.iinc 2 1, 3) := by decide +kernel
theorem dX6_squareRank_48 : decode cX6_squareRank 48 = .ok (.goto (-46), 3) := by decide +kernel
theorem dX6_squareRank_51 : decode cX6_squareRank 51 = .ok (.aload_n 0, 1) := by decide +kernel
theorem dX6_squareRank_52 : decode cX6_squareRank 52 = .ok (.aload_n 0, 1) := by decide +kernel
theorem dX6_squareRank_53 : decode cX6_squareRank 53 = .ok (.invokevirtual 111, 3) := by decide +kernel
theorem dX6_squareRank_56 : decode cX6_squareRank 56 = .ok (.aload_n 0, 1) := by decide +kernel
theorem dX6_squareRank_57 : decode cX6_squareRank 57 = .ok (.invokevirtual 111, 3) := by decide +kernel
theorem dX6_squareRank_60 : decode cX6_squareRank 60 = .ok (.aload_n 0, 1) := by decide +kernel
theorem dX6_squareRank_61 : decode cX6_squareRank 61 = .ok (.invokevirtual 111, 3) := by decide +kernel
theorem dX6_squareRank_64 : decode cX6_squareRank 64 = .ok (.invokevirtual 115, 3) := by decide +kernel
theorem dX6_squareRank_67 : decode cX6_squareRank 67 = .ok (.ireturn, 1) := by decide +kernel
theorem dX6_isTurned_0 : decode cX6_isTurned 0 = .ok (.iconst 0, 1) := by decide +kernel
theorem dX6_isTurned_1 : decode cX6_isTurned 1 = .ok (.istore_n 2, 1) := by decide +kernel
theorem dX6_isTurned_2 : decode cX6_isTurned 2 = .ok (.iload_n 2, 1) := by decide +kernel
theorem dX6_isTurned_3 : decode cX6_isTurned 3 = .ok (.aload_n 0, 1) := by decide +kernel
theorem dX6_isTurned_4 : decode cX6_isTurned 4 = .ok (.invokevirtual 111, 3) := by decide +kernel
theorem dX6_isTurned_7 : decode cX6_isTurned 7 = .ok (.if_icmp .ge 65, 3) := by decide +kernel
theorem dX6_isTurned_10 : decode cX6_isTurned 10 = .ok (.iconst 0, 1) := by decide +kernel
theorem dX6_isTurned_11 : decode cX6_isTurned 11 = .ok (.istore_n 3, 1) := by decide +kernel
theorem dX6_isTurned_12 : decode cX6_isTurned 12 = .ok (.iload_n 3, 1) := by decide +kernel
theorem dX6_isTurned_13 : decode cX6_isTurned 13 = .ok (.aload_n 0, 1) := by decide +kernel
theorem dX6_isTurned_14 : decode cX6_isTurned 14 = .ok (.invokevirtual 111, 3) := by decide +kernel
theorem dX6_isTurned_17 : decode cX6_isTurned 17 = .ok (.if_icmp .ge 49, 3) := by decide +kernel
theorem dX6_isTurned_20 : decode cX6_isTurned 20 = .ok (.aload_n 0, 1) := by decide +kernel
theorem dX6_isTurned_21 : decode cX6_isTurned 21 = .ok (.iload_n 2, 1) := by decide +kernel
theorem dX6_isTurned_22 : decode cX6_isTurned 22 = .ok (.iload_n 3, 1) := by decide +kernel
theorem dX6_isTurned_23 : decode cX6_isTurned 23 = .ok (.aload_n 0, 1) := by decide +kernel
theorem dX6_isTurned_24 : decode cX6_isTurned 24 = .ok (.iload_n 1, 1) := by decide +kernel
theorem dX6_isTurned_25 : decode cX6_isTurned 25 = .ok (.iload_n 2, 1) := by decide +kernel
theorem dX6_isTurned_26 : decode cX6_isTurned 26 = .ok (.aload_n 0, 1) := by decide +kernel
theorem dX6_isTurned_27 : decode cX6_isTurned 27 = .ok (.invokevirtual 111, 3) := by decide +kernel
theorem dX6_isTurned_30 : decode cX6_isTurned 30 = .ok (.imul, 1) := by decide +kernel
theorem dX6_isTurned_31 : decode cX6_isTurned 31 = .ok (.iload_n 3, 1) := by decide +kernel
theorem dX6_isTurned_32 : decode cX6_isTurned 32 = .ok (.iadd, 1) := by decide +kernel
theorem dX6_isTurned_33 : decode cX6_isTurned 33 = .ok (.invokevirtual 108, 3) := by decide +kernel
theorem dX6_isTurned_36 : decode cX6_isTurned 36 = .ok (.invokevirtual 101, 3) := by decide +kernel
theorem dX6_isTurned_39 : decode cX6_isTurned 39 = .ok (.aload_n 0, 1) := by decide +kernel
theorem dX6_isTurned_40 : decode cX6_isTurned 40 = .ok (.iload_n 2, 1) := by decide +kernel
theorem dX6_isTurned_41 : decode cX6_isTurned 41 = .ok (.aload_n 0, 1) := by decide +kernel
theorem dX6_isTurned_42 : decode cX6_isTurned 42 = .ok (.invokevirtual 111, 3) := by decide +kernel
theorem dX6_isTurned_45 : decode cX6_isTurned 45 = .ok (.iload_n 3, 1) := by decide +kernel
theorem dX6_isTurned_46 : decode cX6_isTurned 46 = .ok (.iadd, 1) := by decide +kernel
theorem dX6_isTurned_47 : decode cX6_isTurned 47 = .ok (.iload_n 2, 1) := by decide +kernel
theorem dX6_isTurned_48 : decode cX6_isTurned 48 = .ok (.iload_n 3, 1) := by decide +kernel
theorem dX6_isTurned_49 : decode cX6_isTurned 49 = .ok (.if_icmp .ne 7, 3) := by decide +kernel
theorem dX6_isTurned_52 : decode cX6_isTurned 52 = .ok (.lconst 1, 1) := by decide +kernel
theorem dX6_isTurned_53 : decode cX6_isTurned 53 = .ok (.goto 4, 3) := by decide +kernel
theorem dX6_isTurned_56 : decode cX6_isTurned 56 = .ok (.lconst 0, 1) := by decide +kernel
theorem dX6_isTurned_57 : decode cX6_isTurned 57 = .ok (.invokevirtual 101, 3) := by decide +kernel
theorem dX6_isTurned_60 : decode cX6_isTurned 60 = .ok (.iinc 3 1, 3) := by decide +kernel
theorem dX6_isTurned_63 : decode cX6_isTurned 63 = .ok (.goto (-51), 3) := by decide +kernel
theorem dX6_isTurned_66 : decode cX6_isTurned 66 = .ok (.iinc 2 1, 3) := by decide +kernel
theorem dX6_isTurned_69 : decode cX6_isTurned 69 = .ok (.goto (-67), 3) := by decide +kernel
theorem dX6_isTurned_72 : decode cX6_isTurned 72 = .ok (.aload_n 0, 1) := by decide +kernel
theorem dX6_isTurned_73 : decode cX6_isTurned 73 = .ok (.aload_n 0, 1) := by decide +kernel
theorem dX6_isTurned_74 : decode cX6_isTurned 74 = .ok (.invokevirtual 111, 3) := by decide +kernel
theorem dX6_isTurned_77 : decode cX6_isTurned 77 = .ok (.iconst 2, 1) := by decide +kernel
theorem dX6_isTurned_78 : decode cX6_isTurned 78 = .ok (.aload_n 0, 1) := by decide +kernel
theorem dX6_isTurned_79 : decode cX6_isTurned 79 = .ok (.invokevirtual 111, 3) := by decide +kernel
theorem dX6_isTurned_82 : decode cX6_isTurned 82 = .ok (.imul, 1) := by decide +kernel
theorem dX6_isTurned_83 : decode cX6_isTurned 83 = .ok (.aload_n 0, 1) := by decide +kernel
theorem dX6_isTurned_84 : decode cX6_isTurned 84 = .ok (.invokevirtual 111, 3) := by decide +kernel
theorem dX6_isTurned_87 : decode cX6_isTurned 87 = .ok (.invokevirtual 115, 3) := by decide +kernel
theorem dX6_isTurned_90 : decode cX6_isTurned 90 = .ok (.aload_n 0, 1) := by decide +kernel
theorem dX6_isTurned_91 : decode cX6_isTurned 91 = .ok (.invokevirtual 111, 3) := by decide +kernel
theorem dX6_isTurned_94 : decode cX6_isTurned 94 = .ok (.if_icmp .ge 5, 3) := by decide +kernel
theorem dX6_isTurned_97 : decode cX6_isTurned 97 = .ok (.iconst 0, 1) := by decide +kernel
theorem dX6_isTurned_98 : decode cX6_isTurned 98 = .ok (.ireturn, 1) := by decide +kernel
theorem dX6_isTurned_99 : decode cX6_isTurned 99 = .ok (.iconst 0, 1) := by decide +kernel
theorem dX6_isTurned_100 : decode cX6_isTurned 100 = .ok (.istore_n 2, 1) := by decide +kernel
theorem dX6_isTurned_101 : decode cX6_isTurned 101 = .ok (.iload_n 2, 1) := by decide +kernel
theorem dX6_isTurned_102 : decode cX6_isTurned 102 = .ok (.aload_n 0, 1) := by decide +kernel
theorem dX6_isTurned_103 : decode cX6_isTurned 103 = .ok (.invokevirtual 111, 3) := by decide +kernel
theorem dX6_isTurned_106 : decode cX6_isTurned 106 = .ok (.if_icmp .ge 49, 3) := by decide +kernel
theorem dX6_isTurned_109 : decode cX6_isTurned 109 = .ok (.iconst 0, 1) := by decide +kernel
theorem dX6_isTurned_110 : decode cX6_isTurned 110 = .ok (.istore_n 3, 1) := by decide +kernel
theorem dX6_isTurned_111 : decode cX6_isTurned 111 = .ok (.iload_n 3, 1) := by decide +kernel
theorem dX6_isTurned_112 : decode cX6_isTurned 112 = .ok (.aload_n 0, 1) := by decide +kernel
theorem dX6_isTurned_113 : decode cX6_isTurned 113 = .ok (.invokevirtual 111, 3) := by decide +kernel
theorem dX6_isTurned_116 : decode cX6_isTurned 116 = .ok (.if_icmp .ge 33, 3) := by decide +kernel
theorem dX6_isTurned_119 : decode cX6_isTurned 119 = .ok (.aload_n 0, 1) := by decide +kernel
theorem dX6_isTurned_120 : decode cX6_isTurned 120 = .ok (.getfield 41, 3) := by decide +kernel
theorem dX6_isTurned_123 : decode cX6_isTurned 123 = .ok (.iload_n 2, 1) := by decide +kernel
theorem dX6_isTurned_124 : decode cX6_isTurned 124 = .ok (.aload_n 0, 1) := by decide +kernel
theorem dX6_isTurned_125 : decode cX6_isTurned 125 = .ok (.invokevirtual 111, 3) := by decide +kernel
theorem dX6_isTurned_128 : decode cX6_isTurned 128 = .ok (.imul, 1) := by decide +kernel
theorem dX6_isTurned_129 : decode cX6_isTurned 129 = .ok (.iload_n 3, 1) := by decide +kernel
theorem dX6_isTurned_130 : decode cX6_isTurned 130 = .ok (.iadd, 1) := by decide +kernel
theorem dX6_isTurned_131 : decode cX6_isTurned 131 = .ok (.aload_n 0, 1) := by decide +kernel
theorem dX6_isTurned_132 : decode cX6_isTurned 132 = .ok (.iload_n 2, 1) := by decide +kernel
theorem dX6_isTurned_133 : decode cX6_isTurned 133 = .ok (.aload_n 0, 1) := by decide +kernel
theorem dX6_isTurned_134 : decode cX6_isTurned 134 = .ok (.invokevirtual 111, 3) := by decide +kernel
theorem dX6_isTurned_137 : decode cX6_isTurned 137 = .ok (.iload_n 3, 1) := by decide +kernel
theorem dX6_isTurned_138 : decode cX6_isTurned 138 = .ok (.iadd, 1) := by decide +kernel
theorem dX6_isTurned_139 : decode cX6_isTurned 139 = .ok (.invokevirtual 94, 3) := by decide +kernel
theorem dX6_isTurned_142 : decode cX6_isTurned 142 = .ok (.lastore, 1) := by decide +kernel
theorem dX6_isTurned_143 : decode cX6_isTurned 143 = .ok (.iinc 3 1, 3) := by decide +kernel
theorem dX6_isTurned_146 : decode cX6_isTurned 146 = .ok (.goto (-35), 3) := by decide +kernel
theorem dX6_isTurned_149 : decode cX6_isTurned 149 = .ok (.iinc 2 1, 3) := by decide +kernel
theorem dX6_isTurned_152 : decode cX6_isTurned 152 = .ok (.goto (-51), 3) := by decide +kernel
theorem dX6_isTurned_155 : decode cX6_isTurned 155 = .ok (.iconst 1, 1) := by decide +kernel
theorem dX6_isTurned_156 : decode cX6_isTurned 156 = .ok (.ireturn, 1) := by decide +kernel
theorem dX6_isObject_0 : decode cX6_isObject 0 = .ok (.iload_n 1, 1) := by decide +kernel
theorem dX6_isObject_1 : decode cX6_isObject 1 = .ok (.ifCond .lt 15, 3) := by decide +kernel
theorem dX6_isObject_4 : decode cX6_isObject 4 = .ok (.iload_n 1, 1) := by decide +kernel
theorem dX6_isObject_5 : decode cX6_isObject 5 = .ok (.aload_n 0, 1) := by decide +kernel
theorem dX6_isObject_6 : decode cX6_isObject 6 = .ok (.getfield 64, 3) := by decide +kernel
theorem dX6_isObject_9 : decode cX6_isObject 9 = .ok (.if_icmp .ge 7, 3) := by decide +kernel
theorem dX6_isObject_12 : decode cX6_isObject 12 = .ok (.iconst 1, 1) := by decide +kernel
theorem dX6_isObject_13 : decode cX6_isObject 13 = .ok (.goto 4, 3) := by decide +kernel
theorem dX6_isObject_16 : decode cX6_isObject 16 = .ok (.iconst 0, 1) := by decide +kernel
theorem dX6_isObject_17 : decode cX6_isObject 17 = .ok (.ireturn, 1) := by decide +kernel
theorem dX6_is_0 : decode cX6_is 0 = .ok (.aload_n 0, 1) := by decide +kernel
theorem dX6_is_1 : decode cX6_is 1 = .ok (.iload_n 1, 1) := by decide +kernel
theorem dX6_is_2 : decode cX6_is 2 = .ok (.invokevirtual 119, 3) := by decide +kernel
theorem dX6_is_5 : decode cX6_is 5 = .ok (.ifCond .eq 17, 3) := by decide +kernel
theorem dX6_is_8 : decode cX6_is 8 = .ok (.aload_n 0, 1) := by decide +kernel
theorem dX6_is_9 : decode cX6_is 9 = .ok (.getfield 7, 3) := by decide +kernel
theorem dX6_is_12 : decode cX6_is 12 = .ok (.iload_n 1, 1) := by decide +kernel
theorem dX6_is_13 : decode cX6_is 13 = .ok (.iaload, 1) := by decide +kernel
theorem dX6_is_14 : decode cX6_is 14 = .ok (.iload_n 2, 1) := by decide +kernel
theorem dX6_is_15 : decode cX6_is 15 = .ok (.if_icmp .ne 7, 3) := by decide +kernel
theorem dX6_is_18 : decode cX6_is 18 = .ok (.iconst 1, 1) := by decide +kernel
theorem dX6_is_19 : decode cX6_is 19 = .ok (.goto 4, 3) := by decide +kernel
theorem dX6_is_22 : decode cX6_is 22 = .ok (.iconst 0, 1) := by decide +kernel
theorem dX6_is_23 : decode cX6_is 23 = .ok (.ireturn, 1) := by decide +kernel
theorem dX6_width_0 : decode cX6_width 0 = .ok (.iload_n 1, 1) := by decide +kernel
theorem dX6_width_1 : decode cX6_width 1 = .ok (.iconst 3, 1) := by decide +kernel
theorem dX6_width_2 : decode cX6_width 2 = .ok (.if_icmp .eq 8, 3) := by decide +kernel
theorem dX6_width_5 : decode cX6_width 5 = .ok (.iload_n 1, 1) := by decide +kernel
theorem dX6_width_6 : decode cX6_width 6 = .ok (.iconst 4, 1) := by decide +kernel
theorem dX6_width_7 : decode cX6_width 7 = .ok (.if_icmp .ne 15, 3) := by decide +kernel
theorem dX6_width_10 : decode cX6_width 10 = .ok (.aload_n 0, 1) := by decide +kernel
theorem dX6_width_11 : decode cX6_width 11 = .ok (.invokevirtual 111, 3) := by decide +kernel
theorem dX6_width_14 : decode cX6_width 14 = .ok (.aload_n 0, 1) := by decide +kernel
theorem dX6_width_15 : decode cX6_width 15 = .ok (.invokevirtual 111, 3) := by decide +kernel
theorem dX6_width_18 : decode cX6_width 18 = .ok (.imul, 1) := by decide +kernel
theorem dX6_width_19 : decode cX6_width 19 = .ok (.goto 25, 3) := by decide +kernel
theorem dX6_width_22 : decode cX6_width 22 = .ok (.iload_n 1, 1) := by decide +kernel
theorem dX6_width_23 : decode cX6_width 23 = .ok (.iconst 1, 1) := by decide +kernel
theorem dX6_width_24 : decode cX6_width 24 = .ok (.if_icmp .ne 16, 3) := by decide +kernel
theorem dX6_width_27 : decode cX6_width 27 = .ok (.aload_n 0, 1) := by decide +kernel
theorem dX6_width_28 : decode cX6_width 28 = .ok (.getfield 56, 3) := by decide +kernel
theorem dX6_width_31 : decode cX6_width 31 = .ok (.iconst 3, 1) := by decide +kernel
theorem dX6_width_32 : decode cX6_width 32 = .ok (.if_icmp .ne 8, 3) := by decide +kernel
theorem dX6_width_35 : decode cX6_width 35 = .ok (.bipush 6, 2) := by decide +kernel
theorem dX6_width_37 : decode cX6_width 37 = .ok (.goto 7, 3) := by decide +kernel
theorem dX6_width_40 : decode cX6_width 40 = .ok (.aload_n 0, 1) := by decide +kernel
theorem dX6_width_41 : decode cX6_width 41 = .ok (.invokevirtual 111, 3) := by decide +kernel
theorem dX6_width_44 : decode cX6_width 44 = .ok (.ireturn, 1) := by decide +kernel
theorem dX6_clear_0 : decode cX6_clear 0 = .ok (.iconst 0, 1) := by decide +kernel
theorem dX6_clear_1 : decode cX6_clear 1 = .ok (.istore_n 1, 1) := by decide +kernel
theorem dX6_clear_2 : decode cX6_clear 2 = .ok (.iload_n 1, 1) := by decide +kernel
theorem dX6_clear_3 : decode cX6_clear 3 = .ok (.bipush 16, 2) := by decide +kernel
theorem dX6_clear_5 : decode cX6_clear 5 = .ok (.if_icmp .ge 16, 3) := by decide +kernel
theorem dX6_clear_8 : decode cX6_clear 8 = .ok (.aload_n 0, 1) := by decide +kernel
theorem dX6_clear_9 : decode cX6_clear 9 = .ok (.getfield 29, 3) := by decide +kernel
theorem dX6_clear_12 : decode cX6_clear 12 = .ok (.iload_n 1, 1) := by decide +kernel
theorem dX6_clear_13 : decode cX6_clear 13 = .ok (.lconst 0, 1) := by decide +kernel
theorem dX6_clear_14 : decode cX6_clear 14 = .ok (.lastore, 1) := by decide +kernel
theorem dX6_clear_15 : decode cX6_clear 15 = .ok (.iinc 1 1, 3) := by decide +kernel
theorem dX6_clear_18 : decode cX6_clear 18 = .ok (.goto (-16), 3) := by decide +kernel
theorem dX6_clear_21 : decode cX6_clear 21 = .ok (.return_, 1) := by decide +kernel
theorem dX6_isNothing_0 : decode cX6_isNothing 0 = .ok (.iconst 1, 1) := by decide +kernel
theorem dX6_isNothing_1 : decode cX6_isNothing 1 = .ok (.istore_n 2, 1) := by decide +kernel
theorem dX6_isNothing_2 : decode cX6_isNothing 2 = .ok (.iconst 0, 1) := by decide +kernel
theorem dX6_isNothing_3 : decode cX6_isNothing 3 = .ok (.istore_n 3, 1) := by decide +kernel
theorem dX6_isNothing_4 : decode cX6_isNothing 4 = .ok (.iload_n 3, 1) := by decide +kernel
theorem dX6_isNothing_5 : decode cX6_isNothing 5 = .ok (.aload_n 0, 1) := by decide +kernel
theorem dX6_isNothing_6 : decode cX6_isNothing 6 = .ok (.iload_n 1, 1) := by decide +kernel
theorem dX6_isNothing_7 : decode cX6_isNothing 7 = .ok (.invokevirtual 122, 3) := by decide +kernel
theorem dX6_isNothing_10 : decode cX6_isNothing 10 = .ok (.if_icmp .ge 30, 3) := by decide +kernel
theorem dX6_isNothing_13 : decode cX6_isNothing 13 = .ok (.iload_n 2, 1) := by decide +kernel
theorem dX6_isNothing_14 : decode cX6_isNothing 14 = .ok (.ifCond .eq 18, 3) := by decide +kernel
theorem dX6_isNothing_17 : decode cX6_isNothing 17 = .ok (.aload_n 0, 1) := by decide +kernel
theorem dX6_isNothing_18 : decode cX6_isNothing 18 = .ok (.getfield 29, 3) := by decide +kernel
theorem dX6_isNothing_21 : decode cX6_isNothing 21 = .ok (.iload_n 3, 1) := by decide +kernel
theorem dX6_isNothing_22 : decode cX6_isNothing 22 = .ok (.laload, 1) := by decide +kernel
theorem dX6_isNothing_23 : decode cX6_isNothing 23 = .ok (.lconst 0, 1) := by decide +kernel
theorem dX6_isNothing_24 : decode cX6_isNothing 24 = .ok (.lcmp, 1) := by decide +kernel
theorem dX6_isNothing_25 : decode cX6_isNothing 25 = .ok (.ifCond .ne 7, 3) := by decide +kernel
theorem dX6_isNothing_28 : decode cX6_isNothing 28 = .ok (.iconst 1, 1) := by decide +kernel
theorem dX6_isNothing_29 : decode cX6_isNothing 29 = .ok (.goto 4, 3) := by decide +kernel
theorem dX6_isNothing_32 : decode cX6_isNothing 32 = .ok (.iconst 0, 1) := by decide +kernel
theorem dX6_isNothing_33 : decode cX6_isNothing 33 = .ok (.istore_n 2, 1) := by decide +kernel
theorem dX6_isNothing_34 : decode cX6_isNothing 34 = .ok (.iinc 3 1, 3) := by decide +kernel
theorem dX6_isNothing_37 : decode cX6_isNothing 37 = .ok (.goto (-33), 3) := by decide +kernel
theorem dX6_isNothing_40 : decode cX6_isNothing 40 = .ok (.iload_n 2, 1) := by decide +kernel
theorem dX6_isNothing_41 : decode cX6_isNothing 41 = .ok (.ireturn, 1) := by decide +kernel
theorem dX6_scale_0 : decode cX6_scale 0 = .ok (.iconst 0, 1) := by decide +kernel
theorem dX6_scale_1 : decode cX6_scale 1 = .ok (.istore_n 2, 1) := by decide +kernel
theorem dX6_scale_2 : decode cX6_scale 2 = .ok (.aload_n 0, 1) := by decide +kernel
theorem dX6_scale_3 : decode cX6_scale 3 = .ok (.getfield 29, 3) := by decide +kernel
theorem dX6_scale_6 : decode cX6_scale 6 = .ok (.iload_n 2, 1) := by decide +kernel
theorem dX6_scale_7 : decode cX6_scale 7 = .ok (.laload, 1) := by decide +kernel
theorem dX6_scale_8 : decode cX6_scale 8 = .ok (.lconst 0, 1) := by decide +kernel
theorem dX6_scale_9 : decode cX6_scale 9 = .ok (.lcmp, 1) := by decide +kernel
theorem dX6_scale_10 : decode cX6_scale 10 = .ok (.ifCond .ne 9, 3) := by decide +kernel
theorem dX6_scale_13 : decode cX6_scale 13 = .ok (.iinc 2 1, 3) := by decide +kernel
theorem dX6_scale_16 : decode cX6_scale 16 = .ok (.goto (-14), 3) := by decide +kernel
theorem dX6_scale_19 : decode cX6_scale 19 = .ok (.aload_n 0, 1) := by decide +kernel
theorem dX6_scale_20 : decode cX6_scale 20 = .ok (.aload_n 0, 1) := by decide +kernel
theorem dX6_scale_21 : decode cX6_scale 21 = .ok (.getfield 29, 3) := by decide +kernel
theorem dX6_scale_24 : decode cX6_scale 24 = .ok (.iload_n 2, 1) := by decide +kernel
theorem dX6_scale_25 : decode cX6_scale 25 = .ok (.laload, 1) := by decide +kernel
theorem dX6_scale_26 : decode cX6_scale 26 = .ok (.invokevirtual 98, 3) := by decide +kernel
theorem dX6_scale_29 : decode cX6_scale 29 = .ok (.lstore_n 3, 1) := by decide +kernel
theorem dX6_scale_30 : decode cX6_scale 30 = .ok (.iconst 0, 1) := by decide +kernel
theorem dX6_scale_31 : decode cX6_scale 31 = .ok (.istore 5, 2) := by decide +kernel
theorem dX6_scale_33 : decode cX6_scale 33 = .ok (.iload 5, 2) := by decide +kernel
theorem dX6_scale_35 : decode cX6_scale 35 = .ok (.aload_n 0, 1) := by decide +kernel
theorem dX6_scale_36 : decode cX6_scale 36 = .ok (.iload_n 1, 1) := by decide +kernel
theorem dX6_scale_37 : decode cX6_scale 37 = .ok (.invokevirtual 122, 3) := by decide +kernel
theorem dX6_scale_40 : decode cX6_scale 40 = .ok (.if_icmp .ge 28, 3) := by decide +kernel
theorem dX6_scale_43 : decode cX6_scale 43 = .ok (.aload_n 0, 1) := by decide +kernel
theorem dX6_scale_44 : decode cX6_scale 44 = .ok (.getfield 29, 3) := by decide +kernel
theorem dX6_scale_47 : decode cX6_scale 47 = .ok (.iload 5, 2) := by decide +kernel
theorem dX6_scale_49 : decode cX6_scale 49 = .ok (.aload_n 0, 1) := by decide +kernel
theorem dX6_scale_50 : decode cX6_scale 50 = .ok (.aload_n 0, 1) := by decide +kernel
theorem dX6_scale_51 : decode cX6_scale 51 = .ok (.getfield 29, 3) := by decide +kernel
theorem dX6_scale_54 : decode cX6_scale 54 = .ok (.iload 5, 2) := by decide +kernel
theorem dX6_scale_56 : decode cX6_scale 56 = .ok (.laload, 1) := by decide +kernel
theorem dX6_scale_57 : decode cX6_scale 57 = .ok (.lload_n 3, 1) := by decide +kernel
theorem dX6_scale_58 : decode cX6_scale 58 = .ok (.invokevirtual 76, 3) := by decide +kernel
theorem dX6_scale_61 : decode cX6_scale 61 = .ok (.lastore, 1) := by decide +kernel
theorem dX6_scale_62 : decode cX6_scale 62 = .ok (.iinc 5 1, 3) := by decide +kernel
theorem dX6_scale_65 : decode cX6_scale 65 = .ok (.goto (-32), 3) := by decide +kernel
theorem dX6_scale_68 : decode cX6_scale 68 = .ok (.return_, 1) := by decide +kernel
theorem dX6_made_0 : decode cX6_made 0 = .ok (.aload_n 0, 1) := by decide +kernel
theorem dX6_made_1 : decode cX6_made 1 = .ok (.iload_n 1, 1) := by decide +kernel
theorem dX6_made_2 : decode cX6_made 2 = .ok (.invokevirtual 126, 3) := by decide +kernel
theorem dX6_made_5 : decode cX6_made 5 = .ok (.iconst 0, 1) := by decide +kernel
theorem dX6_made_6 : decode cX6_made 6 = .ok (.istore_n 2, 1) := by decide +kernel
theorem dX6_made_7 : decode cX6_made 7 = .ok (.iload_n 2, 1) := by decide +kernel
theorem dX6_made_8 : decode cX6_made 8 = .ok (.aload_n 0, 1) := by decide +kernel
theorem dX6_made_9 : decode cX6_made 9 = .ok (.getfield 64, 3) := by decide +kernel
theorem dX6_made_12 : decode cX6_made 12 = .ok (.if_icmp .ge 78, 3) := by decide +kernel
theorem dX6_made_15 : decode cX6_made 15 = .ok (.aload_n 0, 1) := by decide +kernel
theorem dX6_made_16 : decode cX6_made 16 = .ok (.getfield 7, 3) := by decide +kernel
theorem dX6_made_19 : decode cX6_made 19 = .ok (.iload_n 2, 1) := by decide +kernel
theorem dX6_made_20 : decode cX6_made 20 = .ok (.iaload, 1) := by decide +kernel
theorem dX6_made_21 : decode cX6_made 21 = .ok (.iload_n 1, 1) := by decide +kernel
theorem dX6_made_22 : decode cX6_made 22 = .ok (.if_icmp .ne 7, 3) := by decide +kernel
theorem dX6_made_25 : decode cX6_made 25 = .ok (.iconst 1, 1) := by decide +kernel
theorem dX6_made_26 : decode cX6_made 26 = .ok (.goto 4, 3) := by decide +kernel
theorem dX6_made_29 : decode cX6_made 29 = .ok (.iconst 0, 1) := by decide +kernel
theorem dX6_made_30 : decode cX6_made 30 = .ok (.istore_n 3, 1) := by decide +kernel
theorem dX6_made_31 : decode cX6_made 31 = .ok (.iconst 0, 1) := by decide +kernel
theorem dX6_made_32 : decode cX6_made 32 = .ok (.istore 4, 2) := by decide +kernel
theorem dX6_made_34 : decode cX6_made 34 = .ok (.iload_n 3, 1) := by decide +kernel
theorem dX6_made_35 : decode cX6_made 35 = .ok (.ifCond .eq 43, 3) := by decide +kernel
theorem dX6_made_38 : decode cX6_made 38 = .ok (.iload 4, 2) := by decide +kernel
theorem dX6_made_40 : decode cX6_made 40 = .ok (.aload_n 0, 1) := by decide +kernel
theorem dX6_made_41 : decode cX6_made 41 = .ok (.iload_n 1, 1) := by decide +kernel
theorem dX6_made_42 : decode cX6_made 42 = .ok (.invokevirtual 122, 3) := by decide +kernel
theorem dX6_made_45 : decode cX6_made 45 = .ok (.if_icmp .ge 33, 3) := by decide +kernel
theorem dX6_made_48 : decode cX6_made 48 = .ok (.aload_n 0, 1) := by decide +kernel
theorem dX6_made_49 : decode cX6_made 49 = .ok (.iload_n 2, 1) := by decide +kernel
theorem dX6_made_50 : decode cX6_made 50 = .ok (.iload 4, 2) := by decide +kernel
theorem dX6_made_52 : decode cX6_made 52 = .ok (.invokevirtual 108, 3) := by decide +kernel
theorem dX6_made_55 : decode cX6_made 55 = .ok (.aload_n 0, 1) := by decide +kernel
theorem dX6_made_56 : decode cX6_made 56 = .ok (.getfield 29, 3) := by decide +kernel
theorem dX6_made_59 : decode cX6_made 59 = .ok (.iload 4, 2) := by decide +kernel
theorem dX6_made_61 : decode cX6_made 61 = .ok (.laload, 1) := by decide +kernel
theorem dX6_made_62 : decode cX6_made 62 = .ok (.lcmp, 1) := by decide +kernel
theorem dX6_made_63 : decode cX6_made 63 = .ok (.ifCond .ne 7, 3) := by decide +kernel
theorem dX6_made_66 : decode cX6_made 66 = .ok (.iconst 1, 1) := by decide +kernel
theorem dX6_made_67 : decode cX6_made 67 = .ok (.goto 4, 3) := by decide +kernel
theorem dX6_made_70 : decode cX6_made 70 = .ok (.iconst 0, 1) := by decide +kernel
theorem dX6_made_71 : decode cX6_made 71 = .ok (.istore_n 3, 1) := by decide +kernel
theorem dX6_made_72 : decode cX6_made 72 = .ok (.iinc 4 1, 3) := by decide +kernel
theorem dX6_made_75 : decode cX6_made 75 = .ok (.goto (-41), 3) := by decide +kernel
theorem dX6_made_78 : decode cX6_made 78 = .ok (.iload_n 3, 1) := by decide +kernel
theorem dX6_made_79 : decode cX6_made 79 = .ok (.ifCond .eq 5, 3) := by decide +kernel
theorem dX6_made_82 : decode cX6_made 82 = .ok (.iload_n 2, 1) := by decide +kernel
theorem dX6_made_83 : decode cX6_made 83 = .ok (.ireturn, 1) := by decide +kernel
theorem dX6_made_84 : decode cX6_made 84 = .ok (.iinc 2 1, 3) := by decide +kernel
theorem dX6_made_87 : decode cX6_made 87 = .ok (.goto (-80), 3) := by decide +kernel
theorem dX6_made_90 : decode cX6_made 90 = .ok (.aload_n 0, 1) := by decide +kernel
theorem dX6_made_91 : decode cX6_made 91 = .ok (.getfield 64, 3) := by decide +kernel
theorem dX6_made_94 : decode cX6_made 94 = .ok (.bipush 60, 2) := by decide +kernel
theorem dX6_made_96 : decode cX6_made 96 = .ok (.if_icmp .ne 6, 3) := by decide +kernel
theorem dX6_made_99 : decode cX6_made 99 = .ok (.bipush (-3), 2) := by decide +kernel
theorem dX6_made_101 : decode cX6_made 101 = .ok (.ireturn, 1) := by decide +kernel
theorem dX6_made_102 : decode cX6_made 102 = .ok (.aload_n 0, 1) := by decide +kernel
theorem dX6_made_103 : decode cX6_made 103 = .ok (.getfield 7, 3) := by decide +kernel
theorem dX6_made_106 : decode cX6_made 106 = .ok (.aload_n 0, 1) := by decide +kernel
theorem dX6_made_107 : decode cX6_made 107 = .ok (.getfield 64, 3) := by decide +kernel
theorem dX6_made_110 : decode cX6_made 110 = .ok (.iload_n 1, 1) := by decide +kernel
theorem dX6_made_111 : decode cX6_made 111 = .ok (.iastore, 1) := by decide +kernel
theorem dX6_made_112 : decode cX6_made 112 = .ok (.iconst 0, 1) := by decide +kernel
theorem dX6_made_113 : decode cX6_made 113 = .ok (.istore_n 2, 1) := by decide +kernel
theorem dX6_made_114 : decode cX6_made 114 = .ok (.iload_n 2, 1) := by decide +kernel
theorem dX6_made_115 : decode cX6_made 115 = .ok (.bipush 16, 2) := by decide +kernel
theorem dX6_made_117 : decode cX6_made 117 = .ok (.if_icmp .ge 42, 3) := by decide +kernel
theorem dX6_made_120 : decode cX6_made 120 = .ok (.aload_n 0, 1) := by decide +kernel
theorem dX6_made_121 : decode cX6_made 121 = .ok (.getfield 13, 3) := by decide +kernel
theorem dX6_made_124 : decode cX6_made 124 = .ok (.bipush 16, 2) := by decide +kernel
theorem dX6_made_126 : decode cX6_made 126 = .ok (.aload_n 0, 1) := by decide +kernel
theorem dX6_made_127 : decode cX6_made 127 = .ok (.getfield 64, 3) := by decide +kernel
theorem dX6_made_130 : decode cX6_made 130 = .ok (.imul, 1) := by decide +kernel
theorem dX6_made_131 : decode cX6_made 131 = .ok (.iload_n 2, 1) := by decide +kernel
theorem dX6_made_132 : decode cX6_made 132 = .ok (.iadd, 1) := by decide +kernel
theorem dX6_made_133 : decode cX6_made 133 = .ok (.iload_n 2, 1) := by decide +kernel
theorem dX6_made_134 : decode cX6_made 134 = .ok (.aload_n 0, 1) := by decide +kernel
theorem dX6_made_135 : decode cX6_made 135 = .ok (.iload_n 1, 1) := by decide +kernel
theorem dX6_made_136 : decode cX6_made 136 = .ok (.invokevirtual 122, 3) := by decide +kernel
theorem dX6_made_139 : decode cX6_made 139 = .ok (.if_icmp .ge 12, 3) := by decide +kernel
theorem dX6_made_142 : decode cX6_made 142 = .ok (.aload_n 0, 1) := by decide +kernel
theorem dX6_made_143 : decode cX6_made 143 = .ok (.getfield 29, 3) := by decide +kernel
theorem dX6_made_146 : decode cX6_made 146 = .ok (.iload_n 2, 1) := by decide +kernel
theorem dX6_made_147 : decode cX6_made 147 = .ok (.laload, 1) := by decide +kernel
theorem dX6_made_148 : decode cX6_made 148 = .ok (.goto 4, 3) := by decide +kernel
theorem dX6_made_151 : decode cX6_made 151 = .ok (.lconst 0, 1) := by decide +kernel
theorem dX6_made_152 : decode cX6_made 152 = .ok (.lastore, 1) := by decide +kernel
theorem dX6_made_153 : decode cX6_made 153 = .ok (.iinc 2 1, 3) := by decide +kernel
theorem dX6_made_156 : decode cX6_made 156 = .ok (.goto (-42), 3) := by decide +kernel
theorem dX6_made_159 : decode cX6_made 159 = .ok (.aload_n 0, 1) := by decide +kernel
theorem dX6_made_160 : decode cX6_made 160 = .ok (.dup, 1) := by decide +kernel
theorem dX6_made_161 : decode cX6_made 161 = .ok (.getfield 64, 3) := by decide +kernel
theorem dX6_made_164 : decode cX6_made 164 = .ok (.iconst 1, 1) := by decide +kernel
theorem dX6_made_165 : decode cX6_made 165 = .ok (.iadd, 1) := by decide +kernel
theorem dX6_made_166 : decode cX6_made 166 = .ok (.putfield 64, 3) := by decide +kernel
theorem dX6_made_169 : decode cX6_made 169 = .ok (.aload_n 0, 1) := by decide +kernel
theorem dX6_made_170 : decode cX6_made 170 = .ok (.getfield 64, 3) := by decide +kernel
theorem dX6_made_173 : decode cX6_made 173 = .ok (.iconst 1, 1) := by decide +kernel
theorem dX6_made_174 : decode cX6_made 174 = .ok (.isub, 1) := by decide +kernel
theorem dX6_made_175 : decode cX6_made 175 = .ok (.ireturn, 1) := by decide +kernel
theorem dX6_madeOrNone_0 : decode cX6_madeOrNone 0 = .ok (.aload_n 0, 1) := by decide +kernel
theorem dX6_madeOrNone_1 : decode cX6_madeOrNone 1 = .ok (.iload_n 1, 1) := by decide +kernel
theorem dX6_madeOrNone_2 : decode cX6_madeOrNone 2 = .ok (.invokevirtual 130, 3) := by decide +kernel
theorem dX6_madeOrNone_5 : decode cX6_madeOrNone 5 = .ok (.ifCond .eq 7, 3) := by decide +kernel
theorem dX6_madeOrNone_8 : decode cX6_madeOrNone 8 = .ok (.iconst (-1), 1) := by decide +kernel
theorem dX6_madeOrNone_9 : decode cX6_madeOrNone 9 = .ok (.goto 8, 3) := by decide +kernel
theorem dX6_madeOrNone_12 : decode cX6_madeOrNone 12 = .ok (.aload_n 0, 1) := by decide +kernel
theorem dX6_madeOrNone_13 : decode cX6_madeOrNone 13 = .ok (.iload_n 1, 1) := by decide +kernel
theorem dX6_madeOrNone_14 : decode cX6_madeOrNone 14 = .ok (.invokevirtual 133, 3) := by decide +kernel
theorem dX6_madeOrNone_17 : decode cX6_madeOrNone 17 = .ok (.ireturn, 1) := by decide +kernel
theorem dX6_put_0 : decode cX6_put 0 = .ok (.iload_n 1, 1) := by decide +kernel
theorem dX6_put_1 : decode cX6_put 1 = .ok (.ifCond .lt 9, 3) := by decide +kernel
theorem dX6_put_4 : decode cX6_put 4 = .ok (.iload_n 1, 1) := by decide +kernel
theorem dX6_put_5 : decode cX6_put 5 = .ok (.bipush 16, 2) := by decide +kernel
theorem dX6_put_7 : decode cX6_put 7 = .ok (.if_icmp .lt 6, 3) := by decide +kernel
theorem dX6_put_10 : decode cX6_put 10 = .ok (.bipush (-2), 2) := by decide +kernel
theorem dX6_put_12 : decode cX6_put 12 = .ok (.ireturn, 1) := by decide +kernel
theorem dX6_put_13 : decode cX6_put 13 = .ok (.aload_n 0, 1) := by decide +kernel
theorem dX6_put_14 : decode cX6_put 14 = .ok (.getfield 17, 3) := by decide +kernel
theorem dX6_put_17 : decode cX6_put 17 = .ok (.iload_n 1, 1) := by decide +kernel
theorem dX6_put_18 : decode cX6_put 18 = .ok (.aload_n 0, 1) := by decide +kernel
theorem dX6_put_19 : decode cX6_put 19 = .ok (.lload_n 2, 1) := by decide +kernel
theorem dX6_put_20 : decode cX6_put 20 = .ok (.invokevirtual 87, 3) := by decide +kernel
theorem dX6_put_23 : decode cX6_put 23 = .ok (.lastore, 1) := by decide +kernel
theorem dX6_put_24 : decode cX6_put 24 = .ok (.aload_n 0, 1) := by decide +kernel
theorem dX6_put_25 : decode cX6_put 25 = .ok (.getfield 17, 3) := by decide +kernel
theorem dX6_put_28 : decode cX6_put 28 = .ok (.iload_n 1, 1) := by decide +kernel
theorem dX6_put_29 : decode cX6_put 29 = .ok (.laload, 1) := by decide +kernel
theorem dX6_put_30 : decode cX6_put 30 = .ok (.l2i, 1) := by decide +kernel
theorem dX6_put_31 : decode cX6_put 31 = .ok (.ireturn, 1) := by decide +kernel
theorem dX6_make_0 : decode cX6_make 0 = .ok (.iload_n 1, 1) := by decide +kernel
theorem dX6_make_1 : decode cX6_make 1 = .ok (.ifCond .lt 21, 3) := by decide +kernel
theorem dX6_make_4 : decode cX6_make 4 = .ok (.iload_n 1, 1) := by decide +kernel
theorem dX6_make_5 : decode cX6_make 5 = .ok (.iconst 4, 1) := by decide +kernel
theorem dX6_make_6 : decode cX6_make 6 = .ok (.if_icmp .gt 16, 3) := by decide +kernel
theorem dX6_make_9 : decode cX6_make 9 = .ok (.iload_n 1, 1) := by decide +kernel
theorem dX6_make_10 : decode cX6_make 10 = .ok (.iconst 2, 1) := by decide +kernel
theorem dX6_make_11 : decode cX6_make 11 = .ok (.if_icmp .ne 14, 3) := by decide +kernel
theorem dX6_make_14 : decode cX6_make 14 = .ok (.aload_n 0, 1) := by decide +kernel
theorem dX6_make_15 : decode cX6_make 15 = .ok (.getfield 56, 3) := by decide +kernel
theorem dX6_make_18 : decode cX6_make 18 = .ok (.iconst 2, 1) := by decide +kernel
theorem dX6_make_19 : decode cX6_make 19 = .ok (.if_icmp .ne 6, 3) := by decide +kernel
theorem dX6_make_22 : decode cX6_make 22 = .ok (.bipush (-2), 2) := by decide +kernel
theorem dX6_make_24 : decode cX6_make 24 = .ok (.ireturn, 1) := by decide +kernel
theorem dX6_make_25 : decode cX6_make 25 = .ok (.aload_n 0, 1) := by decide +kernel
theorem dX6_make_26 : decode cX6_make 26 = .ok (.invokevirtual 136, 3) := by decide +kernel
theorem dX6_make_29 : decode cX6_make 29 = .ok (.iconst 0, 1) := by decide +kernel
theorem dX6_make_30 : decode cX6_make 30 = .ok (.istore_n 2, 1) := by decide +kernel
theorem dX6_make_31 : decode cX6_make 31 = .ok (.iload_n 2, 1) := by decide +kernel
theorem dX6_make_32 : decode cX6_make 32 = .ok (.aload_n 0, 1) := by decide +kernel
theorem dX6_make_33 : decode cX6_make 33 = .ok (.iload_n 1, 1) := by decide +kernel
theorem dX6_make_34 : decode cX6_make 34 = .ok (.invokevirtual 122, 3) := by decide +kernel
theorem dX6_make_37 : decode cX6_make 37 = .ok (.if_icmp .ge 21, 3) := by decide +kernel
theorem dX6_make_40 : decode cX6_make 40 = .ok (.aload_n 0, 1) := by decide +kernel
theorem dX6_make_41 : decode cX6_make 41 = .ok (.getfield 29, 3) := by decide +kernel
theorem dX6_make_44 : decode cX6_make 44 = .ok (.iload_n 2, 1) := by decide +kernel
theorem dX6_make_45 : decode cX6_make 45 = .ok (.aload_n 0, 1) := by decide +kernel
theorem dX6_make_46 : decode cX6_make 46 = .ok (.getfield 17, 3) := by decide +kernel
theorem dX6_make_49 : decode cX6_make 49 = .ok (.iload_n 2, 1) := by decide +kernel
theorem dX6_make_50 : decode cX6_make 50 = .ok (.laload, 1) := by decide +kernel
theorem dX6_make_51 : decode cX6_make 51 = .ok (.lastore, 1) := by decide +kernel
theorem dX6_make_52 : decode cX6_make 52 = .ok (.iinc 2 1, 3) := by decide +kernel
theorem dX6_make_55 : decode cX6_make 55 = .ok (.goto (-24), 3) := by decide +kernel
theorem dX6_make_58 : decode cX6_make 58 = .ok (.aload_n 0, 1) := by decide +kernel
theorem dX6_make_59 : decode cX6_make 59 = .ok (.iload_n 1, 1) := by decide +kernel
theorem dX6_make_60 : decode cX6_make 60 = .ok (.invokevirtual 130, 3) := by decide +kernel
theorem dX6_make_63 : decode cX6_make 63 = .ok (.ifCond .eq 5, 3) := by decide +kernel
theorem dX6_make_66 : decode cX6_make 66 = .ok (.iconst (-1), 1) := by decide +kernel
theorem dX6_make_67 : decode cX6_make 67 = .ok (.ireturn, 1) := by decide +kernel
theorem dX6_make_68 : decode cX6_make 68 = .ok (.iload_n 1, 1) := by decide +kernel
theorem dX6_make_69 : decode cX6_make 69 = .ok (.iconst 1, 1) := by decide +kernel
theorem dX6_make_70 : decode cX6_make 70 = .ok (.if_icmp .ne 76, 3) := by decide +kernel
theorem dX6_make_73 : decode cX6_make 73 = .ok (.aload_n 0, 1) := by decide +kernel
theorem dX6_make_74 : decode cX6_make 74 = .ok (.getfield 56, 3) := by decide +kernel
theorem dX6_make_77 : decode cX6_make 77 = .ok (.iconst 3, 1) := by decide +kernel
theorem dX6_make_78 : decode cX6_make 78 = .ok (.if_icmp .ne 68, 3) := by decide +kernel
theorem dX6_make_81 : decode cX6_make 81 = .ok (.aload_n 0, 1) := by decide +kernel
theorem dX6_make_82 : decode cX6_make 82 = .ok (.aload_n 0, 1) := by decide +kernel
theorem dX6_make_83 : decode cX6_make 83 = .ok (.aload_n 0, 1) := by decide +kernel
theorem dX6_make_84 : decode cX6_make 84 = .ok (.getfield 29, 3) := by decide +kernel
theorem dX6_make_87 : decode cX6_make 87 = .ok (.iconst 0, 1) := by decide +kernel
theorem dX6_make_88 : decode cX6_make 88 = .ok (.laload, 1) := by decide +kernel
theorem dX6_make_89 : decode cX6_make 89 = .ok (.aload_n 0, 1) := by decide +kernel
theorem dX6_make_90 : decode cX6_make 90 = .ok (.getfield 29, 3) := by decide +kernel
theorem dX6_make_93 : decode cX6_make 93 = .ok (.iconst 5, 1) := by decide +kernel
theorem dX6_make_94 : decode cX6_make 94 = .ok (.laload, 1) := by decide +kernel
theorem dX6_make_95 : decode cX6_make 95 = .ok (.invokevirtual 76, 3) := by decide +kernel
theorem dX6_make_98 : decode cX6_make 98 = .ok (.aload_n 0, 1) := by decide +kernel
theorem dX6_make_99 : decode cX6_make 99 = .ok (.aload_n 0, 1) := by decide +kernel
theorem dX6_make_100 : decode cX6_make 100 = .ok (.getfield 29, 3) := by decide +kernel
theorem dX6_make_103 : decode cX6_make 103 = .ok (.iconst 2, 1) := by decide +kernel
theorem dX6_make_104 : decode cX6_make 104 = .ok (.laload, 1) := by decide +kernel
theorem dX6_make_105 : decode cX6_make 105 = .ok (.aload_n 0, 1) := by decide +kernel
theorem dX6_make_106 : decode cX6_make 106 = .ok (.getfield 29, 3) := by decide +kernel
theorem dX6_make_109 : decode cX6_make 109 = .ok (.iconst 3, 1) := by decide +kernel
theorem dX6_make_110 : decode cX6_make 110 = .ok (.laload, 1) := by decide +kernel
theorem dX6_make_111 : decode cX6_make 111 = .ok (.invokevirtual 76, 3) := by decide +kernel
theorem dX6_make_114 : decode cX6_make 114 = .ok (.ladd, 1) := by decide +kernel
theorem dX6_make_115 : decode cX6_make 115 = .ok (.aload_n 0, 1) := by decide +kernel
theorem dX6_make_116 : decode cX6_make 116 = .ok (.getfield 60, 3) := by decide +kernel
theorem dX6_make_119 : decode cX6_make 119 = .ok (.lrem, 1) := by decide +kernel
theorem dX6_make_120 : decode cX6_make 120 = .ok (.aload_n 0, 1) := by decide +kernel
theorem dX6_make_121 : decode cX6_make 121 = .ok (.aload_n 0, 1) := by decide +kernel
theorem dX6_make_122 : decode cX6_make 122 = .ok (.getfield 29, 3) := by decide +kernel
theorem dX6_make_125 : decode cX6_make 125 = .ok (.iconst 1, 1) := by decide +kernel
theorem dX6_make_126 : decode cX6_make 126 = .ok (.laload, 1) := by decide +kernel
theorem dX6_make_127 : decode cX6_make 127 = .ok (.aload_n 0, 1) := by decide +kernel
theorem dX6_make_128 : decode cX6_make 128 = .ok (.getfield 29, 3) := by decide +kernel
theorem dX6_make_131 : decode cX6_make 131 = .ok (.iconst 4, 1) := by decide +kernel
theorem dX6_make_132 : decode cX6_make 132 = .ok (.laload, 1) := by decide +kernel
theorem dX6_make_133 : decode cX6_make 133 = .ok (.invokevirtual 76, 3) := by decide +kernel
theorem dX6_make_136 : decode cX6_make 136 = .ok (.invokevirtual 105, 3) := by decide +kernel
theorem dX6_make_139 : decode cX6_make 139 = .ok (.lconst 0, 1) := by decide +kernel
theorem dX6_make_140 : decode cX6_make 140 = .ok (.lcmp, 1) := by decide +kernel
theorem dX6_make_141 : decode cX6_make 141 = .ok (.ifCond .eq 5, 3) := by decide +kernel
theorem dX6_make_144 : decode cX6_make 144 = .ok (.iconst (-1), 1) := by decide +kernel
theorem dX6_make_145 : decode cX6_make 145 = .ok (.ireturn, 1) := by decide +kernel
theorem dX6_make_146 : decode cX6_make 146 = .ok (.iconst 0, 1) := by decide +kernel
theorem dX6_make_147 : decode cX6_make 147 = .ok (.istore_n 2, 1) := by decide +kernel
theorem dX6_make_148 : decode cX6_make 148 = .ok (.iload_n 2, 1) := by decide +kernel
theorem dX6_make_149 : decode cX6_make 149 = .ok (.aload_n 0, 1) := by decide +kernel
theorem dX6_make_150 : decode cX6_make 150 = .ok (.invokevirtual 111, 3) := by decide +kernel
theorem dX6_make_153 : decode cX6_make 153 = .ok (.if_icmp .ge 81, 3) := by decide +kernel
theorem dX6_make_156 : decode cX6_make 156 = .ok (.iconst 0, 1) := by decide +kernel
theorem dX6_make_157 : decode cX6_make 157 = .ok (.istore_n 3, 1) := by decide +kernel
theorem dX6_make_158 : decode cX6_make 158 = .ok (.iload_n 3, 1) := by decide +kernel
theorem dX6_make_159 : decode cX6_make 159 = .ok (.aload_n 0, 1) := by decide +kernel
theorem dX6_make_160 : decode cX6_make 160 = .ok (.invokevirtual 111, 3) := by decide +kernel
theorem dX6_make_163 : decode cX6_make 163 = .ok (.if_icmp .ge 65, 3) := by decide +kernel
theorem dX6_make_166 : decode cX6_make 166 = .ok (.aload_n 0, 1) := by decide +kernel
theorem dX6_make_167 : decode cX6_make 167 = .ok (.iload_n 2, 1) := by decide +kernel
theorem dX6_make_168 : decode cX6_make 168 = .ok (.iload_n 3, 1) := by decide +kernel
theorem dX6_make_169 : decode cX6_make 169 = .ok (.aload_n 0, 1) := by decide +kernel
theorem dX6_make_170 : decode cX6_make 170 = .ok (.getfield 29, 3) := by decide +kernel
theorem dX6_make_173 : decode cX6_make 173 = .ok (.iload_n 2, 1) := by decide +kernel
theorem dX6_make_174 : decode cX6_make 174 = .ok (.aload_n 0, 1) := by decide +kernel
theorem dX6_make_175 : decode cX6_make 175 = .ok (.invokevirtual 111, 3) := by decide +kernel
theorem dX6_make_178 : decode cX6_make 178 = .ok (.imul, 1) := by decide +kernel
theorem dX6_make_179 : decode cX6_make 179 = .ok (.iload_n 3, 1) := by decide +kernel
theorem dX6_make_180 : decode cX6_make 180 = .ok (.iadd, 1) := by decide +kernel
theorem dX6_make_181 : decode cX6_make 181 = .ok (.laload, 1) := by decide +kernel
theorem dX6_make_182 : decode cX6_make 182 = .ok (.invokevirtual 101, 3) := by decide +kernel
theorem dX6_make_185 : decode cX6_make 185 = .ok (.iload_n 1, 1) := by decide +kernel
theorem dX6_make_186 : decode cX6_make 186 = .ok (.iconst 4, 1) := by decide +kernel
theorem dX6_make_187 : decode cX6_make 187 = .ok (.if_icmp .ne 35, 3) := by decide +kernel
theorem dX6_make_190 : decode cX6_make 190 = .ok (.aload_n 0, 1) := by decide +kernel
theorem dX6_make_191 : decode cX6_make 191 = .ok (.getfield 29, 3) := by decide +kernel
theorem dX6_make_194 : decode cX6_make 194 = .ok (.iload_n 2, 1) := by decide +kernel
theorem dX6_make_195 : decode cX6_make 195 = .ok (.aload_n 0, 1) := by decide +kernel
theorem dX6_make_196 : decode cX6_make 196 = .ok (.invokevirtual 111, 3) := by decide +kernel
theorem dX6_make_199 : decode cX6_make 199 = .ok (.imul, 1) := by decide +kernel
theorem dX6_make_200 : decode cX6_make 200 = .ok (.iload_n 3, 1) := by decide +kernel
theorem dX6_make_201 : decode cX6_make 201 = .ok (.iadd, 1) := by decide +kernel
theorem dX6_make_202 : decode cX6_make 202 = .ok (.laload, 1) := by decide +kernel
theorem dX6_make_203 : decode cX6_make 203 = .ok (.aload_n 0, 1) := by decide +kernel
theorem dX6_make_204 : decode cX6_make 204 = .ok (.getfield 29, 3) := by decide +kernel
theorem dX6_make_207 : decode cX6_make 207 = .ok (.iload_n 3, 1) := by decide +kernel
theorem dX6_make_208 : decode cX6_make 208 = .ok (.aload_n 0, 1) := by decide +kernel
theorem dX6_make_209 : decode cX6_make 209 = .ok (.invokevirtual 111, 3) := by decide +kernel
theorem dX6_make_212 : decode cX6_make 212 = .ok (.imul, 1) := by decide +kernel
theorem dX6_make_213 : decode cX6_make 213 = .ok (.iload_n 2, 1) := by decide +kernel
theorem dX6_make_214 : decode cX6_make 214 = .ok (.iadd, 1) := by decide +kernel
theorem dX6_make_215 : decode cX6_make 215 = .ok (.laload, 1) := by decide +kernel
theorem dX6_make_216 : decode cX6_make 216 = .ok (.lcmp, 1) := by decide +kernel
theorem dX6_make_217 : decode cX6_make 217 = .ok (.ifCond .eq 5, 3) := by decide +kernel
theorem dX6_make_220 : decode cX6_make 220 = .ok (.iconst (-1), 1) := by decide +kernel
theorem dX6_make_221 : decode cX6_make 221 = .ok (.ireturn, 1) := by decide +kernel
theorem dX6_make_222 : decode cX6_make 222 = .ok (.iinc 3 1, 3) := by decide +kernel
theorem dX6_make_225 : decode cX6_make 225 = .ok (.goto (-67), 3) := by decide +kernel
theorem dX6_make_228 : decode cX6_make 228 = .ok (.iinc 2 1, 3) := by decide +kernel
theorem dX6_make_231 : decode cX6_make 231 = .ok (.goto (-83), 3) := by decide +kernel
theorem dX6_make_234 : decode cX6_make 234 = .ok (.iload_n 1, 1) := by decide +kernel
theorem dX6_make_235 : decode cX6_make 235 = .ok (.iconst 3, 1) := by decide +kernel
theorem dX6_make_236 : decode cX6_make 236 = .ok (.if_icmp .ne 30, 3) := by decide +kernel
theorem dX6_make_239 : decode cX6_make 239 = .ok (.aload_n 0, 1) := by decide +kernel
theorem dX6_make_240 : decode cX6_make 240 = .ok (.aload_n 0, 1) := by decide +kernel
theorem dX6_make_241 : decode cX6_make 241 = .ok (.invokevirtual 111, 3) := by decide +kernel
theorem dX6_make_244 : decode cX6_make 244 = .ok (.aload_n 0, 1) := by decide +kernel
theorem dX6_make_245 : decode cX6_make 245 = .ok (.invokevirtual 111, 3) := by decide +kernel
theorem dX6_make_248 : decode cX6_make 248 = .ok (.aload_n 0, 1) := by decide +kernel
theorem dX6_make_249 : decode cX6_make 249 = .ok (.invokevirtual 111, 3) := by decide +kernel
theorem dX6_make_252 : decode cX6_make 252 = .ok (.invokevirtual 115, 3) := by decide +kernel
theorem dX6_make_255 : decode cX6_make 255 = .ok (.aload_n 0, 1) := by decide +kernel
theorem dX6_make_256 : decode cX6_make 256 = .ok (.invokevirtual 111, 3) := by decide +kernel
theorem dX6_make_259 : decode cX6_make 259 = .ok (.if_icmp .ge 7, 3) := by decide +kernel
theorem dX6_make_262 : decode cX6_make 262 = .ok (.iconst (-1), 1) := by decide +kernel
theorem dX6_make_263 : decode cX6_make 263 = .ok (.goto 8, 3) := by decide +kernel
theorem dX6_make_266 : decode cX6_make 266 = .ok (.aload_n 0, 1) := by decide +kernel
theorem dX6_make_267 : decode cX6_make 267 = .ok (.iload_n 1, 1) := by decide +kernel
theorem dX6_make_268 : decode cX6_make 268 = .ok (.invokevirtual 133, 3) := by decide +kernel
theorem dX6_make_271 : decode cX6_make 271 = .ok (.ireturn, 1) := by decide +kernel
theorem dX6_number_0 : decode cX6_number 0 = .ok (.aload_n 0, 1) := by decide +kernel
theorem dX6_number_1 : decode cX6_number 1 = .ok (.iload_n 1, 1) := by decide +kernel
theorem dX6_number_2 : decode cX6_number 2 = .ok (.invokevirtual 119, 3) := by decide +kernel
theorem dX6_number_5 : decode cX6_number 5 = .ok (.ifCond .eq 31, 3) := by decide +kernel
theorem dX6_number_8 : decode cX6_number 8 = .ok (.iload_n 2, 1) := by decide +kernel
theorem dX6_number_9 : decode cX6_number 9 = .ok (.ifCond .lt 27, 3) := by decide +kernel
theorem dX6_number_12 : decode cX6_number 12 = .ok (.iload_n 2, 1) := by decide +kernel
theorem dX6_number_13 : decode cX6_number 13 = .ok (.aload_n 0, 1) := by decide +kernel
theorem dX6_number_14 : decode cX6_number 14 = .ok (.aload_n 0, 1) := by decide +kernel
theorem dX6_number_15 : decode cX6_number 15 = .ok (.getfield 7, 3) := by decide +kernel
theorem dX6_number_18 : decode cX6_number 18 = .ok (.iload_n 1, 1) := by decide +kernel
theorem dX6_number_19 : decode cX6_number 19 = .ok (.iaload, 1) := by decide +kernel
theorem dX6_number_20 : decode cX6_number 20 = .ok (.invokevirtual 122, 3) := by decide +kernel
theorem dX6_number_23 : decode cX6_number 23 = .ok (.if_icmp .ge 13, 3) := by decide +kernel
theorem dX6_number_26 : decode cX6_number 26 = .ok (.aload_n 0, 1) := by decide +kernel
theorem dX6_number_27 : decode cX6_number 27 = .ok (.iload_n 1, 1) := by decide +kernel
theorem dX6_number_28 : decode cX6_number 28 = .ok (.iload_n 2, 1) := by decide +kernel
theorem dX6_number_29 : decode cX6_number 29 = .ok (.invokevirtual 108, 3) := by decide +kernel
theorem dX6_number_32 : decode cX6_number 32 = .ok (.l2i, 1) := by decide +kernel
theorem dX6_number_33 : decode cX6_number 33 = .ok (.goto 5, 3) := by decide +kernel
theorem dX6_number_36 : decode cX6_number 36 = .ok (.bipush (-2), 2) := by decide +kernel
theorem dX6_number_38 : decode cX6_number 38 = .ok (.ireturn, 1) := by decide +kernel
theorem dX6_sort_0 : decode cX6_sort 0 = .ok (.aload_n 0, 1) := by decide +kernel
theorem dX6_sort_1 : decode cX6_sort 1 = .ok (.iload_n 1, 1) := by decide +kernel
theorem dX6_sort_2 : decode cX6_sort 2 = .ok (.invokevirtual 119, 3) := by decide +kernel
theorem dX6_sort_5 : decode cX6_sort 5 = .ok (.ifCond .eq 12, 3) := by decide +kernel
theorem dX6_sort_8 : decode cX6_sort 8 = .ok (.aload_n 0, 1) := by decide +kernel
theorem dX6_sort_9 : decode cX6_sort 9 = .ok (.getfield 7, 3) := by decide +kernel
theorem dX6_sort_12 : decode cX6_sort 12 = .ok (.iload_n 1, 1) := by decide +kernel
theorem dX6_sort_13 : decode cX6_sort 13 = .ok (.iaload, 1) := by decide +kernel
theorem dX6_sort_14 : decode cX6_sort 14 = .ok (.goto 5, 3) := by decide +kernel
theorem dX6_sort_17 : decode cX6_sort 17 = .ok (.bipush (-2), 2) := by decide +kernel
theorem dX6_sort_19 : decode cX6_sort 19 = .ok (.ireturn, 1) := by decide +kernel
theorem dX6_slot_0 : decode cX6_slot 0 = .ok (.iload_n 0, 1) := by decide +kernel
theorem dX6_slot_1 : decode cX6_slot 1 = .ok (.ifCond .ne 9, 3) := by decide +kernel
theorem dX6_slot_4 : decode cX6_slot 4 = .ok (.iload_n 1, 1) := by decide +kernel
theorem dX6_slot_5 : decode cX6_slot 5 = .ok (.iconst 1, 1) := by decide +kernel
theorem dX6_slot_6 : decode cX6_slot 6 = .ok (.isub, 1) := by decide +kernel
theorem dX6_slot_7 : decode cX6_slot 7 = .ok (.goto 15, 3) := by decide +kernel
theorem dX6_slot_10 : decode cX6_slot 10 = .ok (.iload_n 0, 1) := by decide +kernel
theorem dX6_slot_11 : decode cX6_slot 11 = .ok (.iconst 1, 1) := by decide +kernel
theorem dX6_slot_12 : decode cX6_slot 12 = .ok (.if_icmp .ne 9, 3) := by decide +kernel
theorem dX6_slot_15 : decode cX6_slot 15 = .ok (.iload_n 1, 1) := by decide +kernel
theorem dX6_slot_16 : decode cX6_slot 16 = .ok (.iconst 1, 1) := by decide +kernel
theorem dX6_slot_17 : decode cX6_slot 17 = .ok (.iadd, 1) := by decide +kernel
theorem dX6_slot_18 : decode cX6_slot 18 = .ok (.goto 4, 3) := by decide +kernel
theorem dX6_slot_21 : decode cX6_slot 21 = .ok (.iconst 5, 1) := by decide +kernel
theorem dX6_slot_22 : decode cX6_slot 22 = .ok (.ireturn, 1) := by decide +kernel
theorem dX6_entry_0 : decode cX6_entry 0 = .ok (.iload_n 2, 1) := by decide +kernel
theorem dX6_entry_1 : decode cX6_entry 1 = .ok (.iload_n 3, 1) := by decide +kernel
theorem dX6_entry_2 : decode cX6_entry 2 = .ok (.if_icmp .ne 7, 3) := by decide +kernel
theorem dX6_entry_5 : decode cX6_entry 5 = .ok (.lconst 0, 1) := by decide +kernel
theorem dX6_entry_6 : decode cX6_entry 6 = .ok (.goto 36, 3) := by decide +kernel
theorem dX6_entry_9 : decode cX6_entry 9 = .ok (.iload_n 2, 1) := by decide +kernel
theorem dX6_entry_10 : decode cX6_entry 10 = .ok (.iload_n 3, 1) := by decide +kernel
theorem dX6_entry_11 : decode cX6_entry 11 = .ok (.if_icmp .ge 16, 3) := by decide +kernel
theorem dX6_entry_14 : decode cX6_entry 14 = .ok (.aload_n 0, 1) := by decide +kernel
theorem dX6_entry_15 : decode cX6_entry 15 = .ok (.iload_n 1, 1) := by decide +kernel
theorem dX6_entry_16 : decode cX6_entry 16 = .ok (.iload_n 2, 1) := by decide +kernel
theorem dX6_entry_17 : decode cX6_entry 17 = .ok (.iload_n 3, 1) := by decide +kernel
theorem dX6_entry_18 : decode cX6_entry 18 = .ok (.invokestatic 139, 3) := by decide +kernel
theorem dX6_entry_21 : decode cX6_entry 21 = .ok (.invokevirtual 108, 3) := by decide +kernel
theorem dX6_entry_24 : decode cX6_entry 24 = .ok (.goto 18, 3) := by decide +kernel
theorem dX6_entry_27 : decode cX6_entry 27 = .ok (.aload_n 0, 1) := by decide +kernel
theorem dX6_entry_28 : decode cX6_entry 28 = .ok (.lconst 0, 1) := by decide +kernel
theorem dX6_entry_29 : decode cX6_entry 29 = .ok (.aload_n 0, 1) := by decide +kernel
theorem dX6_entry_30 : decode cX6_entry 30 = .ok (.iload_n 1, 1) := by decide +kernel
theorem dX6_entry_31 : decode cX6_entry 31 = .ok (.iload_n 3, 1) := by decide +kernel
theorem dX6_entry_32 : decode cX6_entry 32 = .ok (.iload_n 2, 1) := by decide +kernel
theorem dX6_entry_33 : decode cX6_entry 33 = .ok (.invokestatic 139, 3) := by decide +kernel
theorem dX6_entry_36 : decode cX6_entry 36 = .ok (.invokevirtual 108, 3) := by decide +kernel
theorem dX6_entry_39 : decode cX6_entry 39 = .ok (.invokevirtual 105, 3) := by decide +kernel
theorem dX6_entry_42 : decode cX6_entry 42 = .ok (.lreturn, 1) := by decide +kernel
theorem dX6_base_0 : decode cX6_base 0 = .ok (.iconst 0, 1) := by decide +kernel
theorem dX6_base_1 : decode cX6_base 1 = .ok (.istore_n 2, 1) := by decide +kernel
theorem dX6_base_2 : decode cX6_base 2 = .ok (.iload_n 2, 1) := by decide +kernel
theorem dX6_base_3 : decode cX6_base 3 = .ok (.iconst 4, 1) := by decide +kernel
theorem dX6_base_4 : decode cX6_base 4 = .ok (.if_icmp .ge 29, 3) := by decide +kernel
theorem dX6_base_7 : decode cX6_base 7 = .ok (.iconst 0, 1) := by decide +kernel
theorem dX6_base_8 : decode cX6_base 8 = .ok (.istore_n 3, 1) := by decide +kernel
theorem dX6_base_9 : decode cX6_base 9 = .ok (.iload_n 3, 1) := by decide +kernel
theorem dX6_base_10 : decode cX6_base 10 = .ok (.iconst 4, 1) := by decide +kernel
theorem dX6_base_11 : decode cX6_base 11 = .ok (.if_icmp .ge 16, 3) := by decide +kernel
theorem dX6_base_14 : decode cX6_base 14 = .ok (.aload_n 0, 1) := by decide +kernel
theorem dX6_base_15 : decode cX6_base 15 = .ok (.iload_n 2, 1) := by decide +kernel
theorem dX6_base_16 : decode cX6_base 16 = .ok (.iload_n 3, 1) := by decide +kernel
theorem dX6_base_17 : decode cX6_base 17 = .ok (.lconst 0, 1) := by decide +kernel
theorem dX6_base_18 : decode cX6_base 18 = .ok (.invokevirtual 101, 3) := by decide +kernel
theorem dX6_base_21 : decode cX6_base 21 = .ok (.iinc 3 1, 3) := by decide +kernel
theorem dX6_base_24 : decode cX6_base 24 = .ok (.goto (-15), 3) := by decide +kernel
theorem dX6_base_27 : decode cX6_base 27 = .ok (.iinc 2 1, 3) := by decide +kernel
theorem dX6_base_30 : decode cX6_base 30 = .ok (.goto (-28), 3) := by decide +kernel
theorem dX6_base_33 : decode cX6_base 33 = .ok (.aload_n 0, 1) := by decide +kernel
theorem dX6_base_34 : decode cX6_base 34 = .ok (.getfield 56, 3) := by decide +kernel
theorem dX6_base_37 : decode cX6_base 37 = .ok (.iconst 2, 1) := by decide +kernel
theorem dX6_base_38 : decode cX6_base 38 = .ok (.if_icmp .ne 93, 3) := by decide +kernel
theorem dX6_base_41 : decode cX6_base 41 = .ok (.aload_n 0, 1) := by decide +kernel
theorem dX6_base_42 : decode cX6_base 42 = .ok (.iconst 0, 1) := by decide +kernel
theorem dX6_base_43 : decode cX6_base 43 = .ok (.iconst 1, 1) := by decide +kernel
theorem dX6_base_44 : decode cX6_base 44 = .ok (.aload_n 0, 1) := by decide +kernel
theorem dX6_base_45 : decode cX6_base 45 = .ok (.iload_n 1, 1) := by decide +kernel
theorem dX6_base_46 : decode cX6_base 46 = .ok (.iconst 2, 1) := by decide +kernel
theorem dX6_base_47 : decode cX6_base 47 = .ok (.invokevirtual 108, 3) := by decide +kernel
theorem dX6_base_50 : decode cX6_base 50 = .ok (.invokevirtual 101, 3) := by decide +kernel
theorem dX6_base_53 : decode cX6_base 53 = .ok (.aload_n 0, 1) := by decide +kernel
theorem dX6_base_54 : decode cX6_base 54 = .ok (.iconst 0, 1) := by decide +kernel
theorem dX6_base_55 : decode cX6_base 55 = .ok (.iconst 2, 1) := by decide +kernel
theorem dX6_base_56 : decode cX6_base 56 = .ok (.aload_n 0, 1) := by decide +kernel
theorem dX6_base_57 : decode cX6_base 57 = .ok (.lconst 0, 1) := by decide +kernel
theorem dX6_base_58 : decode cX6_base 58 = .ok (.aload_n 0, 1) := by decide +kernel
theorem dX6_base_59 : decode cX6_base 59 = .ok (.iload_n 1, 1) := by decide +kernel
theorem dX6_base_60 : decode cX6_base 60 = .ok (.iconst 1, 1) := by decide +kernel
theorem dX6_base_61 : decode cX6_base 61 = .ok (.invokevirtual 108, 3) := by decide +kernel
theorem dX6_base_64 : decode cX6_base 64 = .ok (.invokevirtual 105, 3) := by decide +kernel
theorem dX6_base_67 : decode cX6_base 67 = .ok (.invokevirtual 101, 3) := by decide +kernel
theorem dX6_base_70 : decode cX6_base 70 = .ok (.aload_n 0, 1) := by decide +kernel
theorem dX6_base_71 : decode cX6_base 71 = .ok (.iconst 1, 1) := by decide +kernel
theorem dX6_base_72 : decode cX6_base 72 = .ok (.iconst 0, 1) := by decide +kernel
theorem dX6_base_73 : decode cX6_base 73 = .ok (.aload_n 0, 1) := by decide +kernel
theorem dX6_base_74 : decode cX6_base 74 = .ok (.lconst 0, 1) := by decide +kernel
theorem dX6_base_75 : decode cX6_base 75 = .ok (.aload_n 0, 1) := by decide +kernel
theorem dX6_base_76 : decode cX6_base 76 = .ok (.iload_n 1, 1) := by decide +kernel
theorem dX6_base_77 : decode cX6_base 77 = .ok (.iconst 2, 1) := by decide +kernel
theorem dX6_base_78 : decode cX6_base 78 = .ok (.invokevirtual 108, 3) := by decide +kernel
theorem dX6_base_81 : decode cX6_base 81 = .ok (.invokevirtual 105, 3) := by decide +kernel
theorem dX6_base_84 : decode cX6_base 84 = .ok (.invokevirtual 101, 3) := by decide +kernel
theorem dX6_base_87 : decode cX6_base 87 = .ok (.aload_n 0, 1) := by decide +kernel
theorem dX6_base_88 : decode cX6_base 88 = .ok (.iconst 1, 1) := by decide +kernel
theorem dX6_base_89 : decode cX6_base 89 = .ok (.iconst 2, 1) := by decide +kernel
theorem dX6_base_90 : decode cX6_base 90 = .ok (.aload_n 0, 1) := by decide +kernel
theorem dX6_base_91 : decode cX6_base 91 = .ok (.iload_n 1, 1) := by decide +kernel
theorem dX6_base_92 : decode cX6_base 92 = .ok (.iconst 0, 1) := by decide +kernel
theorem dX6_base_93 : decode cX6_base 93 = .ok (.invokevirtual 108, 3) := by decide +kernel
theorem dX6_base_96 : decode cX6_base 96 = .ok (.invokevirtual 101, 3) := by decide +kernel
theorem dX6_base_99 : decode cX6_base 99 = .ok (.aload_n 0, 1) := by decide +kernel
theorem dX6_base_100 : decode cX6_base 100 = .ok (.iconst 2, 1) := by decide +kernel
theorem dX6_base_101 : decode cX6_base 101 = .ok (.iconst 0, 1) := by decide +kernel
theorem dX6_base_102 : decode cX6_base 102 = .ok (.aload_n 0, 1) := by decide +kernel
theorem dX6_base_103 : decode cX6_base 103 = .ok (.iload_n 1, 1) := by decide +kernel
theorem dX6_base_104 : decode cX6_base 104 = .ok (.iconst 1, 1) := by decide +kernel
theorem dX6_base_105 : decode cX6_base 105 = .ok (.invokevirtual 108, 3) := by decide +kernel
theorem dX6_base_108 : decode cX6_base 108 = .ok (.invokevirtual 101, 3) := by decide +kernel
theorem dX6_base_111 : decode cX6_base 111 = .ok (.aload_n 0, 1) := by decide +kernel
theorem dX6_base_112 : decode cX6_base 112 = .ok (.iconst 2, 1) := by decide +kernel
theorem dX6_base_113 : decode cX6_base 113 = .ok (.iconst 1, 1) := by decide +kernel
theorem dX6_base_114 : decode cX6_base 114 = .ok (.aload_n 0, 1) := by decide +kernel
theorem dX6_base_115 : decode cX6_base 115 = .ok (.lconst 0, 1) := by decide +kernel
theorem dX6_base_116 : decode cX6_base 116 = .ok (.aload_n 0, 1) := by decide +kernel
theorem dX6_base_117 : decode cX6_base 117 = .ok (.iload_n 1, 1) := by decide +kernel
theorem dX6_base_118 : decode cX6_base 118 = .ok (.iconst 0, 1) := by decide +kernel
theorem dX6_base_119 : decode cX6_base 119 = .ok (.invokevirtual 108, 3) := by decide +kernel
theorem dX6_base_122 : decode cX6_base 122 = .ok (.invokevirtual 105, 3) := by decide +kernel
theorem dX6_base_125 : decode cX6_base 125 = .ok (.invokevirtual 101, 3) := by decide +kernel
theorem dX6_base_128 : decode cX6_base 128 = .ok (.goto 42, 3) := by decide +kernel
theorem dX6_base_131 : decode cX6_base 131 = .ok (.iconst 0, 1) := by decide +kernel
theorem dX6_base_132 : decode cX6_base 132 = .ok (.istore_n 2, 1) := by decide +kernel
theorem dX6_base_133 : decode cX6_base 133 = .ok (.iload_n 2, 1) := by decide +kernel
theorem dX6_base_134 : decode cX6_base 134 = .ok (.iconst 4, 1) := by decide +kernel
theorem dX6_base_135 : decode cX6_base 135 = .ok (.if_icmp .ge 35, 3) := by decide +kernel
theorem dX6_base_138 : decode cX6_base 138 = .ok (.iconst 0, 1) := by decide +kernel
theorem dX6_base_139 : decode cX6_base 139 = .ok (.istore_n 3, 1) := by decide +kernel
theorem dX6_base_140 : decode cX6_base 140 = .ok (.iload_n 3, 1) := by decide +kernel
theorem dX6_base_141 : decode cX6_base 141 = .ok (.iconst 4, 1) := by decide +kernel
theorem dX6_base_142 : decode cX6_base 142 = .ok (.if_icmp .ge 22, 3) := by decide +kernel
theorem dX6_base_145 : decode cX6_base 145 = .ok (.aload_n 0, 1) := by decide +kernel
theorem dX6_base_146 : decode cX6_base 146 = .ok (.iload_n 2, 1) := by decide +kernel
theorem dX6_base_147 : decode cX6_base 147 = .ok (.iload_n 3, 1) := by decide +kernel
theorem dX6_base_148 : decode cX6_base 148 = .ok (.aload_n 0, 1) := by decide +kernel
theorem dX6_base_149 : decode cX6_base 149 = .ok (.iload_n 1, 1) := by decide +kernel
theorem dX6_base_150 : decode cX6_base 150 = .ok (.iload_n 2, 1) := by decide +kernel
theorem dX6_base_151 : decode cX6_base 151 = .ok (.iload_n 3, 1) := by decide +kernel
theorem dX6_base_152 : decode cX6_base 152 = .ok (.invokevirtual 142, 3) := by decide +kernel
theorem dX6_base_155 : decode cX6_base 155 = .ok (.invokevirtual 101, 3) := by decide +kernel
theorem dX6_base_158 : decode cX6_base 158 = .ok (.iinc 3 1, 3) := by decide +kernel
theorem dX6_base_161 : decode cX6_base 161 = .ok (.goto (-21), 3) := by decide +kernel
theorem dX6_base_164 : decode cX6_base 164 = .ok (.iinc 2 1, 3) := by decide +kernel
theorem dX6_base_167 : decode cX6_base 167 = .ok (.goto (-34), 3) := by decide +kernel
theorem dX6_base_170 : decode cX6_base 170 = .ok (.aload_n 0, 1) := by decide +kernel
theorem dX6_base_171 : decode cX6_base 171 = .ok (.aload_n 0, 1) := by decide +kernel
theorem dX6_base_172 : decode cX6_base 172 = .ok (.invokevirtual 111, 3) := by decide +kernel
theorem dX6_base_175 : decode cX6_base 175 = .ok (.aload_n 0, 1) := by decide +kernel
theorem dX6_base_176 : decode cX6_base 176 = .ok (.invokevirtual 111, 3) := by decide +kernel
theorem dX6_base_179 : decode cX6_base 179 = .ok (.aload_n 0, 1) := by decide +kernel
theorem dX6_base_180 : decode cX6_base 180 = .ok (.invokevirtual 111, 3) := by decide +kernel
theorem dX6_base_183 : decode cX6_base 183 = .ok (.invokevirtual 115, 3) := by decide +kernel
theorem dX6_base_186 : decode cX6_base 186 = .ok (.pop, 1) := by decide +kernel
theorem dX6_base_187 : decode cX6_base 187 = .ok (.iconst 0, 1) := by decide +kernel
