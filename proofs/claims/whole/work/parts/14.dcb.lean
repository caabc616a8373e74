theorem dX4_flipped_8 : decode cX4_flipped 8 = .ok (.aload_n 1, 1) := by decide +kernel
theorem dX4_flipped_9 : decode cX4_flipped 9 = .ok (.arraylength, 1) := by decide +kernel
theorem dX4_flipped_10 : decode cX4_flipped 10 = .ok (.if_icmp .ge 43, 3) := by decide +kernel
theorem dX4_flipped_13 : decode cX4_flipped 13 = .ok (.aload_n 1, 1) := by decide +kernel
theorem dX4_flipped_14 : decode cX4_flipped 14 = .ok (.aload_n 1, 1) := by decide +kernel
theorem dX4_flipped_15 : decode cX4_flipped 15 = .ok (.arraylength, 1) := by decide +kernel
theorem dX4_flipped_16 : decode cX4_flipped 16 = .ok (.iconst 1, 1) := by decide +kernel
theorem dX4_flipped_17 : decode cX4_flipped 17 = .ok (.isub, 1) := by decide +kernel
theorem dX4_flipped_18 : decode cX4_flipped 18 = .ok (.iload_n 3, 1) := by decide +kernel
theorem dX4_flipped_19 : decode cX4_flipped 19 = .ok (.isub, 1) := by decide +kernel
theorem dX4_flipped_20 : decode cX4_flipped 20 = .ok (.laload, 1) := by decide +kernel
theorem dX4_flipped_21 : decode cX4_flipped 21 = .ok (.lstore 4, 2) := by decide +kernel
theorem dX4_flipped_23 : decode cX4_flipped 23 = .ok (.aload_n 2, 1) := by decide +kernel
theorem dX4_flipped_24 : decode cX4_flipped 24 = .ok (.iload_n 3, 1) := by decide +kernel
theorem dX4_flipped_25 : decode cX4_flipped 25 = .ok (.iload_n 3, 1) := by decide +kernel
theorem dX4_flipped_26 : decode cX4_flipped 26 = .ok (.iconst 3, 1) := by decide +kernel
theorem dX4_flipped_27 : decode cX4_flipped 27 = .ok (.irem, 1) := by decide +kernel
theorem dX4_flipped_28 : decode cX4_flipped 28 = .ok (.iconst 1, 1) := by decide +kernel
theorem dX4_flipped_29 : decode cX4_flipped 29 = .ok (.if_icmp .ne 15, 3) := by decide +kernel
theorem dX4_flipped_32 : decode cX4_flipped 32 = .ok (.aload_n 0, 1) := by decide +kernel
theorem dX4_flipped_33 : decode cX4_flipped 33 = .ok (.getfield 21, 3) := by decide +kernel
theorem dX4_flipped_36 : decode cX4_flipped 36 = .ok (.lload 4, 2) := by decide +kernel
theorem dX4_flipped_38 : decode cX4_flipped 38 = .ok (.invokevirtual 36, 3) := by decide +kernel
theorem dX4_flipped_41 : decode cX4_flipped 41 = .ok (.goto 5, 3) := by decide +kernel
theorem dX4_flipped_44 : decode cX4_flipped 44 = .ok (.lload 4, 2) := by decide +kernel
theorem dX4_flipped_46 : decode cX4_flipped 46 = .ok (.lastore, 1) := by decide +kernel
theorem dX4_flipped_47 : decode cX4_flipped 47 = .ok (.iinc 3 1, 3) := by decide +kernel
theorem dX4_flipped_50 : decode cX4_flipped 50 = .ok (.goto (-43), 3) := by decide +kernel
theorem dX4_flipped_53 : decode cX4_flipped 53 = .ok (.aload_n 2, 1) := by decide +kernel
theorem dX4_flipped_54 : decode cX4_flipped 54 = .ok (.areturn, 1) := by decide +kernel
theorem dX4_skew_0 : decode cX4_skew 0 = .ok (.aload_n 0, 1) := by decide +kernel
theorem dX4_skew_1 : decode cX4_skew 1 = .ok (.getfield 26, 3) := by decide +kernel
theorem dX4_skew_4 : decode cX4_skew 4 = .ok (.aload_n 0, 1) := by decide +kernel
theorem dX4_skew_5 : decode cX4_skew 5 = .ok (.getfield 26, 3) := by decide +kernel
theorem dX4_skew_8 : decode cX4_skew 8 = .ok (.imul, 1) := by decide +kernel
theorem dX4_skew_9 : decode cX4_skew 9 = .ok (.newarray .long, 2) := by decide +kernel
theorem dX4_skew_11 : decode cX4_skew 11 = .ok (.astore_n 2, 1) := by decide +kernel
theorem dX4_skew_12 : decode cX4_skew 12 = .ok (.iconst 0, 1) := by decide +kernel
theorem dX4_skew_13 : decode cX4_skew 13 = .ok (.istore_n 3, 1) := by decide +kernel
theorem dX4_skew_14 : decode cX4_skew 14 = .ok (.iconst 0, 1) := by decide +kernel
theorem dX4_skew_15 : decode cX4_skew 15 = .ok (.istore 4, 2) := by decide +kernel
theorem dX4_skew_17 : decode cX4_skew 17 = .ok (.iload 4, 2) := by decide +kernel
theorem dX4_skew_19 : decode cX4_skew 19 = .ok (.aload_n 0, 1) := by decide +kernel
theorem dX4_skew_20 : decode cX4_skew 20 = .ok (.getfield 26, 3) := by decide +kernel
theorem dX4_skew_23 : decode cX4_skew 23 = .ok (.if_icmp .ge 70, 3) := by decide +kernel
theorem dX4_skew_26 : decode cX4_skew 26 = .ok (.iload 4, 2) := by decide +kernel
theorem dX4_skew_28 : decode cX4_skew 28 = .ok (.iconst 1, 1) := by decide +kernel
theorem dX4_skew_29 : decode cX4_skew 29 = .ok (.iadd, 1) := by decide +kernel
theorem dX4_skew_30 : decode cX4_skew 30 = .ok (.istore 5, 2) := by decide +kernel
theorem dX4_skew_32 : decode cX4_skew 32 = .ok (.iload 5, 2) := by decide +kernel
theorem dX4_skew_34 : decode cX4_skew 34 = .ok (.aload_n 0, 1) := by decide +kernel
theorem dX4_skew_35 : decode cX4_skew 35 = .ok (.getfield 26, 3) := by decide +kernel
theorem dX4_skew_38 : decode cX4_skew 38 = .ok (.if_icmp .ge 49, 3) := by decide +kernel
theorem dX4_skew_41 : decode cX4_skew 41 = .ok (.aload_n 2, 1) := by decide +kernel
theorem dX4_skew_42 : decode cX4_skew 42 = .ok (.iload 4, 2) := by decide +kernel
theorem dX4_skew_44 : decode cX4_skew 44 = .ok (.aload_n 0, 1) := by decide +kernel
theorem dX4_skew_45 : decode cX4_skew 45 = .ok (.getfield 26, 3) := by decide +kernel
theorem dX4_skew_48 : decode cX4_skew 48 = .ok (.imul, 1) := by decide +kernel
theorem dX4_skew_49 : decode cX4_skew 49 = .ok (.iload 5, 2) := by decide +kernel
theorem dX4_skew_51 : decode cX4_skew 51 = .ok (.iadd, 1) := by decide +kernel
theorem dX4_skew_52 : decode cX4_skew 52 = .ok (.aload_n 1, 1) := by decide +kernel
theorem dX4_skew_53 : decode cX4_skew 53 = .ok (.iload_n 3, 1) := by decide +kernel
theorem dX4_skew_54 : decode cX4_skew 54 = .ok (.laload, 1) := by decide +kernel
theorem dX4_skew_55 : decode cX4_skew 55 = .ok (.lastore, 1) := by decide +kernel
theorem dX4_skew_56 : decode cX4_skew 56 = .ok (.aload_n 2, 1) := by decide +kernel
theorem dX4_skew_57 : decode cX4_skew 57 = .ok (.iload 5, 2) := by decide +kernel
theorem dX4_skew_59 : decode cX4_skew 59 = .ok (.aload_n 0, 1) := by decide +kernel
theorem dX4_skew_60 : decode cX4_skew 60 = .ok (.getfield 26, 3) := by decide +kernel
theorem dX4_skew_63 : decode cX4_skew 63 = .ok (.imul, 1) := by decide +kernel
theorem dX4_skew_64 : decode cX4_skew 64 = .ok (.iload 4, 2) := by decide +kernel
theorem dX4_skew_66 : decode cX4_skew 66 = .ok (.iadd, 1) := by decide +kernel
theorem dX4_skew_67 : decode cX4_skew 67 = .ok (.aload_n 0, 1) := by decide +kernel
theorem dX4_skew_68 : decode cX4_skew 68 = .ok (.getfield 21, 3) := by decide +kernel
theorem dX4_skew_71 : decode cX4_skew 71 = .ok (.aload_n 1, 1) := by decide +kernel
theorem dX4_skew_72 : decode cX4_skew 72 = .ok (.iload_n 3, 1) := by decide +kernel
theorem dX4_skew_73 : decode cX4_skew 73 = .ok (.laload, 1) := by decide +kernel
theorem dX4_skew_74 : decode cX4_skew 74 = .ok (.invokevirtual 36, 3) := by decide +kernel
theorem dX4_skew_77 : decode cX4_skew 77 = .ok (.lastore, 1) := by decide +kernel
theorem dX4_skew_78 : decode cX4_skew 78 = .ok (.iinc 3 1, 3) := by decide +kernel
theorem dX4_skew_81 : decode cX4_skew 81 = .ok (.iinc 5 1, 3) := by decide +kernel
theorem dX4_skew_84 : decode cX4_skew 84 = .ok (.goto (-52), 3) := by decide +kernel
theorem dX4_skew_87 : decode cX4_skew 87 = .ok (.iinc 4 1, 3) := by decide +kernel
theorem dX4_skew_90 : decode cX4_skew 90 = .ok (.goto (-73), 3) := by decide +kernel
theorem dX4_skew_93 : decode cX4_skew 93 = .ok (.aload_n 2, 1) := by decide +kernel
theorem dX4_skew_94 : decode cX4_skew 94 = .ok (.areturn, 1) := by decide +kernel
theorem dX4_isPlane_0 : decode cX4_isPlane 0 = .ok (.aload_n 0, 1) := by decide +kernel
theorem dX4_isPlane_1 : decode cX4_isPlane 1 = .ok (.getfield 26, 3) := by decide +kernel
theorem dX4_isPlane_4 : decode cX4_isPlane 4 = .ok (.iconst 3, 1) := by decide +kernel
theorem dX4_isPlane_5 : decode cX4_isPlane 5 = .ok (.if_icmp .ne 7, 3) := by decide +kernel
theorem dX4_isPlane_8 : decode cX4_isPlane 8 = .ok (.iconst 1, 1) := by decide +kernel
theorem dX4_isPlane_9 : decode cX4_isPlane 9 = .ok (.goto 4, 3) := by decide +kernel
theorem dX4_isPlane_12 : decode cX4_isPlane 12 = .ok (.iconst 0, 1) := by decide +kernel
theorem dX4_isPlane_13 : decode cX4_isPlane 13 = .ok (.ireturn, 1) := by decide +kernel
theorem dX4_lineThrough_0 : decode cX4_lineThrough 0 = .ok (.aload_n 0, 1) := by decide +kernel
theorem dX4_lineThrough_1 : decode cX4_lineThrough 1 = .ok (.aload_n 1, 1) := by decide +kernel
theorem dX4_lineThrough_2 : decode cX4_lineThrough 2 = .ok (.aload_n 2, 1) := by decide +kernel
theorem dX4_lineThrough_3 : decode cX4_lineThrough 3 = .ok (.invokevirtual 40, 3) := by decide +kernel
theorem dX4_lineThrough_6 : decode cX4_lineThrough 6 = .ok (.astore_n 3, 1) := by decide +kernel
theorem dX4_lineThrough_7 : decode cX4_lineThrough 7 = .ok (.aload_n 0, 1) := by decide +kernel
theorem dX4_lineThrough_8 : decode cX4_lineThrough 8 = .ok (.invokevirtual 44, 3) := by decide +kernel
theorem dX4_lineThrough_11 : decode cX4_lineThrough 11 = .ok (.ifCond .eq 11, 3) := by decide +kernel
theorem dX4_lineThrough_14 : decode cX4_lineThrough 14 = .ok (.aload_n 0, 1) := by decide +kernel
theorem dX4_lineThrough_15 : decode cX4_lineThrough 15 = .ok (.aload_n 3, 1) := by decide +kernel
theorem dX4_lineThrough_16 : decode cX4_lineThrough 16 = .ok (.invokevirtual 48, 3) := by decide +kernel
theorem dX4_lineThrough_19 : decode cX4_lineThrough 19 = .ok (.goto 4, 3) := by decide +kernel
theorem dX4_lineThrough_22 : decode cX4_lineThrough 22 = .ok (.aload_n 3, 1) := by decide +kernel
theorem dX4_lineThrough_23 : decode cX4_lineThrough 23 = .ok (.areturn, 1) := by decide +kernel
theorem dX4_crossing_0 : decode cX4_crossing 0 = .ok (.aload_n 0, 1) := by decide +kernel
theorem dX4_crossing_1 : decode cX4_crossing 1 = .ok (.aload_n 0, 1) := by decide +kernel
theorem dX4_crossing_2 : decode cX4_crossing 2 = .ok (.aload_n 1, 1) := by decide +kernel
theorem dX4_crossing_3 : decode cX4_crossing 3 = .ok (.aload_n 2, 1) := by decide +kernel
theorem dX4_crossing_4 : decode cX4_crossing 4 = .ok (.invokevirtual 40, 3) := by decide +kernel
theorem dX4_crossing_7 : decode cX4_crossing 7 = .ok (.invokevirtual 48, 3) := by decide +kernel
theorem dX4_crossing_10 : decode cX4_crossing 10 = .ok (.areturn, 1) := by decide +kernel
theorem dX4_planeThrough_0 : decode cX4_planeThrough 0 = .ok (.aload_n 0, 1) := by decide +kernel
theorem dX4_planeThrough_1 : decode cX4_planeThrough 1 = .ok (.getfield 9, 3) := by decide +kernel
theorem dX4_planeThrough_4 : decode cX4_planeThrough 4 = .ok (.aload_n 0, 1) := by decide +kernel
theorem dX4_planeThrough_5 : decode cX4_planeThrough 5 = .ok (.aload_n 0, 1) := by decide +kernel
theorem dX4_planeThrough_6 : decode cX4_planeThrough 6 = .ok (.aload_n 1, 1) := by decide +kernel
theorem dX4_planeThrough_7 : decode cX4_planeThrough 7 = .ok (.invokevirtual 48, 3) := by decide +kernel
theorem dX4_planeThrough_10 : decode cX4_planeThrough 10 = .ok (.invokevirtual 52, 3) := by decide +kernel
theorem dX4_planeThrough_13 : decode cX4_planeThrough 13 = .ok (.aload_n 2, 1) := by decide +kernel
theorem dX4_planeThrough_14 : decode cX4_planeThrough 14 = .ok (.invokevirtual 55, 3) := by decide +kernel
theorem dX4_planeThrough_17 : decode cX4_planeThrough 17 = .ok (.areturn, 1) := by decide +kernel
theorem dX4_pointOnPlane_0 : decode cX4_pointOnPlane 0 = .ok (.aload_n 0, 1) := by decide +kernel
theorem dX4_pointOnPlane_1 : decode cX4_pointOnPlane 1 = .ok (.getfield 9, 3) := by decide +kernel
theorem dX4_pointOnPlane_4 : decode cX4_pointOnPlane 4 = .ok (.aload_n 0, 1) := by decide +kernel
theorem dX4_pointOnPlane_5 : decode cX4_pointOnPlane 5 = .ok (.aload_n 1, 1) := by decide +kernel
theorem dX4_pointOnPlane_6 : decode cX4_pointOnPlane 6 = .ok (.invokevirtual 52, 3) := by decide +kernel
theorem dX4_pointOnPlane_9 : decode cX4_pointOnPlane 9 = .ok (.aload_n 2, 1) := by decide +kernel
theorem dX4_pointOnPlane_10 : decode cX4_pointOnPlane 10 = .ok (.invokevirtual 55, 3) := by decide +kernel
theorem dX4_pointOnPlane_13 : decode cX4_pointOnPlane 13 = .ok (.areturn, 1) := by decide +kernel
theorem dX4_pointOfLines_0 : decode cX4_pointOfLines 0 = .ok (.aload_n 0, 1) := by decide +kernel
theorem dX4_pointOfLines_1 : decode cX4_pointOfLines 1 = .ok (.aload_n 1, 1) := by decide +kernel
theorem dX4_pointOfLines_2 : decode cX4_pointOfLines 2 = .ok (.aload_n 2, 1) := by decide +kernel
theorem dX4_pointOfLines_3 : decode cX4_pointOfLines 3 = .ok (.invokevirtual 58, 3) := by decide +kernel
theorem dX4_pointOfLines_6 : decode cX4_pointOfLines 6 = .ok (.ifCond .ne 5, 3) := by decide +kernel
theorem dX4_pointOfLines_9 : decode cX4_pointOfLines 9 = .ok (.aconst_null, 1) := by decide +kernel
theorem dX4_pointOfLines_10 : decode cX4_pointOfLines 10 = .ok (.areturn, 1) := by decide +kernel
theorem dX4_pointOfLines_11 : decode cX4_pointOfLines 11 = .ok (.aload_n 0, 1) := by decide +kernel
theorem dX4_pointOfLines_12 : decode cX4_pointOfLines 12 = .ok (.aload_n 0, 1) := by decide +kernel
theorem dX4_pointOfLines_13 : decode cX4_pointOfLines 13 = .ok (.aload_n 2, 1) := by decide +kernel
theorem dX4_pointOfLines_14 : decode cX4_pointOfLines 14 = .ok (.invokevirtual 48, 3) := by decide +kernel
theorem dX4_pointOfLines_17 : decode cX4_pointOfLines 17 = .ok (.invokevirtual 62, 3) := by decide +kernel
theorem dX4_pointOfLines_20 : decode cX4_pointOfLines 20 = .ok (.astore_n 3, 1) := by decide +kernel
theorem dX4_pointOfLines_21 : decode cX4_pointOfLines 21 = .ok (.iconst 0, 1) := by decide +kernel
theorem dX4_pointOfLines_22 : decode cX4_pointOfLines 22 = .ok (.istore 4, 2) := by decide +kernel
theorem dX4_pointOfLines_24 : decode cX4_pointOfLines 24 = .ok (.iload 4, 2) := by decide +kernel
theorem dX4_pointOfLines_26 : decode cX4_pointOfLines 26 = .ok (.aload_n 3, 1) := by decide +kernel
theorem dX4_pointOfLines_27 : decode cX4_pointOfLines 27 = .ok (.arraylength, 1) := by decide +kernel
theorem dX4_pointOfLines_28 : decode cX4_pointOfLines 28 = .ok (.if_icmp .ge 31, 3) := by decide +kernel
theorem dX4_pointOfLines_31 : decode cX4_pointOfLines 31 = .ok (.aload_n 0, 1) := by decide +kernel
theorem dX4_pointOfLines_32 : decode cX4_pointOfLines 32 = .ok (.aload_n 1, 1) := by decide +kernel
theorem dX4_pointOfLines_33 : decode cX4_pointOfLines 33 = .ok (.aload_n 3, 1) := by decide +kernel
theorem dX4_pointOfLines_34 : decode cX4_pointOfLines 34 = .ok (.iload 4, 2) := by decide +kernel
theorem dX4_pointOfLines_36 : decode cX4_pointOfLines 36 = .ok (.aaload, 1) := by decide +kernel
theorem dX4_pointOfLines_37 : decode cX4_pointOfLines 37 = .ok (.invokevirtual 66, 3) := by decide +kernel
theorem dX4_pointOfLines_40 : decode cX4_pointOfLines 40 = .ok (.astore 5, 2) := by decide +kernel
theorem dX4_pointOfLines_42 : decode cX4_pointOfLines 42 = .ok (.aload 5, 2) := by decide +kernel
theorem dX4_pointOfLines_44 : decode cX4_pointOfLines 44 = .ok (.invokestatic 69, 3) := by decide +kernel
theorem dX4_pointOfLines_47 : decode cX4_pointOfLines 47 = .ok (.ifCond .ne 6, 3) := by decide +kernel
theorem dX4_pointOfLines_50 : decode cX4_pointOfLines 50 = .ok (.aload 5, 2) := by decide +kernel
theorem dX4_pointOfLines_52 : decode cX4_pointOfLines 52 = .ok (.areturn, 1) := by decide +kernel
theorem dX4_pointOfLines_53 : decode cX4_pointOfLines 53 = .ok (.iinc 4 1, 3) := by decide +kernel
theorem dX4_pointOfLines_56 : decode cX4_pointOfLines 56 = .ok (.goto (-32), 3) := by decide +kernel
theorem dX4_pointOfLines_59 : decode cX4_pointOfLines 59 = .ok (.aconst_null, 1) := by decide +kernel
theorem dX4_pointOfLines_60 : decode cX4_pointOfLines 60 = .ok (.areturn, 1) := by decide +kernel
theorem dX4_planeOfLines_0 : decode cX4_planeOfLines 0 = .ok (.aload_n 0, 1) := by decide +kernel
theorem dX4_planeOfLines_1 : decode cX4_planeOfLines 1 = .ok (.aload_n 0, 1) := by decide +kernel
theorem dX4_planeOfLines_2 : decode cX4_planeOfLines 2 = .ok (.aload_n 1, 1) := by decide +kernel
theorem dX4_planeOfLines_3 : decode cX4_planeOfLines 3 = .ok (.invokevirtual 48, 3) := by decide +kernel
theorem dX4_planeOfLines_6 : decode cX4_planeOfLines 6 = .ok (.aload_n 0, 1) := by decide +kernel
theorem dX4_planeOfLines_7 : decode cX4_planeOfLines 7 = .ok (.aload_n 2, 1) := by decide +kernel
theorem dX4_planeOfLines_8 : decode cX4_planeOfLines 8 = .ok (.invokevirtual 48, 3) := by decide +kernel
theorem dX4_planeOfLines_11 : decode cX4_planeOfLines 11 = .ok (.invokevirtual 73, 3) := by decide +kernel
theorem dX4_planeOfLines_14 : decode cX4_planeOfLines 14 = .ok (.areturn, 1) := by decide +kernel
theorem dX4_linesMeet_0 : decode cX4_linesMeet 0 = .ok (.aload_n 0, 1) := by decide +kernel
theorem dX4_linesMeet_1 : decode cX4_linesMeet 1 = .ok (.getfield 9, 3) := by decide +kernel
theorem dX4_linesMeet_4 : decode cX4_linesMeet 4 = .ok (.aload_n 1, 1) := by decide +kernel
theorem dX4_linesMeet_5 : decode cX4_linesMeet 5 = .ok (.aload_n 0, 1) := by decide +kernel
theorem dX4_linesMeet_6 : decode cX4_linesMeet 6 = .ok (.aload_n 2, 1) := by decide +kernel
theorem dX4_linesMeet_7 : decode cX4_linesMeet 7 = .ok (.invokevirtual 48, 3) := by decide +kernel
theorem dX4_linesMeet_10 : decode cX4_linesMeet 10 = .ok (.invokevirtual 76, 3) := by decide +kernel
theorem dX4_linesMeet_13 : decode cX4_linesMeet 13 = .ok (.lconst 0, 1) := by decide +kernel
theorem dX4_linesMeet_14 : decode cX4_linesMeet 14 = .ok (.lcmp, 1) := by decide +kernel
theorem dX4_linesMeet_15 : decode cX4_linesMeet 15 = .ok (.ifCond .ne 7, 3) := by decide +kernel
theorem dX4_linesMeet_18 : decode cX4_linesMeet 18 = .ok (.iconst 1, 1) := by decide +kernel
theorem dX4_linesMeet_19 : decode cX4_linesMeet 19 = .ok (.goto 4, 3) := by decide +kernel
theorem dX4_linesMeet_22 : decode cX4_linesMeet 22 = .ok (.iconst 0, 1) := by decide +kernel
theorem dX4_linesMeet_23 : decode cX4_linesMeet 23 = .ok (.ireturn, 1) := by decide +kernel
theorem dX4_lineIsOnPlane_0 : decode cX4_lineIsOnPlane 0 = .ok (.aload_n 0, 1) := by decide +kernel
theorem dX4_lineIsOnPlane_1 : decode cX4_lineIsOnPlane 1 = .ok (.aload_n 1, 1) := by decide +kernel
theorem dX4_lineIsOnPlane_2 : decode cX4_lineIsOnPlane 2 = .ok (.aload_n 2, 1) := by decide +kernel
theorem dX4_lineIsOnPlane_3 : decode cX4_lineIsOnPlane 3 = .ok (.invokevirtual 66, 3) := by decide +kernel
theorem dX4_lineIsOnPlane_6 : decode cX4_lineIsOnPlane 6 = .ok (.invokestatic 69, 3) := by decide +kernel
theorem dX4_lineIsOnPlane_9 : decode cX4_lineIsOnPlane 9 = .ok (.ireturn, 1) := by decide +kernel
theorem dX4_pointIsOnLine_0 : decode cX4_pointIsOnLine 0 = .ok (.aload_n 0, 1) := by decide +kernel
theorem dX4_pointIsOnLine_1 : decode cX4_pointIsOnLine 1 = .ok (.aload_n 2, 1) := by decide +kernel
theorem dX4_pointIsOnLine_2 : decode cX4_pointIsOnLine 2 = .ok (.aload_n 1, 1) := by decide +kernel
theorem dX4_pointIsOnLine_3 : decode cX4_pointIsOnLine 3 = .ok (.invokevirtual 80, 3) := by decide +kernel
theorem dX4_pointIsOnLine_6 : decode cX4_pointIsOnLine 6 = .ok (.invokestatic 69, 3) := by decide +kernel
theorem dX4_pointIsOnLine_9 : decode cX4_pointIsOnLine 9 = .ok (.ireturn, 1) := by decide +kernel
theorem dX4_baseOfLine_0 : decode cX4_baseOfLine 0 = .ok (.aload_n 0, 1) := by decide +kernel
theorem dX4_baseOfLine_1 : decode cX4_baseOfLine 1 = .ok (.aload_n 0, 1) := by decide +kernel
theorem dX4_baseOfLine_2 : decode cX4_baseOfLine 2 = .ok (.invokevirtual 44, 3) := by decide +kernel
theorem dX4_baseOfLine_5 : decode cX4_baseOfLine 5 = .ok (.ifCond .eq 11, 3) := by decide +kernel
theorem dX4_baseOfLine_8 : decode cX4_baseOfLine 8 = .ok (.aload_n 0, 1) := by decide +kernel
theorem dX4_baseOfLine_9 : decode cX4_baseOfLine 9 = .ok (.aload_n 1, 1) := by decide +kernel
theorem dX4_baseOfLine_10 : decode cX4_baseOfLine 10 = .ok (.invokevirtual 48, 3) := by decide +kernel
theorem dX4_baseOfLine_13 : decode cX4_baseOfLine 13 = .ok (.goto 4, 3) := by decide +kernel
theorem dX4_baseOfLine_16 : decode cX4_baseOfLine 16 = .ok (.aload_n 1, 1) := by decide +kernel
theorem dX4_baseOfLine_17 : decode cX4_baseOfLine 17 = .ok (.invokevirtual 62, 3) := by decide +kernel
theorem dX4_baseOfLine_20 : decode cX4_baseOfLine 20 = .ok (.areturn, 1) := by decide +kernel
theorem dX4_baseOfWedge_0 : decode cX4_baseOfWedge 0 = .ok (.aload_n 0, 1) := by decide +kernel
theorem dX4_baseOfWedge_1 : decode cX4_baseOfWedge 1 = .ok (.aload_n 1, 1) := by decide +kernel
theorem dX4_baseOfWedge_2 : decode cX4_baseOfWedge 2 = .ok (.invokevirtual 52, 3) := by decide +kernel
theorem dX4_baseOfWedge_5 : decode cX4_baseOfWedge 5 = .ok (.astore_n 2, 1) := by decide +kernel
theorem dX4_baseOfWedge_6 : decode cX4_baseOfWedge 6 = .ok (.iconst 0, 1) := by decide +kernel
theorem dX4_baseOfWedge_7 : decode cX4_baseOfWedge 7 = .ok (.istore_n 3, 1) := by decide +kernel
theorem dX4_baseOfWedge_8 : decode cX4_baseOfWedge 8 = .ok (.iload_n 3, 1) := by decide +kernel
theorem dX4_baseOfWedge_9 : decode cX4_baseOfWedge 9 = .ok (.aload_n 0, 1) := by decide +kernel
theorem dX4_baseOfWedge_10 : decode cX4_baseOfWedge 10 = .ok (.getfield 26, 3) := by decide +kernel
theorem dX4_baseOfWedge_13 : decode cX4_baseOfWedge 13 = .ok (.if_icmp .ge 95, 3) := by decide +kernel
theorem dX4_baseOfWedge_16 : decode cX4_baseOfWedge 16 = .ok (.iload_n 3, 1) := by decide +kernel
theorem dX4_baseOfWedge_17 : decode cX4_baseOfWedge 17 = .ok (.iconst 1, 1) := by decide +kernel
theorem dX4_baseOfWedge_18 : decode cX4_baseOfWedge 18 = .ok (.iadd, 1) := by decide +kernel
theorem dX4_baseOfWedge_19 : decode cX4_baseOfWedge 19 = .ok (.istore 4, 2) := by decide +kernel
theorem dX4_baseOfWedge_21 : decode cX4_baseOfWedge 21 = .ok (.iload 4, 2) := by decide +kernel
theorem dX4_baseOfWedge_23 : decode cX4_baseOfWedge 23 = .ok (.aload_n 0, 1) := by decide +kernel
theorem dX4_baseOfWedge_24 : decode cX4_baseOfWedge 24 = .ok (.getfield 26, 3) := by decide +kernel
theorem dX4_baseOfWedge_27 : decode cX4_baseOfWedge 27 = .ok (.if_icmp .ge 75, 3) := by decide +kernel
theorem dX4_baseOfWedge_30 : decode cX4_baseOfWedge 30 = .ok (.aload_n 2, 1) := by decide +kernel
theorem dX4_baseOfWedge_31 : decode cX4_baseOfWedge 31 = .ok (.iload_n 3, 1) := by decide +kernel
theorem dX4_baseOfWedge_32 : decode cX4_baseOfWedge 32 = .ok (.aload_n 0, 1) := by decide +kernel
theorem dX4_baseOfWedge_33 : decode cX4_baseOfWedge 33 = .ok (.getfield 26, 3) := by decide +kernel
theorem dX4_baseOfWedge_36 : decode cX4_baseOfWedge 36 = .ok (.imul, 1) := by decide +kernel
theorem dX4_baseOfWedge_37 : decode cX4_baseOfWedge 37 = .ok (.iload 4, 2) := by decide +kernel
theorem dX4_baseOfWedge_39 : decode cX4_baseOfWedge 39 = .ok (.iadd, 1) := by decide +kernel
theorem dX4_baseOfWedge_40 : decode cX4_baseOfWedge 40 = .ok (.laload, 1) := by decide +kernel
theorem dX4_baseOfWedge_41 : decode cX4_baseOfWedge 41 = .ok (.lstore 5, 2) := by decide +kernel
theorem dX4_baseOfWedge_43 : decode cX4_baseOfWedge 43 = .ok (.lload 5, 2) := by decide +kernel
theorem dX4_baseOfWedge_45 : decode cX4_baseOfWedge 45 = .ok (.lconst 0, 1) := by decide +kernel
theorem dX4_baseOfWedge_46 : decode cX4_baseOfWedge 46 = .ok (.lcmp, 1) := by decide +kernel
theorem dX4_baseOfWedge_47 : decode cX4_baseOfWedge 47 = .ok (.ifCond .eq 49, 3) := by decide +kernel
theorem dX4_baseOfWedge_50 : decode cX4_baseOfWedge 50 = .ok (.aload_n 0, 1) := by decide +kernel
theorem dX4_baseOfWedge_51 : decode cX4_baseOfWedge 51 = .ok (.getfield 21, 3) := by decide +kernel
theorem dX4_baseOfWedge_54 : decode cX4_baseOfWedge 54 = .ok (.lload 5, 2) := by decide +kernel
theorem dX4_baseOfWedge_56 : decode cX4_baseOfWedge 56 = .ok (.invokevirtual 83, 3) := by decide +kernel
theorem dX4_baseOfWedge_59 : decode cX4_baseOfWedge 59 = .ok (.lstore 7, 2) := by decide +kernel
theorem dX4_baseOfWedge_61 : decode cX4_baseOfWedge 61 = .ok (.iconst 2, 1) := by decide +kernel
theorem dX4_baseOfWedge_62 : decode cX4_baseOfWedge 62 = .ok (.anewarray 86, 3) := by decide +kernel
theorem dX4_baseOfWedge_65 : decode cX4_baseOfWedge 65 = .ok (.dup, 1) := by decide +kernel
theorem dX4_baseOfWedge_66 : decode cX4_baseOfWedge 66 = .ok (.iconst 0, 1) := by decide +kernel
theorem dX4_baseOfWedge_67 : decode cX4_baseOfWedge 67 = .ok (.aload_n 0, 1) := by decide +kernel
theorem dX4_baseOfWedge_68 : decode cX4_baseOfWedge 68 = .ok (.aload_n 2, 1) := by decide +kernel
theorem dX4_baseOfWedge_69 : decode cX4_baseOfWedge 69 = .ok (.iload 4, 2) := by decide +kernel
theorem dX4_baseOfWedge_71 : decode cX4_baseOfWedge 71 = .ok (.aload_n 0, 1) := by decide +kernel
theorem dX4_baseOfWedge_72 : decode cX4_baseOfWedge 72 = .ok (.getfield 21, 3) := by decide +kernel
theorem dX4_baseOfWedge_75 : decode cX4_baseOfWedge 75 = .ok (.lload 7, 2) := by decide +kernel
theorem dX4_baseOfWedge_77 : decode cX4_baseOfWedge 77 = .ok (.invokevirtual 36, 3) := by decide +kernel
theorem dX4_baseOfWedge_80 : decode cX4_baseOfWedge 80 = .ok (.invokevirtual 88, 3) := by decide +kernel
theorem dX4_baseOfWedge_83 : decode cX4_baseOfWedge 83 = .ok (.aastore, 1) := by decide +kernel
theorem dX4_baseOfWedge_84 : decode cX4_baseOfWedge 84 = .ok (.dup, 1) := by decide +kernel
theorem dX4_baseOfWedge_85 : decode cX4_baseOfWedge 85 = .ok (.iconst 1, 1) := by decide +kernel
theorem dX4_baseOfWedge_86 : decode cX4_baseOfWedge 86 = .ok (.aload_n 0, 1) := by decide +kernel
theorem dX4_baseOfWedge_87 : decode cX4_baseOfWedge 87 = .ok (.aload_n 2, 1) := by decide +kernel
theorem dX4_baseOfWedge_88 : decode cX4_baseOfWedge 88 = .ok (.iload_n 3, 1) := by decide +kernel
theorem dX4_baseOfWedge_89 : decode cX4_baseOfWedge 89 = .ok (.lload 7, 2) := by decide +kernel
theorem dX4_baseOfWedge_91 : decode cX4_baseOfWedge 91 = .ok (.invokevirtual 88, 3) := by decide +kernel
theorem dX4_baseOfWedge_94 : decode cX4_baseOfWedge 94 = .ok (.aastore, 1) := by decide +kernel
theorem dX4_baseOfWedge_95 : decode cX4_baseOfWedge 95 = .ok (.areturn, 1) := by decide +kernel
theorem dX4_baseOfWedge_96 : decode cX4_baseOfWedge 96 = .ok (.iinc 4 1, 3) := by decide +kernel
theorem dX4_baseOfWedge_99 : decode cX4_baseOfWedge 99 = .ok (.goto (-78), 3) := by decide +kernel
theorem dX4_baseOfWedge_102 : decode cX4_baseOfWedge 102 = .ok (.iinc 3 1, 3) := by decide +kernel
theorem dX4_baseOfWedge_105 : decode cX4_baseOfWedge 105 = .ok (.goto (-97), 3) := by decide +kernel
theorem dX4_baseOfWedge_108 : decode cX4_baseOfWedge 108 = .ok (.iconst 2, 1) := by decide +kernel
theorem dX4_baseOfWedge_109 : decode cX4_baseOfWedge 109 = .ok (.aload_n 0, 1) := by decide +kernel
theorem dX4_baseOfWedge_110 : decode cX4_baseOfWedge 110 = .ok (.getfield 26, 3) := by decide +kernel
theorem dX4_baseOfWedge_113 : decode cX4_baseOfWedge 113 = .ok (.multianewarray 92 2, 4) := by decide +kernel
theorem dX4_baseOfWedge_117 : decode cX4_baseOfWedge 117 = .ok (.areturn, 1) := by decide +kernel
theorem dX4_lineOf_0 : decode cX4_lineOf 0 = .ok (.aload_n 0, 1) := by decide +kernel
theorem dX4_lineOf_1 : decode cX4_lineOf 1 = .ok (.getfield 26, 3) := by decide +kernel
theorem dX4_lineOf_4 : decode cX4_lineOf 4 = .ok (.newarray .long, 2) := by decide +kernel
theorem dX4_lineOf_6 : decode cX4_lineOf 6 = .ok (.astore 5, 2) := by decide +kernel
theorem dX4_lineOf_8 : decode cX4_lineOf 8 = .ok (.iconst 0, 1) := by decide +kernel
theorem dX4_lineOf_9 : decode cX4_lineOf 9 = .ok (.istore 6, 2) := by decide +kernel
theorem dX4_lineOf_11 : decode cX4_lineOf 11 = .ok (.iload 6, 2) := by decide +kernel
theorem dX4_lineOf_13 : decode cX4_lineOf 13 = .ok (.aload_n 0, 1) := by decide +kernel
theorem dX4_lineOf_14 : decode cX4_lineOf 14 = .ok (.getfield 26, 3) := by decide +kernel
theorem dX4_lineOf_17 : decode cX4_lineOf 17 = .ok (.if_icmp .ge 33, 3) := by decide +kernel
theorem dX4_lineOf_20 : decode cX4_lineOf 20 = .ok (.aload 5, 2) := by decide +kernel
theorem dX4_lineOf_22 : decode cX4_lineOf 22 = .ok (.iload 6, 2) := by decide +kernel
theorem dX4_lineOf_24 : decode cX4_lineOf 24 = .ok (.aload_n 0, 1) := by decide +kernel
theorem dX4_lineOf_25 : decode cX4_lineOf 25 = .ok (.getfield 21, 3) := by decide +kernel
theorem dX4_lineOf_28 : decode cX4_lineOf 28 = .ok (.lload_n 3, 1) := by decide +kernel
theorem dX4_lineOf_29 : decode cX4_lineOf 29 = .ok (.aload_n 1, 1) := by decide +kernel
theorem dX4_lineOf_30 : decode cX4_lineOf 30 = .ok (.iload_n 2, 1) := by decide +kernel
theorem dX4_lineOf_31 : decode cX4_lineOf 31 = .ok (.aload_n 0, 1) := by decide +kernel
theorem dX4_lineOf_32 : decode cX4_lineOf 32 = .ok (.getfield 26, 3) := by decide +kernel
theorem dX4_lineOf_35 : decode cX4_lineOf 35 = .ok (.imul, 1) := by decide +kernel
theorem dX4_lineOf_36 : decode cX4_lineOf 36 = .ok (.iload 6, 2) := by decide +kernel
theorem dX4_lineOf_38 : decode cX4_lineOf 38 = .ok (.iadd, 1) := by decide +kernel
theorem dX4_lineOf_39 : decode cX4_lineOf 39 = .ok (.laload, 1) := by decide +kernel
theorem dX4_lineOf_40 : decode cX4_lineOf 40 = .ok (.invokevirtual 27, 3) := by decide +kernel
theorem dX4_lineOf_43 : decode cX4_lineOf 43 = .ok (.lastore, 1) := by decide +kernel
theorem dX4_lineOf_44 : decode cX4_lineOf 44 = .ok (.iinc 6 1, 3) := by decide +kernel
theorem dX4_lineOf_47 : decode cX4_lineOf 47 = .ok (.goto (-36), 3) := by decide +kernel
theorem dX4_lineOf_50 : decode cX4_lineOf 50 = .ok (.aload 5, 2) := by decide +kernel
theorem dX4_lineOf_52 : decode cX4_lineOf 52 = .ok (.areturn, 1) := by decide +kernel
theorem dX4_lineImage_0 : decode cX4_lineImage 0 = .ok (.aload_n 0, 1) := by decide +kernel
theorem dX4_lineImage_1 : decode cX4_lineImage 1 = .ok (.aload_n 2, 1) := by decide +kernel
theorem dX4_lineImage_2 : decode cX4_lineImage 2 = .ok (.invokevirtual 94, 3) := by decide +kernel
theorem dX4_lineImage_5 : decode cX4_lineImage 5 = .ok (.astore_n 3, 1) := by decide +kernel
theorem dX4_lineImage_6 : decode cX4_lineImage 6 = .ok (.aload_n 0, 1) := by decide +kernel
theorem dX4_lineImage_7 : decode cX4_lineImage 7 = .ok (.aload_n 0, 1) := by decide +kernel
theorem dX4_lineImage_8 : decode cX4_lineImage 8 = .ok (.getfield 9, 3) := by decide +kernel
theorem dX4_lineImage_11 : decode cX4_lineImage 11 = .ok (.aload_n 1, 1) := by decide +kernel
theorem dX4_lineImage_12 : decode cX4_lineImage 12 = .ok (.aload_n 3, 1) := by decide +kernel
theorem dX4_lineImage_13 : decode cX4_lineImage 13 = .ok (.iconst 0, 1) := by decide +kernel
theorem dX4_lineImage_14 : decode cX4_lineImage 14 = .ok (.aaload, 1) := by decide +kernel
theorem dX4_lineImage_15 : decode cX4_lineImage 15 = .ok (.invokevirtual 55, 3) := by decide +kernel
theorem dX4_lineImage_18 : decode cX4_lineImage 18 = .ok (.aload_n 0, 1) := by decide +kernel
theorem dX4_lineImage_19 : decode cX4_lineImage 19 = .ok (.getfield 9, 3) := by decide +kernel
theorem dX4_lineImage_22 : decode cX4_lineImage 22 = .ok (.aload_n 1, 1) := by decide +kernel
theorem dX4_lineImage_23 : decode cX4_lineImage 23 = .ok (.aload_n 3, 1) := by decide +kernel
theorem dX4_lineImage_24 : decode cX4_lineImage 24 = .ok (.iconst 1, 1) := by decide +kernel
theorem dX4_lineImage_25 : decode cX4_lineImage 25 = .ok (.aaload, 1) := by decide +kernel
theorem dX4_lineImage_26 : decode cX4_lineImage 26 = .ok (.invokevirtual 55, 3) := by decide +kernel
theorem dX4_lineImage_29 : decode cX4_lineImage 29 = .ok (.invokevirtual 40, 3) := by decide +kernel
theorem dX4_lineImage_32 : decode cX4_lineImage 32 = .ok (.areturn, 1) := by decide +kernel
theorem dX4_crossRatio_0 : decode cX4_crossRatio 0 = .ok (.aload_n 0, 1) := by decide +kernel
theorem dX4_crossRatio_1 : decode cX4_crossRatio 1 = .ok (.aload_n 1, 1) := by decide +kernel
theorem dX4_crossRatio_2 : decode cX4_crossRatio 2 = .ok (.invokevirtual 97, 3) := by decide +kernel
theorem dX4_crossRatio_5 : decode cX4_crossRatio 5 = .ok (.istore_n 2, 1) := by decide +kernel
theorem dX4_crossRatio_6 : decode cX4_crossRatio 6 = .ok (.aload_n 0, 1) := by decide +kernel
theorem dX4_crossRatio_7 : decode cX4_crossRatio 7 = .ok (.getfield 21, 3) := by decide +kernel
theorem dX4_crossRatio_10 : decode cX4_crossRatio 10 = .ok (.aload_n 0, 1) := by decide +kernel
theorem dX4_crossRatio_11 : decode cX4_crossRatio 11 = .ok (.aload_n 1, 1) := by decide +kernel
theorem dX4_crossRatio_12 : decode cX4_crossRatio 12 = .ok (.iconst 0, 1) := by decide +kernel
theorem dX4_crossRatio_13 : decode cX4_crossRatio 13 = .ok (.aaload, 1) := by decide +kernel
theorem dX4_crossRatio_14 : decode cX4_crossRatio 14 = .ok (.aload_n 1, 1) := by decide +kernel
theorem dX4_crossRatio_15 : decode cX4_crossRatio 15 = .ok (.iconst 2, 1) := by decide +kernel
theorem dX4_crossRatio_16 : decode cX4_crossRatio 16 = .ok (.aaload, 1) := by decide +kernel
theorem dX4_crossRatio_17 : decode cX4_crossRatio 17 = .ok (.iload_n 2, 1) := by decide +kernel
theorem dX4_crossRatio_18 : decode cX4_crossRatio 18 = .ok (.invokevirtual 101, 3) := by decide +kernel
theorem dX4_crossRatio_21 : decode cX4_crossRatio 21 = .ok (.aload_n 0, 1) := by decide +kernel
theorem dX4_crossRatio_22 : decode cX4_crossRatio 22 = .ok (.aload_n 1, 1) := by decide +kernel
theorem dX4_crossRatio_23 : decode cX4_crossRatio 23 = .ok (.iconst 1, 1) := by decide +kernel
theorem dX4_crossRatio_24 : decode cX4_crossRatio 24 = .ok (.aaload, 1) := by decide +kernel
theorem dX4_crossRatio_25 : decode cX4_crossRatio 25 = .ok (.aload_n 1, 1) := by decide +kernel
theorem dX4_crossRatio_26 : decode cX4_crossRatio 26 = .ok (.iconst 3, 1) := by decide +kernel
theorem dX4_crossRatio_27 : decode cX4_crossRatio 27 = .ok (.aaload, 1) := by decide +kernel
theorem dX4_crossRatio_28 : decode cX4_crossRatio 28 = .ok (.iload_n 2, 1) := by decide +kernel
theorem dX4_crossRatio_29 : decode cX4_crossRatio 29 = .ok (.invokevirtual 101, 3) := by decide +kernel
theorem dX4_crossRatio_32 : decode cX4_crossRatio 32 = .ok (.invokevirtual 27, 3) := by decide +kernel
theorem dX4_crossRatio_35 : decode cX4_crossRatio 35 = .ok (.lstore_n 3, 1) := by decide +kernel
theorem dX4_crossRatio_36 : decode cX4_crossRatio 36 = .ok (.aload_n 0, 1) := by decide +kernel
theorem dX4_crossRatio_37 : decode cX4_crossRatio 37 = .ok (.getfield 21, 3) := by decide +kernel
theorem dX4_crossRatio_40 : decode cX4_crossRatio 40 = .ok (.aload_n 0, 1) := by decide +kernel
theorem dX4_crossRatio_41 : decode cX4_crossRatio 41 = .ok (.aload_n 1, 1) := by decide +kernel
theorem dX4_crossRatio_42 : decode cX4_crossRatio 42 = .ok (.iconst 1, 1) := by decide +kernel
theorem dX4_crossRatio_43 : decode cX4_crossRatio 43 = .ok (.aaload, 1) := by decide +kernel
theorem dX4_crossRatio_44 : decode cX4_crossRatio 44 = .ok (.aload_n 1, 1) := by decide +kernel
theorem dX4_crossRatio_45 : decode cX4_crossRatio 45 = .ok (.iconst 2, 1) := by decide +kernel
theorem dX4_crossRatio_46 : decode cX4_crossRatio 46 = .ok (.aaload, 1) := by decide +kernel
theorem dX4_crossRatio_47 : decode cX4_crossRatio 47 = .ok (.iload_n 2, 1) := by decide +kernel
theorem dX4_crossRatio_48 : decode cX4_crossRatio 48 = .ok (.invokevirtual 101, 3) := by decide +kernel
theorem dX4_crossRatio_51 : decode cX4_crossRatio 51 = .ok (.aload_n 0, 1) := by decide +kernel
theorem dX4_crossRatio_52 : decode cX4_crossRatio 52 = .ok (.aload_n 1, 1) := by decide +kernel
theorem dX4_crossRatio_53 : decode cX4_crossRatio 53 = .ok (.iconst 0, 1) := by decide +kernel
theorem dX4_crossRatio_54 : decode cX4_crossRatio 54 = .ok (.aaload, 1) := by decide +kernel
theorem dX4_crossRatio_55 : decode cX4_crossRatio 55 = .ok (.aload_n 1, 1) := by decide +kernel
theorem dX4_crossRatio_56 : decode cX4_crossRatio 56 = .ok (.iconst 3, 1) := by decide +kernel
theorem dX4_crossRatio_57 : decode cX4_crossRatio 57 = .ok (.aaload, 1) := by decide +kernel
theorem dX4_crossRatio_58 : decode cX4_crossRatio 58 = .ok (.iload_n 2, 1) := by decide +kernel
theorem dX4_crossRatio_59 : decode cX4_crossRatio 59 = .ok (.invokevirtual 101, 3) := by decide +kernel
theorem dX4_crossRatio_62 : decode cX4_crossRatio 62 = .ok (.invokevirtual 27, 3) := by decide +kernel
theorem dX4_crossRatio_65 : decode cX4_crossRatio 65 = .ok (.lstore 5, 2) := by decide +kernel
theorem dX4_crossRatio_67 : decode cX4_crossRatio 67 = .ok (.lload 5, 2) := by decide +kernel
theorem dX4_crossRatio_69 : decode cX4_crossRatio 69 = .ok (.lconst 0, 1) := by decide +kernel
theorem dX4_crossRatio_70 : decode cX4_crossRatio 70 = .ok (.lcmp, 1) := by decide +kernel
theorem dX4_crossRatio_71 : decode cX4_crossRatio 71 = .ok (.ifCond .ne 23, 3) := by decide +kernel
theorem dX4_crossRatio_74 : decode cX4_crossRatio 74 = .ok (.lload_n 3, 1) := by decide +kernel
theorem dX4_crossRatio_75 : decode cX4_crossRatio 75 = .ok (.lconst 0, 1) := by decide +kernel
theorem dX4_crossRatio_76 : decode cX4_crossRatio 76 = .ok (.lcmp, 1) := by decide +kernel
theorem dX4_crossRatio_77 : decode cX4_crossRatio 77 = .ok (.ifCond .ne 9, 3) := by decide +kernel
theorem dX4_crossRatio_80 : decode cX4_crossRatio 80 = .ok (.ldc2_w 105, 3) := by decide +kernel
theorem dX4_crossRatio_83 : decode cX4_crossRatio 83 = .ok (.goto 10, 3) := by decide +kernel
theorem dX4_crossRatio_86 : decode cX4_crossRatio 86 = .ok (.aload_n 0, 1) := by decide +kernel
theorem dX4_crossRatio_87 : decode cX4_crossRatio 87 = .ok (.getfield 21, 3) := by decide +kernel
theorem dX4_crossRatio_90 : decode cX4_crossRatio 90 = .ok (.getfield 107, 3) := by decide +kernel
theorem dX4_crossRatio_93 : decode cX4_crossRatio 93 = .ok (.lreturn, 1) := by decide +kernel
theorem dX4_crossRatio_94 : decode cX4_crossRatio 94 = .ok (.aload_n 0, 1) := by decide +kernel
theorem dX4_crossRatio_95 : decode cX4_crossRatio 95 = .ok (.getfield 21, 3) := by decide +kernel
theorem dX4_crossRatio_98 : decode cX4_crossRatio 98 = .ok (.lload_n 3, 1) := by decide +kernel
theorem dX4_crossRatio_99 : decode cX4_crossRatio 99 = .ok (.aload_n 0, 1) := by decide +kernel
theorem dX4_crossRatio_100 : decode cX4_crossRatio 100 = .ok (.getfield 21, 3) := by decide +kernel
theorem dX4_crossRatio_103 : decode cX4_crossRatio 103 = .ok (.lload 5, 2) := by decide +kernel
theorem dX4_crossRatio_105 : decode cX4_crossRatio 105 = .ok (.invokevirtual 83, 3) := by decide +kernel
theorem dX4_crossRatio_108 : decode cX4_crossRatio 108 = .ok (.invokevirtual 27, 3) := by decide +kernel
theorem dX4_crossRatio_111 : decode cX4_crossRatio 111 = .ok (.lreturn, 1) := by decide +kernel
theorem dX4_fourthOf_0 : decode cX4_fourthOf 0 = .ok (.lload_n 2, 1) := by decide +kernel
theorem dX4_fourthOf_1 : decode cX4_fourthOf 1 = .ok (.aload_n 0, 1) := by decide +kernel
theorem dX4_fourthOf_2 : decode cX4_fourthOf 2 = .ok (.getfield 21, 3) := by decide +kernel
theorem dX4_fourthOf_5 : decode cX4_fourthOf 5 = .ok (.getfield 107, 3) := by decide +kernel
theorem dX4_fourthOf_8 : decode cX4_fourthOf 8 = .ok (.lcmp, 1) := by decide +kernel
theorem dX4_fourthOf_9 : decode cX4_fourthOf 9 = .ok (.ifCond .ne 7, 3) := by decide +kernel
theorem dX4_fourthOf_12 : decode cX4_fourthOf 12 = .ok (.aload_n 1, 1) := by decide +kernel
theorem dX4_fourthOf_13 : decode cX4_fourthOf 13 = .ok (.iconst 0, 1) := by decide +kernel
theorem dX4_fourthOf_14 : decode cX4_fourthOf 14 = .ok (.aaload, 1) := by decide +kernel
theorem dX4_fourthOf_15 : decode cX4_fourthOf 15 = .ok (.areturn, 1) := by decide +kernel
theorem dX4_fourthOf_16 : decode cX4_fourthOf 16 = .ok (.aload_n 0, 1) := by decide +kernel
theorem dX4_fourthOf_17 : decode cX4_fourthOf 17 = .ok (.aload_n 1, 1) := by decide +kernel
theorem dX4_fourthOf_18 : decode cX4_fourthOf 18 = .ok (.invokevirtual 97, 3) := by decide +kernel
theorem dX4_fourthOf_21 : decode cX4_fourthOf 21 = .ok (.istore 4, 2) := by decide +kernel
theorem dX4_fourthOf_23 : decode cX4_fourthOf 23 = .ok (.aload_n 0, 1) := by decide +kernel
theorem dX4_fourthOf_24 : decode cX4_fourthOf 24 = .ok (.getfield 21, 3) := by decide +kernel
theorem dX4_fourthOf_27 : decode cX4_fourthOf 27 = .ok (.lload_n 2, 1) := by decide +kernel
theorem dX4_fourthOf_28 : decode cX4_fourthOf 28 = .ok (.aload_n 0, 1) := by decide +kernel
theorem dX4_fourthOf_29 : decode cX4_fourthOf 29 = .ok (.aload_n 1, 1) := by decide +kernel
theorem dX4_fourthOf_30 : decode cX4_fourthOf 30 = .ok (.iconst 1, 1) := by decide +kernel
theorem dX4_fourthOf_31 : decode cX4_fourthOf 31 = .ok (.aaload, 1) := by decide +kernel
theorem dX4_fourthOf_32 : decode cX4_fourthOf 32 = .ok (.aload_n 1, 1) := by decide +kernel
theorem dX4_fourthOf_33 : decode cX4_fourthOf 33 = .ok (.iconst 2, 1) := by decide +kernel
theorem dX4_fourthOf_34 : decode cX4_fourthOf 34 = .ok (.aaload, 1) := by decide +kernel
theorem dX4_fourthOf_35 : decode cX4_fourthOf 35 = .ok (.iload 4, 2) := by decide +kernel
theorem dX4_fourthOf_37 : decode cX4_fourthOf 37 = .ok (.invokevirtual 101, 3) := by decide +kernel
theorem dX4_fourthOf_40 : decode cX4_fourthOf 40 = .ok (.invokevirtual 27, 3) := by decide +kernel
theorem dX4_fourthOf_43 : decode cX4_fourthOf 43 = .ok (.lstore 5, 2) := by decide +kernel
theorem dX4_fourthOf_45 : decode cX4_fourthOf 45 = .ok (.aload_n 0, 1) := by decide +kernel
theorem dX4_fourthOf_46 : decode cX4_fourthOf 46 = .ok (.getfield 21, 3) := by decide +kernel
theorem dX4_fourthOf_49 : decode cX4_fourthOf 49 = .ok (.aload_n 0, 1) := by decide +kernel
theorem dX4_fourthOf_50 : decode cX4_fourthOf 50 = .ok (.aload_n 1, 1) := by decide +kernel
theorem dX4_fourthOf_51 : decode cX4_fourthOf 51 = .ok (.iconst 0, 1) := by decide +kernel
theorem dX4_fourthOf_52 : decode cX4_fourthOf 52 = .ok (.aaload, 1) := by decide +kernel
theorem dX4_fourthOf_53 : decode cX4_fourthOf 53 = .ok (.aload_n 1, 1) := by decide +kernel
theorem dX4_fourthOf_54 : decode cX4_fourthOf 54 = .ok (.iconst 2, 1) := by decide +kernel
theorem dX4_fourthOf_55 : decode cX4_fourthOf 55 = .ok (.aaload, 1) := by decide +kernel
theorem dX4_fourthOf_56 : decode cX4_fourthOf 56 = .ok (.iload 4, 2) := by decide +kernel
theorem dX4_fourthOf_58 : decode cX4_fourthOf 58 = .ok (.invokevirtual 101, 3) := by decide +kernel
theorem dX4_fourthOf_61 : decode cX4_fourthOf 61 = .ok (.invokevirtual 36, 3) := by decide +kernel
theorem dX4_fourthOf_64 : decode cX4_fourthOf 64 = .ok (.lstore 7, 2) := by decide +kernel
theorem dX4_fourthOf_66 : decode cX4_fourthOf 66 = .ok (.aload_n 0, 1) := by decide +kernel
theorem dX4_fourthOf_67 : decode cX4_fourthOf 67 = .ok (.getfield 9, 3) := by decide +kernel
theorem dX4_fourthOf_70 : decode cX4_fourthOf 70 = .ok (.lload 5, 2) := by decide +kernel
theorem dX4_fourthOf_72 : decode cX4_fourthOf 72 = .ok (.aload_n 1, 1) := by decide +kernel
theorem dX4_fourthOf_73 : decode cX4_fourthOf 73 = .ok (.iconst 0, 1) := by decide +kernel
theorem dX4_fourthOf_74 : decode cX4_fourthOf 74 = .ok (.aaload, 1) := by decide +kernel
theorem dX4_fourthOf_75 : decode cX4_fourthOf 75 = .ok (.lload 7, 2) := by decide +kernel
theorem dX4_fourthOf_77 : decode cX4_fourthOf 77 = .ok (.aload_n 1, 1) := by decide +kernel
theorem dX4_fourthOf_78 : decode cX4_fourthOf 78 = .ok (.iconst 1, 1) := by decide +kernel
theorem dX4_fourthOf_79 : decode cX4_fourthOf 79 = .ok (.aaload, 1) := by decide +kernel
theorem dX4_fourthOf_80 : decode cX4_fourthOf 80 = .ok (.invokevirtual 111, 3) := by decide +kernel
theorem dX4_fourthOf_83 : decode cX4_fourthOf 83 = .ok (.areturn, 1) := by decide +kernel
theorem dX4_placeOfBrackets_0 : decode cX4_placeOfBrackets 0 = .ok (.iconst 1, 1) := by decide +kernel
theorem dX4_placeOfBrackets_1 : decode cX4_placeOfBrackets 1 = .ok (.istore_n 2, 1) := by decide +kernel
theorem dX4_placeOfBrackets_2 : decode cX4_placeOfBrackets 2 = .ok (.iload_n 2, 1) := by decide +kernel
theorem dX4_placeOfBrackets_3 : decode cX4_placeOfBrackets 3 = .ok (.aload_n 1, 1) := by decide +kernel
theorem dX4_placeOfBrackets_4 : decode cX4_placeOfBrackets 4 = .ok (.arraylength, 1) := by decide +kernel
theorem dX4_placeOfBrackets_5 : decode cX4_placeOfBrackets 5 = .ok (.if_icmp .ge 32, 3) := by decide +kernel
theorem dX4_placeOfBrackets_8 : decode cX4_placeOfBrackets 8 = .ok (.aload_n 0, 1) := by decide +kernel
theorem dX4_placeOfBrackets_9 : decode cX4_placeOfBrackets 9 = .ok (.aload_n 1, 1) := by decide +kernel
theorem dX4_placeOfBrackets_10 : decode cX4_placeOfBrackets 10 = .ok (.iconst 0, 1) := by decide +kernel
theorem dX4_placeOfBrackets_11 : decode cX4_placeOfBrackets 11 = .ok (.aaload, 1) := by decide +kernel
theorem dX4_placeOfBrackets_12 : decode cX4_placeOfBrackets 12 = .ok (.aload_n 1, 1) := by decide +kernel
theorem dX4_placeOfBrackets_13 : decode cX4_placeOfBrackets 13 = .ok (.iload_n 2, 1) := by decide +kernel
theorem dX4_placeOfBrackets_14 : decode cX4_placeOfBrackets 14 = .ok (.aaload, 1) := by decide +kernel
theorem dX4_placeOfBrackets_15 : decode cX4_placeOfBrackets 15 = .ok (.invokevirtual 40, 3) := by decide +kernel
theorem dX4_placeOfBrackets_18 : decode cX4_placeOfBrackets 18 = .ok (.astore_n 3, 1) := by decide +kernel
theorem dX4_placeOfBrackets_19 : decode cX4_placeOfBrackets 19 = .ok (.aload_n 3, 1) := by decide +kernel
theorem dX4_placeOfBrackets_20 : decode cX4_placeOfBrackets 20 = .ok (.invokestatic 69, 3) := by decide +kernel
theorem dX4_placeOfBrackets_23 : decode cX4_placeOfBrackets 23 = .ok (.ifCond .ne 8, 3) := by decide +kernel
theorem dX4_placeOfBrackets_26 : decode cX4_placeOfBrackets 26 = .ok (.aload_n 3, 1) := by decide +kernel
theorem dX4_placeOfBrackets_27 : decode cX4_placeOfBrackets 27 = .ok (.invokestatic 115, 3) := by decide +kernel
theorem dX4_placeOfBrackets_30 : decode cX4_placeOfBrackets 30 = .ok (.ireturn, 1) := by decide +kernel
theorem dX4_placeOfBrackets_31 : decode cX4_placeOfBrackets 31 = .ok (.iinc 2 1, 3) := by decide +kernel
theorem dX4_placeOfBrackets_34 : decode cX4_placeOfBrackets 34 = .ok (.goto (-32), 3) := by decide +kernel
theorem dX4_placeOfBrackets_37 : decode cX4_placeOfBrackets 37 = .ok (.iconst 0, 1) := by decide +kernel
theorem dX4_placeOfBrackets_38 : decode cX4_placeOfBrackets 38 = .ok (.ireturn, 1) := by decide +kernel
theorem dX4_bracket_0 : decode cX4_bracket 0 = .ok (.aload_n 0, 1) := by decide +kernel
theorem dX4_bracket_1 : decode cX4_bracket 1 = .ok (.aload_n 1, 1) := by decide +kernel
theorem dX4_bracket_2 : decode cX4_bracket 2 = .ok (.aload_n 2, 1) := by decide +kernel
theorem dX4_bracket_3 : decode cX4_bracket 3 = .ok (.invokevirtual 40, 3) := by decide +kernel
theorem dX4_bracket_6 : decode cX4_bracket 6 = .ok (.iload_n 3, 1) := by decide +kernel
theorem dX4_bracket_7 : decode cX4_bracket 7 = .ok (.laload, 1) := by decide +kernel
theorem dX4_bracket_8 : decode cX4_bracket 8 = .ok (.lreturn, 1) := by decide +kernel
theorem dX4_quadricConditions_0 : decode cX4_quadricConditions 0 = .ok (.aload_n 1, 1) := by decide +kernel
theorem dX4_quadricConditions_1 : decode cX4_quadricConditions 1 = .ok (.arraylength, 1) := by decide +kernel
theorem dX4_quadricConditions_2 : decode cX4_quadricConditions 2 = .ok (.aload_n 0, 1) := by decide +kernel
theorem dX4_quadricConditions_3 : decode cX4_quadricConditions 3 = .ok (.getfield 26, 3) := by decide +kernel
theorem dX4_quadricConditions_6 : decode cX4_quadricConditions 6 = .ok (.aload_n 0, 1) := by decide +kernel
theorem dX4_quadricConditions_7 : decode cX4_quadricConditions 7 = .ok (.getfield 26, 3) := by decide +kernel
theorem dX4_quadricConditions_10 : decode cX4_quadricConditions 10 = .ok (.iconst 1, 1) := by decide +kernel
theorem dX4_quadricConditions_11 : decode cX4_quadricConditions 11 = .ok (.iadd, 1) := by decide +kernel
theorem dX4_quadricConditions_12 : decode cX4_quadricConditions 12 = .ok (.imul, 1) := by decide +kernel
theorem dX4_quadricConditions_13 : decode cX4_quadricConditions 13 = .ok (.iconst 2, 1) := by decide +kernel
theorem dX4_quadricConditions_14 : decode cX4_quadricConditions 14 = .ok (.idiv, 1) := by decide +kernel
theorem dX4_quadricConditions_15 : decode cX4_quadricConditions 15 = .ok (.multianewarray 92 2, 4) := by decide +kernel
theorem dX4_quadricConditions_19 : decode cX4_quadricConditions 19 = .ok (.astore_n 2, 1) := by decide +kernel
theorem dX4_quadricConditions_20 : decode cX4_quadricConditions 20 = .ok (.iconst 0, 1) := by decide +kernel
theorem dX4_quadricConditions_21 : decode cX4_quadricConditions 21 = .ok (.istore_n 3, 1) := by decide +kernel
theorem dX4_quadricConditions_22 : decode cX4_quadricConditions 22 = .ok (.iload_n 3, 1) := by decide +kernel
theorem dX4_quadricConditions_23 : decode cX4_quadricConditions 23 = .ok (.aload_n 1, 1) := by decide +kernel
theorem dX4_quadricConditions_24 : decode cX4_quadricConditions 24 = .ok (.arraylength, 1) := by decide +kernel
theorem dX4_quadricConditions_25 : decode cX4_quadricConditions 25 = .ok (.if_icmp .ge 102, 3) := by decide +kernel
theorem dX4_quadricConditions_28 : decode cX4_quadricConditions 28 = .ok (.iconst 0, 1) := by decide +kernel
theorem dX4_quadricConditions_29 : decode cX4_quadricConditions 29 = .ok (.istore 4, 2) := by decide +kernel
theorem dX4_quadricConditions_31 : decode cX4_quadricConditions 31 = .ok (.iconst 0, 1) := by decide +kernel
theorem dX4_quadricConditions_32 : decode cX4_quadricConditions 32 = .ok (.istore 5, 2) := by decide +kernel
theorem dX4_quadricConditions_34 : decode cX4_quadricConditions 34 = .ok (.iload 5, 2) := by decide +kernel
theorem dX4_quadricConditions_36 : decode cX4_quadricConditions 36 = .ok (.aload_n 0, 1) := by decide +kernel
theorem dX4_quadricConditions_37 : decode cX4_quadricConditions 37 = .ok (.getfield 26, 3) := by decide +kernel
theorem dX4_quadricConditions_40 : decode cX4_quadricConditions 40 = .ok (.if_icmp .ge 81, 3) := by decide +kernel
theorem dX4_quadricConditions_43 : decode cX4_quadricConditions 43 = .ok (.iload 5, 2) := by decide +kernel
theorem dX4_quadricConditions_45 : decode cX4_quadricConditions 45 = .ok (.istore 6, 2) := by decide +kernel
theorem dX4_quadricConditions_47 : decode cX4_quadricConditions 47 = .ok (.iload 6, 2) := by decide +kernel
theorem dX4_quadricConditions_49 : decode cX4_quadricConditions 49 = .ok (.aload_n 0, 1) := by decide +kernel
theorem dX4_quadricConditions_50 : decode cX4_quadricConditions 50 = .ok (.getfield 26, 3) := by decide +kernel
theorem dX4_quadricConditions_53 : decode cX4_quadricConditions 53 = .ok (.if_icmp .ge 62, 3) := by decide +kernel
theorem dX4_quadricConditions_56 : decode cX4_quadricConditions 56 = .ok (.aload_n 0, 1) := by decide +kernel
theorem dX4_quadricConditions_57 : decode cX4_quadricConditions 57 = .ok (.getfield 21, 3) := by decide +kernel
theorem dX4_quadricConditions_60 : decode cX4_quadricConditions 60 = .ok (.aload_n 1, 1) := by decide +kernel
theorem dX4_quadricConditions_61 : decode cX4_quadricConditions 61 = .ok (.iload_n 3, 1) := by decide +kernel
theorem dX4_quadricConditions_62 : decode cX4_quadricConditions 62 = .ok (.aaload, 1) := by decide +kernel
theorem dX4_quadricConditions_63 : decode cX4_quadricConditions 63 = .ok (.iload 5, 2) := by decide +kernel
theorem dX4_quadricConditions_65 : decode cX4_quadricConditions 65 = .ok (.laload, 1) := by decide +kernel
theorem dX4_quadricConditions_66 : decode cX4_quadricConditions 66 = .ok (.aload_n 1, 1) := by decide +kernel
theorem dX4_quadricConditions_67 : decode cX4_quadricConditions 67 = .ok (.iload_n 3, 1) := by decide +kernel
theorem dX4_quadricConditions_68 : decode cX4_quadricConditions 68 = .ok (.aaload, 1) := by decide +kernel
theorem dX4_quadricConditions_69 : decode cX4_quadricConditions 69 = .ok (.iload 6, 2) := by decide +kernel
theorem dX4_quadricConditions_71 : decode cX4_quadricConditions 71 = .ok (.laload, 1) := by decide +kernel
theorem dX4_quadricConditions_72 : decode cX4_quadricConditions 72 = .ok (.invokevirtual 27, 3) := by decide +kernel
theorem dX4_quadricConditions_75 : decode cX4_quadricConditions 75 = .ok (.lstore 7, 2) := by decide +kernel
theorem dX4_quadricConditions_77 : decode cX4_quadricConditions 77 = .ok (.aload_n 2, 1) := by decide +kernel
theorem dX4_quadricConditions_78 : decode cX4_quadricConditions 78 = .ok (.iload_n 3, 1) := by decide +kernel
theorem dX4_quadricConditions_79 : decode cX4_quadricConditions 79 = .ok (.aaload, 1) := by decide +kernel
theorem dX4_quadricConditions_80 : decode cX4_quadricConditions 80 = .ok (.iload 4, 2) := by decide +kernel
theorem dX4_quadricConditions_82 : decode cX4_quadricConditions 82 = .ok (.iload 5, 2) := by decide +kernel
theorem dX4_quadricConditions_84 : decode cX4_quadricConditions 84 = .ok (.iload 6, 2) := by decide +kernel
theorem dX4_quadricConditions_86 : decode cX4_quadricConditions 86 = .ok (.if_icmp .ne 8, 3) := by decide +kernel
theorem dX4_quadricConditions_89 : decode cX4_quadricConditions 89 = .ok (.lload 7, 2) := by decide +kernel
theorem dX4_quadricConditions_91 : decode cX4_quadricConditions 91 = .ok (.goto 14, 3) := by decide +kernel
theorem dX4_quadricConditions_94 : decode cX4_quadricConditions 94 = .ok (.aload_n 0, 1) := by decide +kernel
theorem dX4_quadricConditions_95 : decode cX4_quadricConditions 95 = .ok (.getfield 21, 3) := by decide +kernel
theorem dX4_quadricConditions_98 : decode cX4_quadricConditions 98 = .ok (.lload 7, 2) := by decide +kernel
theorem dX4_quadricConditions_100 : decode cX4_quadricConditions 100 = .ok (.lload 7, 2) := by decide +kernel
theorem dX4_quadricConditions_102 : decode cX4_quadricConditions 102 = .ok (.invokevirtual 119, 3) := by decide +kernel
theorem dX4_quadricConditions_105 : decode cX4_quadricConditions 105 = .ok (.lastore, 1) := by decide +kernel
theorem dX4_quadricConditions_106 : decode cX4_quadricConditions 106 = .ok (.iinc 4 1, 3) := by decide +kernel
theorem dX4_quadricConditions_109 : decode cX4_quadricConditions 109 = .ok (.iinc 6 1, 3) := by decide +kernel
theorem dX4_quadricConditions_112 : decode cX4_quadricConditions 112 = .ok (.goto (-65), 3) := by decide +kernel
theorem dX4_quadricConditions_115 : decode cX4_quadricConditions 115 = .ok (.iinc 5 1, 3) := by decide +kernel
theorem dX4_quadricConditions_118 : decode cX4_quadricConditions 118 = .ok (.goto (-84), 3) := by decide +kernel
theorem dX4_quadricConditions_121 : decode cX4_quadricConditions 121 = .ok (.iinc 3 1, 3) := by decide +kernel
theorem dX4_quadricConditions_124 : decode cX4_quadricConditions 124 = .ok (.goto (-102), 3) := by decide +kernel
theorem dX4_quadricConditions_127 : decode cX4_quadricConditions 127 = .ok (.aload_n 2, 1) := by decide +kernel
theorem dX4_quadricConditions_128 : decode cX4_quadricConditions 128 = .ok (.areturn, 1) := by decide +kernel
theorem dX4_quadricThrough_0 : decode cX4_quadricThrough 0 = .ok (.aload_n 0, 1) := by decide +kernel
theorem dX4_quadricThrough_1 : decode cX4_quadricThrough 1 = .ok (.getfield 26, 3) := by decide +kernel
theorem dX4_quadricThrough_4 : decode cX4_quadricThrough 4 = .ok (.aload_n 0, 1) := by decide +kernel
theorem dX4_quadricThrough_5 : decode cX4_quadricThrough 5 = .ok (.getfield 26, 3) := by decide +kernel
theorem dX4_quadricThrough_8 : decode cX4_quadricThrough 8 = .ok (.iconst 1, 1) := by decide +kernel
theorem dX4_quadricThrough_9 : decode cX4_quadricThrough 9 = .ok (.iadd, 1) := by decide +kernel
theorem dX4_quadricThrough_10 : decode cX4_quadricThrough 10 = .ok (.imul, 1) := by decide +kernel
theorem dX4_quadricThrough_11 : decode cX4_quadricThrough 11 = .ok (.iconst 2, 1) := by decide +kernel
theorem dX4_quadricThrough_12 : decode cX4_quadricThrough 12 = .ok (.idiv, 1) := by decide +kernel
theorem dX4_quadricThrough_13 : decode cX4_quadricThrough 13 = .ok (.istore_n 2, 1) := by decide +kernel
theorem dX4_quadricThrough_14 : decode cX4_quadricThrough 14 = .ok (.aload_n 0, 1) := by decide +kernel
theorem dX4_quadricThrough_15 : decode cX4_quadricThrough 15 = .ok (.getfield 9, 3) := by decide +kernel
theorem dX4_quadricThrough_18 : decode cX4_quadricThrough 18 = .ok (.aload_n 0, 1) := by decide +kernel
theorem dX4_quadricThrough_19 : decode cX4_quadricThrough 19 = .ok (.aload_n 1, 1) := by decide +kernel
theorem dX4_quadricThrough_20 : decode cX4_quadricThrough 20 = .ok (.invokevirtual 122, 3) := by decide +kernel
theorem dX4_quadricThrough_23 : decode cX4_quadricThrough 23 = .ok (.iload_n 2, 1) := by decide +kernel
theorem dX4_quadricThrough_24 : decode cX4_quadricThrough 24 = .ok (.invokevirtual 126, 3) := by decide +kernel
theorem dX4_quadricThrough_27 : decode cX4_quadricThrough 27 = .ok (.astore_n 3, 1) := by decide +kernel
theorem dX4_quadricThrough_28 : decode cX4_quadricThrough 28 = .ok (.aload_n 3, 1) := by decide +kernel
theorem dX4_quadricThrough_29 : decode cX4_quadricThrough 29 = .ok (.ifnonnull 5, 3) := by decide +kernel
theorem dX4_quadricThrough_32 : decode cX4_quadricThrough 32 = .ok (.aconst_null, 1) := by decide +kernel
theorem dX4_quadricThrough_33 : decode cX4_quadricThrough 33 = .ok (.areturn, 1) := by decide +kernel
theorem dX4_quadricThrough_34 : decode cX4_quadricThrough 34 = .ok (.aload_n 0, 1) := by decide +kernel
theorem dX4_quadricThrough_35 : decode cX4_quadricThrough 35 = .ok (.getfield 26, 3) := by decide +kernel
theorem dX4_quadricThrough_38 : decode cX4_quadricThrough 38 = .ok (.aload_n 0, 1) := by decide +kernel
theorem dX4_quadricThrough_39 : decode cX4_quadricThrough 39 = .ok (.getfield 26, 3) := by decide +kernel
theorem dX4_quadricThrough_42 : decode cX4_quadricThrough 42 = .ok (.imul, 1) := by decide +kernel
theorem dX4_quadricThrough_43 : decode cX4_quadricThrough 43 = .ok (.newarray .long, 2) := by decide +kernel
theorem dX4_quadricThrough_45 : decode cX4_quadricThrough 45 = .ok (.astore 4, 2) := by decide +kernel
theorem dX4_quadricThrough_47 : decode cX4_quadricThrough 47 = .ok (.iconst 0, 1) := by decide +kernel
theorem dX4_quadricThrough_48 : decode cX4_quadricThrough 48 = .ok (.istore 5, 2) := by decide +kernel
theorem dX4_quadricThrough_50 : decode cX4_quadricThrough 50 = .ok (.iconst 0, 1) := by decide +kernel
theorem dX4_quadricThrough_51 : decode cX4_quadricThrough 51 = .ok (.istore 6, 2) := by decide +kernel
theorem dX4_quadricThrough_53 : decode cX4_quadricThrough 53 = .ok (.iload 6, 2) := by decide +kernel
theorem dX4_quadricThrough_55 : decode cX4_quadricThrough 55 = .ok (.aload_n 0, 1) := by decide +kernel
theorem dX4_quadricThrough_56 : decode cX4_quadricThrough 56 = .ok (.getfield 26, 3) := by decide +kernel
theorem dX4_quadricThrough_59 : decode cX4_quadricThrough 59 = .ok (.if_icmp .ge 65, 3) := by decide +kernel
theorem dX4_quadricThrough_62 : decode cX4_quadricThrough 62 = .ok (.iload 6, 2) := by decide +kernel
theorem dX4_quadricThrough_64 : decode cX4_quadricThrough 64 = .ok (.istore 7, 2) := by decide +kernel
theorem dX4_quadricThrough_66 : decode cX4_quadricThrough 66 = .ok (.iload 7, 2) := by decide +kernel
theorem dX4_quadricThrough_68 : decode cX4_quadricThrough 68 = .ok (.aload_n 0, 1) := by decide +kernel
theorem dX4_quadricThrough_69 : decode cX4_quadricThrough 69 = .ok (.getfield 26, 3) := by decide +kernel
theorem dX4_quadricThrough_72 : decode cX4_quadricThrough 72 = .ok (.if_icmp .ge 46, 3) := by decide +kernel
theorem dX4_quadricThrough_75 : decode cX4_quadricThrough 75 = .ok (.aload 4, 2) := by decide +kernel
theorem dX4_quadricThrough_77 : decode cX4_quadricThrough 77 = .ok (.iload 6, 2) := by decide +kernel
theorem dX4_quadricThrough_79 : decode cX4_quadricThrough 79 = .ok (.aload_n 0, 1) := by decide +kernel
theorem dX4_quadricThrough_80 : decode cX4_quadricThrough 80 = .ok (.getfield 26, 3) := by decide +kernel
theorem dX4_quadricThrough_83 : decode cX4_quadricThrough 83 = .ok (.imul, 1) := by decide +kernel
theorem dX4_quadricThrough_84 : decode cX4_quadricThrough 84 = .ok (.iload 7, 2) := by decide +kernel
theorem dX4_quadricThrough_86 : decode cX4_quadricThrough 86 = .ok (.iadd, 1) := by decide +kernel
theorem dX4_quadricThrough_87 : decode cX4_quadricThrough 87 = .ok (.aload_n 3, 1) := by decide +kernel
theorem dX4_quadricThrough_88 : decode cX4_quadricThrough 88 = .ok (.iload 5, 2) := by decide +kernel
theorem dX4_quadricThrough_90 : decode cX4_quadricThrough 90 = .ok (.laload, 1) := by decide +kernel
theorem dX4_quadricThrough_91 : decode cX4_quadricThrough 91 = .ok (.lastore, 1) := by decide +kernel
theorem dX4_quadricThrough_92 : decode cX4_quadricThrough 92 = .ok (.aload 4, 2) := by decide +kernel
theorem dX4_quadricThrough_94 : decode cX4_quadricThrough 94 = .ok (.iload 7, 2) := by decide +kernel
theorem dX4_quadricThrough_96 : decode cX4_quadricThrough 96 = .ok (.aload_n 0, 1) := by decide +kernel
theorem dX4_quadricThrough_97 : decode cX4_quadricThrough 97 = .ok (.getfield 26, 3) := by decide +kernel
theorem dX4_quadricThrough_100 : decode cX4_quadricThrough 100 = .ok (.imul, 1) := by decide +kernel
theorem dX4_quadricThrough_101 : decode cX4_quadricThrough 101 = .ok (.iload 6, 2) := by decide +kernel
theorem dX4_quadricThrough_103 : decode cX4_quadricThrough 103 = .ok (.iadd, 1) := by decide +kernel
theorem dX4_quadricThrough_104 : decode cX4_quadricThrough 104 = .ok (.aload_n 3, 1) := by decide +kernel
theorem dX4_quadricThrough_105 : decode cX4_quadricThrough 105 = .ok (.iload 5, 2) := by decide +kernel
theorem dX4_quadricThrough_107 : decode cX4_quadricThrough 107 = .ok (.laload, 1) := by decide +kernel
theorem dX4_quadricThrough_108 : decode cX4_quadricThrough 108 = .ok (.lastore, 1) := by decide +kernel
theorem dX4_quadricThrough_109 : decode cX4_quadricThrough 109 = .ok (.iinc 5 1, 3) := by decide +kernel
theorem dX4_quadricThrough_112 : decode cX4_quadricThrough 112 = .ok (.iinc 7 1, 3) := by decide +kernel
theorem dX4_quadricThrough_115 : decode cX4_quadricThrough 115 = .ok (.goto (-49), 3) := by decide +kernel
theorem dX4_quadricThrough_118 : decode cX4_quadricThrough 118 = .ok (.iinc 6 1, 3) := by decide +kernel
theorem dX4_quadricThrough_121 : decode cX4_quadricThrough 121 = .ok (.goto (-68), 3) := by decide +kernel
theorem dX4_quadricThrough_124 : decode cX4_quadricThrough 124 = .ok (.aload 4, 2) := by decide +kernel
theorem dX4_quadricThrough_126 : decode cX4_quadricThrough 126 = .ok (.areturn, 1) := by decide +kernel
theorem dX4_pointAt_0 : decode cX4_pointAt 0 = .ok (.lload_n 2, 1) := by decide +kernel
theorem dX4_pointAt_1 : decode cX4_pointAt 1 = .ok (.aload_n 0, 1) := by decide +kernel
theorem dX4_pointAt_2 : decode cX4_pointAt 2 = .ok (.getfield 21, 3) := by decide +kernel
theorem dX4_pointAt_5 : decode cX4_pointAt 5 = .ok (.getfield 107, 3) := by decide +kernel
theorem dX4_pointAt_8 : decode cX4_pointAt 8 = .ok (.lcmp, 1) := by decide +kernel
theorem dX4_pointAt_9 : decode cX4_pointAt 9 = .ok (.ifCond .ne 9, 3) := by decide +kernel
theorem dX4_pointAt_12 : decode cX4_pointAt 12 = .ok (.aload_n 1, 1) := by decide +kernel
theorem dX4_pointAt_13 : decode cX4_pointAt 13 = .ok (.iconst 1, 1) := by decide +kernel
theorem dX4_pointAt_14 : decode cX4_pointAt 14 = .ok (.aaload, 1) := by decide +kernel
theorem dX4_pointAt_15 : decode cX4_pointAt 15 = .ok (.goto 18, 3) := by decide +kernel
theorem dX4_pointAt_18 : decode cX4_pointAt 18 = .ok (.aload_n 0, 1) := by decide +kernel
theorem dX4_pointAt_19 : decode cX4_pointAt 19 = .ok (.getfield 9, 3) := by decide +kernel
theorem dX4_pointAt_22 : decode cX4_pointAt 22 = .ok (.lconst 1, 1) := by decide +kernel
theorem dX4_pointAt_23 : decode cX4_pointAt 23 = .ok (.aload_n 1, 1) := by decide +kernel
theorem dX4_pointAt_24 : decode cX4_pointAt 24 = .ok (.iconst 0, 1) := by decide +kernel
theorem dX4_pointAt_25 : decode cX4_pointAt 25 = .ok (.aaload, 1) := by decide +kernel
theorem dX4_pointAt_26 : decode cX4_pointAt 26 = .ok (.lload_n 2, 1) := by decide +kernel
theorem dX4_pointAt_27 : decode cX4_pointAt 27 = .ok (.aload_n 1, 1) := by decide +kernel
theorem dX4_pointAt_28 : decode cX4_pointAt 28 = .ok (.iconst 1, 1) := by decide +kernel
theorem dX4_pointAt_29 : decode cX4_pointAt 29 = .ok (.aaload, 1) := by decide +kernel
theorem dX4_pointAt_30 : decode cX4_pointAt 30 = .ok (.invokevirtual 111, 3) := by decide +kernel
theorem dX4_pointAt_33 : decode cX4_pointAt 33 = .ok (.areturn, 1) := by decide +kernel
theorem dX4_stepsOnQuadric_0 : decode cX4_stepsOnQuadric 0 = .ok (.aload_n 0, 1) := by decide +kernel
theorem dX4_stepsOnQuadric_1 : decode cX4_stepsOnQuadric 1 = .ok (.getfield 9, 3) := by decide +kernel
theorem dX4_stepsOnQuadric_4 : decode cX4_stepsOnQuadric 4 = .ok (.aload_n 1, 1) := by decide +kernel
theorem dX4_stepsOnQuadric_5 : decode cX4_stepsOnQuadric 5 = .ok (.aload_n 2, 1) := by decide +kernel
theorem dX4_stepsOnQuadric_6 : decode cX4_stepsOnQuadric 6 = .ok (.iconst 0, 1) := by decide +kernel
theorem dX4_stepsOnQuadric_7 : decode cX4_stepsOnQuadric 7 = .ok (.aaload, 1) := by decide +kernel
theorem dX4_stepsOnQuadric_8 : decode cX4_stepsOnQuadric 8 = .ok (.aload_n 2, 1) := by decide +kernel
theorem dX4_stepsOnQuadric_9 : decode cX4_stepsOnQuadric 9 = .ok (.iconst 0, 1) := by decide +kernel
theorem dX4_stepsOnQuadric_10 : decode cX4_stepsOnQuadric 10 = .ok (.aaload, 1) := by decide +kernel
theorem dX4_stepsOnQuadric_11 : decode cX4_stepsOnQuadric 11 = .ok (.invokevirtual 130, 3) := by decide +kernel
theorem dX4_stepsOnQuadric_14 : decode cX4_stepsOnQuadric 14 = .ok (.lstore_n 3, 1) := by decide +kernel
theorem dX4_stepsOnQuadric_15 : decode cX4_stepsOnQuadric 15 = .ok (.aload_n 0, 1) := by decide +kernel
theorem dX4_stepsOnQuadric_16 : decode cX4_stepsOnQuadric 16 = .ok (.getfield 9, 3) := by decide +kernel
theorem dX4_stepsOnQuadric_19 : decode cX4_stepsOnQuadric 19 = .ok (.aload_n 1, 1) := by decide +kernel
theorem dX4_stepsOnQuadric_20 : decode cX4_stepsOnQuadric 20 = .ok (.aload_n 2, 1) := by decide +kernel
theorem dX4_stepsOnQuadric_21 : decode cX4_stepsOnQuadric 21 = .ok (.iconst 0, 1) := by decide +kernel
theorem dX4_stepsOnQuadric_22 : decode cX4_stepsOnQuadric 22 = .ok (.aaload, 1) := by decide +kernel
theorem dX4_stepsOnQuadric_23 : decode cX4_stepsOnQuadric 23 = .ok (.aload_n 2, 1) := by decide +kernel
theorem dX4_stepsOnQuadric_24 : decode cX4_stepsOnQuadric 24 = .ok (.iconst 1, 1) := by decide +kernel
theorem dX4_stepsOnQuadric_25 : decode cX4_stepsOnQuadric 25 = .ok (.aaload, 1) := by decide +kernel
theorem dX4_stepsOnQuadric_26 : decode cX4_stepsOnQuadric 26 = .ok (.invokevirtual 130, 3) := by decide +kernel
theorem dX4_stepsOnQuadric_29 : decode cX4_stepsOnQuadric 29 = .ok (.lstore 5, 2) := by decide +kernel
theorem dX4_stepsOnQuadric_31 : decode cX4_stepsOnQuadric 31 = .ok (.aload_n 0, 1) := by decide +kernel
theorem dX4_stepsOnQuadric_32 : decode cX4_stepsOnQuadric 32 = .ok (.getfield 9, 3) := by decide +kernel
theorem dX4_stepsOnQuadric_35 : decode cX4_stepsOnQuadric 35 = .ok (.aload_n 1, 1) := by decide +kernel
theorem dX4_stepsOnQuadric_36 : decode cX4_stepsOnQuadric 36 = .ok (.aload_n 2, 1) := by decide +kernel
theorem dX4_stepsOnQuadric_37 : decode cX4_stepsOnQuadric 37 = .ok (.iconst 1, 1) := by decide +kernel
theorem dX4_stepsOnQuadric_38 : decode cX4_stepsOnQuadric 38 = .ok (.aaload, 1) := by decide +kernel
theorem dX4_stepsOnQuadric_39 : decode cX4_stepsOnQuadric 39 = .ok (.aload_n 2, 1) := by decide +kernel
theorem dX4_stepsOnQuadric_40 : decode cX4_stepsOnQuadric 40 = .ok (.iconst 1, 1) := by decide +kernel
theorem dX4_stepsOnQuadric_41 : decode cX4_stepsOnQuadric 41 = .ok (.aaload, 1) := by decide +kernel
theorem dX4_stepsOnQuadric_42 : decode cX4_stepsOnQuadric 42 = .ok (.invokevirtual 130, 3) := by decide +kernel
theorem dX4_stepsOnQuadric_45 : decode cX4_stepsOnQuadric 45 = .ok (.lstore 7, 2) := by decide +kernel
theorem dX4_stepsOnQuadric_47 : decode cX4_stepsOnQuadric 47 = .ok (.lload 7, 2) := by decide +kernel
theorem dX4_stepsOnQuadric_49 : decode cX4_stepsOnQuadric 49 = .ok (.lconst 0, 1) := by decide +kernel
theorem dX4_stepsOnQuadric_50 : decode cX4_stepsOnQuadric 50 = .ok (.lcmp, 1) := by decide +kernel
theorem dX4_stepsOnQuadric_51 : decode cX4_stepsOnQuadric 51 = .ok (.ifCond .eq 13, 3) := by decide +kernel
theorem dX4_stepsOnQuadric_54 : decode cX4_stepsOnQuadric 54 = .ok (.aload_n 0, 1) := by decide +kernel
theorem dX4_stepsOnQuadric_55 : decode cX4_stepsOnQuadric 55 = .ok (.lload 7, 2) := by decide +kernel
theorem dX4_stepsOnQuadric_57 : decode cX4_stepsOnQuadric 57 = .ok (.lload 5, 2) := by decide +kernel
theorem dX4_stepsOnQuadric_59 : decode cX4_stepsOnQuadric 59 = .ok (.lload_n 3, 1) := by decide +kernel
theorem dX4_stepsOnQuadric_60 : decode cX4_stepsOnQuadric 60 = .ok (.invokevirtual 134, 3) := by decide +kernel
theorem dX4_stepsOnQuadric_63 : decode cX4_stepsOnQuadric 63 = .ok (.areturn, 1) := by decide +kernel
theorem dX4_stepsOnQuadric_64 : decode cX4_stepsOnQuadric 64 = .ok (.lload 5, 2) := by decide +kernel
theorem dX4_stepsOnQuadric_66 : decode cX4_stepsOnQuadric 66 = .ok (.lconst 0, 1) := by decide +kernel
theorem dX4_stepsOnQuadric_67 : decode cX4_stepsOnQuadric 67 = .ok (.lcmp, 1) := by decide +kernel
theorem dX4_stepsOnQuadric_68 : decode cX4_stepsOnQuadric 68 = .ok (.ifCond .eq 61, 3) := by decide +kernel
theorem dX4_stepsOnQuadric_71 : decode cX4_stepsOnQuadric 71 = .ok (.aload_n 0, 1) := by decide +kernel
theorem dX4_stepsOnQuadric_72 : decode cX4_stepsOnQuadric 72 = .ok (.getfield 21, 3) := by decide +kernel
theorem dX4_stepsOnQuadric_75 : decode cX4_stepsOnQuadric 75 = .ok (.lload 5, 2) := by decide +kernel
theorem dX4_stepsOnQuadric_77 : decode cX4_stepsOnQuadric 77 = .ok (.lload 5, 2) := by decide +kernel
theorem dX4_stepsOnQuadric_79 : decode cX4_stepsOnQuadric 79 = .ok (.invokevirtual 119, 3) := by decide +kernel
theorem dX4_stepsOnQuadric_82 : decode cX4_stepsOnQuadric 82 = .ok (.lstore 9, 2) := by decide +kernel
theorem dX4_stepsOnQuadric_84 : decode cX4_stepsOnQuadric 84 = .ok (.aload_n 0, 1) := by decide +kernel
theorem dX4_stepsOnQuadric_85 : decode cX4_stepsOnQuadric 85 = .ok (.getfield 21, 3) := by decide +kernel
theorem dX4_stepsOnQuadric_88 : decode cX4_stepsOnQuadric 88 = .ok (.aload_n 0, 1) := by decide +kernel
theorem dX4_stepsOnQuadric_89 : decode cX4_stepsOnQuadric 89 = .ok (.getfield 21, 3) := by decide +kernel
theorem dX4_stepsOnQuadric_92 : decode cX4_stepsOnQuadric 92 = .ok (.lload_n 3, 1) := by decide +kernel
theorem dX4_stepsOnQuadric_93 : decode cX4_stepsOnQuadric 93 = .ok (.aload_n 0, 1) := by decide +kernel
theorem dX4_stepsOnQuadric_94 : decode cX4_stepsOnQuadric 94 = .ok (.getfield 21, 3) := by decide +kernel
theorem dX4_stepsOnQuadric_97 : decode cX4_stepsOnQuadric 97 = .ok (.lload 9, 2) := by decide +kernel
theorem dX4_stepsOnQuadric_99 : decode cX4_stepsOnQuadric 99 = .ok (.invokevirtual 83, 3) := by decide +kernel
theorem dX4_stepsOnQuadric_102 : decode cX4_stepsOnQuadric 102 = .ok (.invokevirtual 27, 3) := by decide +kernel
theorem dX4_stepsOnQuadric_105 : decode cX4_stepsOnQuadric 105 = .ok (.invokevirtual 36, 3) := by decide +kernel
theorem dX4_stepsOnQuadric_108 : decode cX4_stepsOnQuadric 108 = .ok (.lstore 11, 2) := by decide +kernel
theorem dX4_stepsOnQuadric_110 : decode cX4_stepsOnQuadric 110 = .ok (.iconst 2, 1) := by decide +kernel
theorem dX4_stepsOnQuadric_111 : decode cX4_stepsOnQuadric 111 = .ok (.newarray .long, 2) := by decide +kernel
theorem dX4_stepsOnQuadric_113 : decode cX4_stepsOnQuadric 113 = .ok (.dup, 1) := by decide +kernel
theorem dX4_stepsOnQuadric_114 : decode cX4_stepsOnQuadric 114 = .ok (.iconst 0, 1) := by decide +kernel
theorem dX4_stepsOnQuadric_115 : decode cX4_stepsOnQuadric 115 = .ok (.lload 11, 2) := by decide +kernel
theorem dX4_stepsOnQuadric_117 : decode cX4_stepsOnQuadric 117 = .ok (.lastore, 1) := by decide +kernel
theorem dX4_stepsOnQuadric_118 : decode cX4_stepsOnQuadric 118 = .ok (.dup, 1) := by decide +kernel
theorem dX4_stepsOnQuadric_119 : decode cX4_stepsOnQuadric 119 = .ok (.iconst 1, 1) := by decide +kernel
theorem dX4_stepsOnQuadric_120 : decode cX4_stepsOnQuadric 120 = .ok (.aload_n 0, 1) := by decide +kernel
theorem dX4_stepsOnQuadric_121 : decode cX4_stepsOnQuadric 121 = .ok (.getfield 21, 3) := by decide +kernel
theorem dX4_stepsOnQuadric_124 : decode cX4_stepsOnQuadric 124 = .ok (.getfield 107, 3) := by decide +kernel
theorem dX4_stepsOnQuadric_127 : decode cX4_stepsOnQuadric 127 = .ok (.lastore, 1) := by decide +kernel
theorem dX4_stepsOnQuadric_128 : decode cX4_stepsOnQuadric 128 = .ok (.areturn, 1) := by decide +kernel
theorem dX4_stepsOnQuadric_129 : decode cX4_stepsOnQuadric 129 = .ok (.lload_n 3, 1) := by decide +kernel
theorem dX4_stepsOnQuadric_130 : decode cX4_stepsOnQuadric 130 = .ok (.lconst 0, 1) := by decide +kernel
theorem dX4_stepsOnQuadric_131 : decode cX4_stepsOnQuadric 131 = .ok (.lcmp, 1) := by decide +kernel
theorem dX4_stepsOnQuadric_132 : decode cX4_stepsOnQuadric 132 = .ok (.ifCond .ne 7, 3) := by decide +kernel
theorem dX4_stepsOnQuadric_135 : decode cX4_stepsOnQuadric 135 = .ok (.aconst_null, 1) := by decide +kernel
theorem dX4_stepsOnQuadric_136 : decode cX4_stepsOnQuadric 136 = .ok (.goto 16, 3) := by decide +kernel
theorem dX4_stepsOnQuadric_139 : decode cX4_stepsOnQuadric 139 = .ok (.iconst 1, 1) := by decide +kernel
theorem dX4_stepsOnQuadric_140 : decode cX4_stepsOnQuadric 140 = .ok (.newarray .long, 2) := by decide +kernel
theorem dX4_stepsOnQuadric_142 : decode cX4_stepsOnQuadric 142 = .ok (.dup, 1) := by decide +kernel
theorem dX4_stepsOnQuadric_143 : decode cX4_stepsOnQuadric 143 = .ok (.iconst 0, 1) := by decide +kernel
theorem dX4_stepsOnQuadric_144 : decode cX4_stepsOnQuadric 144 = .ok (.aload_n 0, 1) := by decide +kernel
theorem dX4_stepsOnQuadric_145 : decode cX4_stepsOnQuadric 145 = .ok (.getfield 21, 3) := by decide +kernel
theorem dX4_stepsOnQuadric_148 : decode cX4_stepsOnQuadric 148 = .ok (.getfield 107, 3) := by decide +kernel
theorem dX4_stepsOnQuadric_151 : decode cX4_stepsOnQuadric 151 = .ok (.lastore, 1) := by decide +kernel
theorem dX4_stepsOnQuadric_152 : decode cX4_stepsOnQuadric 152 = .ok (.areturn, 1) := by decide +kernel
theorem dX4_stepsOfSquare_0 : decode cX4_stepsOfSquare 0 = .ok (.aload_n 0, 1) := by decide +kernel
theorem dX4_stepsOfSquare_1 : decode cX4_stepsOfSquare 1 = .ok (.getfield 21, 3) := by decide +kernel
theorem dX4_stepsOfSquare_4 : decode cX4_stepsOfSquare 4 = .ok (.aload_n 0, 1) := by decide +kernel
theorem dX4_stepsOfSquare_5 : decode cX4_stepsOfSquare 5 = .ok (.getfield 21, 3) := by decide +kernel
theorem dX4_stepsOfSquare_8 : decode cX4_stepsOfSquare 8 = .ok (.aload_n 0, 1) := by decide +kernel
theorem dX4_stepsOfSquare_9 : decode cX4_stepsOfSquare 9 = .ok (.getfield 21, 3) := by decide +kernel
theorem dX4_stepsOfSquare_12 : decode cX4_stepsOfSquare 12 = .ok (.lload_n 3, 1) := by decide +kernel
theorem dX4_stepsOfSquare_13 : decode cX4_stepsOfSquare 13 = .ok (.lload_n 3, 1) := by decide +kernel
theorem dX4_stepsOfSquare_14 : decode cX4_stepsOfSquare 14 = .ok (.invokevirtual 27, 3) := by decide +kernel
theorem dX4_stepsOfSquare_17 : decode cX4_stepsOfSquare 17 = .ok (.aload_n 0, 1) := by decide +kernel
theorem dX4_stepsOfSquare_18 : decode cX4_stepsOfSquare 18 = .ok (.getfield 21, 3) := by decide +kernel
theorem dX4_stepsOfSquare_21 : decode cX4_stepsOfSquare 21 = .ok (.lload_n 1, 1) := by decide +kernel
theorem dX4_stepsOfSquare_22 : decode cX4_stepsOfSquare 22 = .ok (.lload 5, 2) := by decide +kernel
theorem dX4_stepsOfSquare_24 : decode cX4_stepsOfSquare 24 = .ok (.invokevirtual 27, 3) := by decide +kernel
theorem dX4_stepsOfSquare_27 : decode cX4_stepsOfSquare 27 = .ok (.invokevirtual 33, 3) := by decide +kernel
theorem dX4_stepsOfSquare_30 : decode cX4_stepsOfSquare 30 = .ok (.invokevirtual 138, 3) := by decide +kernel
theorem dX4_stepsOfSquare_33 : decode cX4_stepsOfSquare 33 = .ok (.lstore 7, 2) := by decide +kernel
theorem dX4_stepsOfSquare_35 : decode cX4_stepsOfSquare 35 = .ok (.lload 7, 2) := by decide +kernel
theorem dX4_stepsOfSquare_37 : decode cX4_stepsOfSquare 37 = .ok (.lconst 0, 1) := by decide +kernel
theorem dX4_stepsOfSquare_38 : decode cX4_stepsOfSquare 38 = .ok (.lcmp, 1) := by decide +kernel
theorem dX4_stepsOfSquare_39 : decode cX4_stepsOfSquare 39 = .ok (.ifCond .ge 7, 3) := by decide +kernel
theorem dX4_stepsOfSquare_42 : decode cX4_stepsOfSquare 42 = .ok (.iconst 0, 1) := by decide +kernel
theorem dX4_stepsOfSquare_43 : decode cX4_stepsOfSquare 43 = .ok (.newarray .long, 2) := by decide +kernel
theorem dX4_stepsOfSquare_45 : decode cX4_stepsOfSquare 45 = .ok (.areturn, 1) := by decide +kernel
theorem dX4_stepsOfSquare_46 : decode cX4_stepsOfSquare 46 = .ok (.aload_n 0, 1) := by decide +kernel
theorem dX4_stepsOfSquare_47 : decode cX4_stepsOfSquare 47 = .ok (.getfield 21, 3) := by decide +kernel
theorem dX4_stepsOfSquare_50 : decode cX4_stepsOfSquare 50 = .ok (.lload_n 1, 1) := by decide +kernel
theorem dX4_stepsOfSquare_51 : decode cX4_stepsOfSquare 51 = .ok (.invokevirtual 83, 3) := by decide +kernel
theorem dX4_stepsOfSquare_54 : decode cX4_stepsOfSquare 54 = .ok (.lstore 9, 2) := by decide +kernel
theorem dX4_stepsOfSquare_56 : decode cX4_stepsOfSquare 56 = .ok (.aload_n 0, 1) := by decide +kernel
theorem dX4_stepsOfSquare_57 : decode cX4_stepsOfSquare 57 = .ok (.getfield 21, 3) := by decide +kernel
theorem dX4_stepsOfSquare_60 : decode cX4_stepsOfSquare 60 = .ok (.lload 9, 2) := by decide +kernel
theorem dX4_stepsOfSquare_62 : decode cX4_stepsOfSquare 62 = .ok (.aload_n 0, 1) := by decide +kernel
theorem dX4_stepsOfSquare_63 : decode cX4_stepsOfSquare 63 = .ok (.getfield 21, 3) := by decide +kernel
theorem dX4_stepsOfSquare_66 : decode cX4_stepsOfSquare 66 = .ok (.aload_n 0, 1) := by decide +kernel
theorem dX4_stepsOfSquare_67 : decode cX4_stepsOfSquare 67 = .ok (.getfield 21, 3) := by decide +kernel
theorem dX4_stepsOfSquare_70 : decode cX4_stepsOfSquare 70 = .ok (.lload 7, 2) := by decide +kernel
theorem dX4_stepsOfSquare_72 : decode cX4_stepsOfSquare 72 = .ok (.invokevirtual 36, 3) := by decide +kernel
theorem dX4_stepsOfSquare_75 : decode cX4_stepsOfSquare 75 = .ok (.lload_n 3, 1) := by decide +kernel
theorem dX4_stepsOfSquare_76 : decode cX4_stepsOfSquare 76 = .ok (.invokevirtual 33, 3) := by decide +kernel
theorem dX4_stepsOfSquare_79 : decode cX4_stepsOfSquare 79 = .ok (.invokevirtual 27, 3) := by decide +kernel
theorem dX4_stepsOfSquare_82 : decode cX4_stepsOfSquare 82 = .ok (.lstore 11, 2) := by decide +kernel
theorem dX4_stepsOfSquare_84 : decode cX4_stepsOfSquare 84 = .ok (.aload_n 0, 1) := by decide +kernel
theorem dX4_stepsOfSquare_85 : decode cX4_stepsOfSquare 85 = .ok (.getfield 21, 3) := by decide +kernel
theorem dX4_stepsOfSquare_88 : decode cX4_stepsOfSquare 88 = .ok (.lload 9, 2) := by decide +kernel
theorem dX4_stepsOfSquare_90 : decode cX4_stepsOfSquare 90 = .ok (.aload_n 0, 1) := by decide +kernel
theorem dX4_stepsOfSquare_91 : decode cX4_stepsOfSquare 91 = .ok (.getfield 21, 3) := by decide +kernel
theorem dX4_stepsOfSquare_94 : decode cX4_stepsOfSquare 94 = .ok (.lload 7, 2) := by decide +kernel
theorem dX4_stepsOfSquare_96 : decode cX4_stepsOfSquare 96 = .ok (.lload_n 3, 1) := by decide +kernel
theorem dX4_stepsOfSquare_97 : decode cX4_stepsOfSquare 97 = .ok (.invokevirtual 33, 3) := by decide +kernel
theorem dX4_stepsOfSquare_100 : decode cX4_stepsOfSquare 100 = .ok (.invokevirtual 27, 3) := by decide +kernel
theorem dX4_stepsOfSquare_103 : decode cX4_stepsOfSquare 103 = .ok (.lstore 13, 2) := by decide +kernel
theorem dX4_stepsOfSquare_105 : decode cX4_stepsOfSquare 105 = .ok (.lload 11, 2) := by decide +kernel
theorem dX4_stepsOfSquare_107 : decode cX4_stepsOfSquare 107 = .ok (.lload 13, 2) := by decide +kernel
theorem dX4_stepsOfSquare_109 : decode cX4_stepsOfSquare 109 = .ok (.lcmp, 1) := by decide +kernel
theorem dX4_stepsOfSquare_110 : decode cX4_stepsOfSquare 110 = .ok (.ifCond .ne 12, 3) := by decide +kernel
theorem dX4_stepsOfSquare_113 : decode cX4_stepsOfSquare 113 = .ok (.iconst 1, 1) := by decide +kernel
theorem dX4_stepsOfSquare_114 : decode cX4_stepsOfSquare 114 = .ok (.newarray .long, 2) := by decide +kernel
theorem dX4_stepsOfSquare_116 : decode cX4_stepsOfSquare 116 = .ok (.dup, 1) := by decide +kernel
theorem dX4_stepsOfSquare_117 : decode cX4_stepsOfSquare 117 = .ok (.iconst 0, 1) := by decide +kernel
theorem dX4_stepsOfSquare_118 : decode cX4_stepsOfSquare 118 = .ok (.lload 11, 2) := by decide +kernel
theorem dX4_stepsOfSquare_120 : decode cX4_stepsOfSquare 120 = .ok (.lastore, 1) := by decide +kernel
theorem dX4_stepsOfSquare_121 : decode cX4_stepsOfSquare 121 = .ok (.areturn, 1) := by decide +kernel
theorem dX4_stepsOfSquare_122 : decode cX4_stepsOfSquare 122 = .ok (.iconst 2, 1) := by decide +kernel
theorem dX4_stepsOfSquare_123 : decode cX4_stepsOfSquare 123 = .ok (.newarray .long, 2) := by decide +kernel
theorem dX4_stepsOfSquare_125 : decode cX4_stepsOfSquare 125 = .ok (.dup, 1) := by decide +kernel
theorem dX4_stepsOfSquare_126 : decode cX4_stepsOfSquare 126 = .ok (.iconst 0, 1) := by decide +kernel
theorem dX4_stepsOfSquare_127 : decode cX4_stepsOfSquare 127 = .ok (.lload 11, 2) := by decide +kernel
theorem dX4_stepsOfSquare_129 : decode cX4_stepsOfSquare 129 = .ok (.lload 13, 2) := by decide +kernel
theorem dX4_stepsOfSquare_131 : decode cX4_stepsOfSquare 131 = .ok (.invokestatic 141, 3) := by decide +kernel
theorem dX4_stepsOfSquare_134 : decode cX4_stepsOfSquare 134 = .ok (.lastore, 1) := by decide +kernel
theorem dX4_stepsOfSquare_135 : decode cX4_stepsOfSquare 135 = .ok (.dup, 1) := by decide +kernel
theorem dX4_stepsOfSquare_136 : decode cX4_stepsOfSquare 136 = .ok (.iconst 1, 1) := by decide +kernel
theorem dX4_stepsOfSquare_137 : decode cX4_stepsOfSquare 137 = .ok (.lload 11, 2) := by decide +kernel
theorem dX4_stepsOfSquare_139 : decode cX4_stepsOfSquare 139 = .ok (.lload 13, 2) := by decide +kernel
theorem dX4_stepsOfSquare_141 : decode cX4_stepsOfSquare 141 = .ok (.invokestatic 146, 3) := by decide +kernel
theorem dX4_stepsOfSquare_144 : decode cX4_stepsOfSquare 144 = .ok (.lastore, 1) := by decide +kernel
theorem dX4_stepsOfSquare_145 : decode cX4_stepsOfSquare 145 = .ok (.areturn, 1) := by decide +kernel
theorem dX5_init_0 : decode cX5_init 0 = .ok (.aload_n 0, 1) := by decide +kernel
theorem dX5_init_1 : decode cX5_init 1 = .ok (.invokespecial 1, 3) := by decide +kernel
theorem dX5_init_4 : decode cX5_init 4 = .ok (.aload_n 0, 1) := by decide +kernel
theorem dX5_init_5 : decode cX5_init 5 = .ok (.new 7, 3) := by decide +kernel
theorem dX5_init_8 : decode cX5_init 8 = .ok (.dup, 1) := by decide +kernel
theorem dX5_init_9 : decode cX5_init 9 = .ok (.invokespecial 9, 3) := by decide +kernel
theorem dX5_init_12 : decode cX5_init 12 = .ok (.putfield 10, 3) := by decide +kernel
theorem dX5_init_15 : decode cX5_init 15 = .ok (.aload_n 0, 1) := by decide +kernel
theorem dX5_init_16 : decode cX5_init 16 = .ok (.bipush 16, 2) := by decide +kernel
theorem dX5_init_18 : decode cX5_init 18 = .ok (.newarray .long, 2) := by decide +kernel
theorem dX5_init_20 : decode cX5_init 20 = .ok (.putfield 16, 3) := by decide +kernel
theorem dX5_init_23 : decode cX5_init 23 = .ok (.aload_n 0, 1) := by decide +kernel
theorem dX5_init_24 : decode cX5_init 24 = .ok (.bipush 9, 2) := by decide +kernel
theorem dX5_init_26 : decode cX5_init 26 = .ok (.newarray .int, 2) := by decide +kernel
theorem dX5_init_28 : decode cX5_init 28 = .ok (.putfield 20, 3) := by decide +kernel
theorem dX5_init_31 : decode cX5_init 31 = .ok (.aload_n 0, 1) := by decide +kernel
theorem dX5_init_32 : decode cX5_init 32 = .ok (.iconst 5, 1) := by decide +kernel
theorem dX5_init_33 : decode cX5_init 33 = .ok (.newarray .int, 2) := by decide +kernel
theorem dX5_init_35 : decode cX5_init 35 = .ok (.putfield 24, 3) := by decide +kernel
theorem dX5_init_38 : decode cX5_init 38 = .ok (.aload_n 0, 1) := by decide +kernel
theorem dX5_init_39 : decode cX5_init 39 = .ok (.iconst 5, 1) := by decide +kernel
theorem dX5_init_40 : decode cX5_init 40 = .ok (.newarray .int, 2) := by decide +kernel
theorem dX5_init_42 : decode cX5_init 42 = .ok (.putfield 27, 3) := by decide +kernel
theorem dX5_init_45 : decode cX5_init 45 = .ok (.aload_n 0, 1) := by decide +kernel
theorem dX5_init_46 : decode cX5_init 46 = .ok (.iconst 2, 1) := by decide +kernel
theorem dX5_init_47 : decode cX5_init 47 = .ok (.iconst 3, 1) := by decide +kernel
theorem dX5_init_48 : decode cX5_init 48 = .ok (.invokevirtual 30, 3) := by decide +kernel
theorem dX5_init_51 : decode cX5_init 51 = .ok (.return_, 1) := by decide +kernel
theorem dX5_begin_0 : decode cX5_begin 0 = .ok (.iload_n 1, 1) := by decide +kernel
theorem dX5_begin_1 : decode cX5_begin 1 = .ok (.iconst 2, 1) := by decide +kernel
theorem dX5_begin_2 : decode cX5_begin 2 = .ok (.if_icmp .lt 15, 3) := by decide +kernel
theorem dX5_begin_5 : decode cX5_begin 5 = .ok (.iload_n 1, 1) := by decide +kernel
theorem dX5_begin_6 : decode cX5_begin 6 = .ok (.iconst 3, 1) := by decide +kernel
theorem dX5_begin_7 : decode cX5_begin 7 = .ok (.if_icmp .gt 10, 3) := by decide +kernel
theorem dX5_begin_10 : decode cX5_begin 10 = .ok (.iload_n 2, 1) := by decide +kernel
theorem dX5_begin_11 : decode cX5_begin 11 = .ok (.invokestatic 34, 3) := by decide +kernel
theorem dX5_begin_14 : decode cX5_begin 14 = .ok (.ifCond .ne 6, 3) := by decide +kernel
theorem dX5_begin_17 : decode cX5_begin 17 = .ok (.bipush (-2), 2) := by decide +kernel
theorem dX5_begin_19 : decode cX5_begin 19 = .ok (.ireturn, 1) := by decide +kernel
theorem dX5_begin_20 : decode cX5_begin 20 = .ok (.aload_n 0, 1) := by decide +kernel
theorem dX5_begin_21 : decode cX5_begin 21 = .ok (.iload_n 1, 1) := by decide +kernel
theorem dX5_begin_22 : decode cX5_begin 22 = .ok (.iload_n 2, 1) := by decide +kernel
theorem dX5_begin_23 : decode cX5_begin 23 = .ok (.invokevirtual 30, 3) := by decide +kernel
theorem dX5_begin_26 : decode cX5_begin 26 = .ok (.iconst 1, 1) := by decide +kernel
theorem dX5_begin_27 : decode cX5_begin 27 = .ok (.ireturn, 1) := by decide +kernel
theorem dX5_put_0 : decode cX5_put 0 = .ok (.iload_n 1, 1) := by decide +kernel
theorem dX5_put_1 : decode cX5_put 1 = .ok (.ifCond .lt 9, 3) := by decide +kernel
theorem dX5_put_4 : decode cX5_put 4 = .ok (.iload_n 1, 1) := by decide +kernel
theorem dX5_put_5 : decode cX5_put 5 = .ok (.bipush 16, 2) := by decide +kernel
theorem dX5_put_7 : decode cX5_put 7 = .ok (.if_icmp .lt 6, 3) := by decide +kernel
theorem dX5_put_10 : decode cX5_put 10 = .ok (.bipush (-2), 2) := by decide +kernel
theorem dX5_put_12 : decode cX5_put 12 = .ok (.ireturn, 1) := by decide +kernel
theorem dX5_put_13 : decode cX5_put 13 = .ok (.aload_n 0, 1) := by decide +kernel
theorem dX5_put_14 : decode cX5_put 14 = .ok (.getfield 16, 3) := by decide +kernel
theorem dX5_put_17 : decode cX5_put 17 = .ok (.iload_n 1, 1) := by decide +kernel
theorem dX5_put_18 : decode cX5_put 18 = .ok (.aload_n 0, 1) := by decide +kernel
theorem dX5_put_19 : decode cX5_put 19 = .ok (.getfield 40, 3) := by decide +kernel
theorem dX5_put_22 : decode cX5_put 22 = .ok (.lload_n 2, 1) := by decide +kernel
theorem dX5_put_23 : decode cX5_put 23 = .ok (.invokevirtual 44, 3) := by decide +kernel
theorem dX5_put_26 : decode cX5_put 26 = .ok (.lastore, 1) := by decide +kernel
theorem dX5_put_27 : decode cX5_put 27 = .ok (.aload_n 0, 1) := by decide +kernel
theorem dX5_put_28 : decode cX5_put 28 = .ok (.getfield 16, 3) := by decide +kernel
theorem dX5_put_31 : decode cX5_put 31 = .ok (.iload_n 1, 1) := by decide +kernel
theorem dX5_put_32 : decode cX5_put 32 = .ok (.laload, 1) := by decide +kernel
theorem dX5_put_33 : decode cX5_put 33 = .ok (.l2i, 1) := by decide +kernel
theorem dX5_put_34 : decode cX5_put 34 = .ok (.ireturn, 1) := by decide +kernel
theorem dX5_make_0 : decode cX5_make 0 = .ok (.aload_n 0, 1) := by decide +kernel
theorem dX5_make_1 : decode cX5_make 1 = .ok (.iload_n 1, 1) := by decide +kernel
theorem dX5_make_2 : decode cX5_make 2 = .ok (.invokevirtual 48, 3) := by decide +kernel
theorem dX5_make_5 : decode cX5_make 5 = .ok (.istore_n 2, 1) := by decide +kernel
theorem dX5_make_6 : decode cX5_make 6 = .ok (.iload_n 2, 1) := by decide +kernel
theorem dX5_make_7 : decode cX5_make 7 = .ok (.ifCond .ne 6, 3) := by decide +kernel
theorem dX5_make_10 : decode cX5_make 10 = .ok (.bipush (-2), 2) := by decide +kernel
theorem dX5_make_12 : decode cX5_make 12 = .ok (.ireturn, 1) := by decide +kernel
theorem dX5_make_13 : decode cX5_make 13 = .ok (.aload_n 0, 1) := by decide +kernel
theorem dX5_make_14 : decode cX5_make 14 = .ok (.getfield 16, 3) := by decide +kernel
theorem dX5_make_17 : decode cX5_make 17 = .ok (.iload_n 2, 1) := by decide +kernel
theorem dX5_make_18 : decode cX5_make 18 = .ok (.invokestatic 52, 3) := by decide +kernel
theorem dX5_make_21 : decode cX5_make 21 = .ok (.astore_n 3, 1) := by decide +kernel
theorem dX5_make_22 : decode cX5_make 22 = .ok (.aload_n 0, 1) := by decide +kernel
theorem dX5_make_23 : decode cX5_make 23 = .ok (.iload_n 1, 1) := by decide +kernel
theorem dX5_make_24 : decode cX5_make 24 = .ok (.aload_n 3, 1) := by decide +kernel
theorem dX5_make_25 : decode cX5_make 25 = .ok (.invokevirtual 58, 3) := by decide +kernel
theorem dX5_make_28 : decode cX5_make 28 = .ok (.ifCond .eq 12, 3) := by decide +kernel
theorem dX5_make_31 : decode cX5_make 31 = .ok (.aload_n 0, 1) := by decide +kernel
theorem dX5_make_32 : decode cX5_make 32 = .ok (.iload_n 1, 1) := by decide +kernel
theorem dX5_make_33 : decode cX5_make 33 = .ok (.aload_n 3, 1) := by decide +kernel
theorem dX5_make_34 : decode cX5_make 34 = .ok (.invokevirtual 62, 3) := by decide +kernel
theorem dX5_make_37 : decode cX5_make 37 = .ok (.goto 4, 3) := by decide +kernel
theorem dX5_make_40 : decode cX5_make 40 = .ok (.iconst (-1), 1) := by decide +kernel
theorem dX5_make_41 : decode cX5_make 41 = .ok (.ireturn, 1) := by decide +kernel
theorem dX5_number_0 : decode cX5_number 0 = .ok (.aload_n 0, 1) := by decide +kernel
theorem dX5_number_1 : decode cX5_number 1 = .ok (.getfield 10, 3) := by decide +kernel
theorem dX5_number_4 : decode cX5_number 4 = .ok (.iload_n 1, 1) := by decide +kernel
theorem dX5_number_5 : decode cX5_number 5 = .ok (.invokevirtual 66, 3) := by decide +kernel
theorem dX5_number_8 : decode cX5_number 8 = .ok (.astore_n 3, 1) := by decide +kernel
theorem dX5_number_9 : decode cX5_number 9 = .ok (.aload_n 3, 1) := by decide +kernel
theorem dX5_number_10 : decode cX5_number 10 = .ok (.ifnull 16, 3) := by decide +kernel
theorem dX5_number_13 : decode cX5_number 13 = .ok (.iload_n 2, 1) := by decide +kernel
theorem dX5_number_14 : decode cX5_number 14 = .ok (.ifCond .lt 12, 3) := by decide +kernel
theorem dX5_number_17 : decode cX5_number 17 = .ok (.iload_n 2, 1) := by decide +kernel
theorem dX5_number_18 : decode cX5_number 18 = .ok (.aload_n 3, 1) := by decide +kernel
theorem dX5_number_19 : decode cX5_number 19 = .ok (.getfield 70, 3) := by decide +kernel
theorem dX5_number_22 : decode cX5_number 22 = .ok (.arraylength, 1) := by decide +kernel
theorem dX5_number_23 : decode cX5_number 23 = .ok (.if_icmp .lt 6, 3) := by decide +kernel
theorem dX5_number_26 : decode cX5_number 26 = .ok (.bipush (-2), 2) := by decide +kernel
theorem dX5_number_28 : decode cX5_number 28 = .ok (.ireturn, 1) := by decide +kernel
theorem dX5_number_29 : decode cX5_number 29 = .ok (.aload_n 3, 1) := by decide +kernel
theorem dX5_number_30 : decode cX5_number 30 = .ok (.getfield 70, 3) := by decide +kernel
theorem dX5_number_33 : decode cX5_number 33 = .ok (.iload_n 2, 1) := by decide +kernel
theorem dX5_number_34 : decode cX5_number 34 = .ok (.laload, 1) := by decide +kernel
theorem dX5_number_35 : decode cX5_number 35 = .ok (.l2i, 1) := by decide +kernel
theorem dX5_number_36 : decode cX5_number 36 = .ok (.ireturn, 1) := by decide +kernel
theorem dX5_sort_0 : decode cX5_sort 0 = .ok (.aload_n 0, 1) := by decide +kernel
theorem dX5_sort_1 : decode cX5_sort 1 = .ok (.getfield 10, 3) := by decide +kernel
theorem dX5_sort_4 : decode cX5_sort 4 = .ok (.iload_n 1, 1) := by decide +kernel
theorem dX5_sort_5 : decode cX5_sort 5 = .ok (.invokevirtual 66, 3) := by decide +kernel
theorem dX5_sort_8 : decode cX5_sort 8 = .ok (.astore_n 2, 1) := by decide +kernel
theorem dX5_sort_9 : decode cX5_sort 9 = .ok (.aload_n 2, 1) := by decide +kernel
theorem dX5_sort_10 : decode cX5_sort 10 = .ok (.ifnonnull 8, 3) := by decide +kernel
theorem dX5_sort_13 : decode cX5_sort 13 = .ok (.bipush (-2), 2) := by decide +kernel
theorem dX5_sort_15 : decode cX5_sort 15 = .ok (.goto 7, 3) := by decide +kernel
theorem dX5_sort_18 : decode cX5_sort 18 = .ok (.aload_n 2, 1) := by decide +kernel
theorem dX5_sort_19 : decode cX5_sort 19 = .ok (.getfield 75, 3) := by decide +kernel
theorem dX5_sort_22 : decode cX5_sort 22 = .ok (.ireturn, 1) := by decide +kernel
theorem dX5_join_0 : decode cX5_join 0 = .ok (.aload_n 0, 1) := by decide +kernel
theorem dX5_join_1 : decode cX5_join 1 = .ok (.getfield 10, 3) := by decide +kernel
theorem dX5_join_4 : decode cX5_join 4 = .ok (.iload_n 1, 1) := by decide +kernel
theorem dX5_join_5 : decode cX5_join 5 = .ok (.iload_n 2, 1) := by decide +kernel
theorem dX5_join_6 : decode cX5_join 6 = .ok (.invokevirtual 79, 3) := by decide +kernel
theorem dX5_join_9 : decode cX5_join 9 = .ok (.astore_n 3, 1) := by decide +kernel
theorem dX5_join_10 : decode cX5_join 10 = .ok (.aload_n 0, 1) := by decide +kernel
theorem dX5_join_11 : decode cX5_join 11 = .ok (.getfield 10, 3) := by decide +kernel
theorem dX5_join_14 : decode cX5_join 14 = .ok (.iload_n 1, 1) := by decide +kernel
theorem dX5_join_15 : decode cX5_join 15 = .ok (.iload_n 2, 1) := by decide +kernel
theorem dX5_join_16 : decode cX5_join 16 = .ok (.invokevirtual 83, 3) := by decide +kernel
theorem dX5_join_19 : decode cX5_join 19 = .ok (.astore 4, 2) := by decide +kernel
theorem dX5_join_21 : decode cX5_join 21 = .ok (.aload_n 3, 1) := by decide +kernel
theorem dX5_join_22 : decode cX5_join 22 = .ok (.ifnull 8, 3) := by decide +kernel
theorem dX5_join_25 : decode cX5_join 25 = .ok (.aload 4, 2) := by decide +kernel
theorem dX5_join_27 : decode cX5_join 27 = .ok (.ifnonnull 6, 3) := by decide +kernel
theorem dX5_join_30 : decode cX5_join 30 = .ok (.bipush (-2), 2) := by decide +kernel
theorem dX5_join_32 : decode cX5_join 32 = .ok (.ireturn, 1) := by decide +kernel
theorem dX5_join_33 : decode cX5_join 33 = .ok (.aload_n 3, 1) := by decide +kernel
theorem dX5_join_34 : decode cX5_join 34 = .ok (.getfield 75, 3) := by decide +kernel
theorem dX5_join_37 : decode cX5_join 37 = .ok (.ifCond .ne 33, 3) := by decide +kernel
theorem dX5_join_40 : decode cX5_join 40 = .ok (.aload 4, 2) := by decide +kernel
theorem dX5_join_42 : decode cX5_join 42 = .ok (.getfield 75, 3) := by decide +kernel
theorem dX5_join_45 : decode cX5_join 45 = .ok (.ifCond .ne 25, 3) := by decide +kernel
theorem dX5_join_48 : decode cX5_join 48 = .ok (.aload_n 0, 1) := by decide +kernel
theorem dX5_join_49 : decode cX5_join 49 = .ok (.iconst 1, 1) := by decide +kernel
theorem dX5_join_50 : decode cX5_join 50 = .ok (.aload_n 0, 1) := by decide +kernel
theorem dX5_join_51 : decode cX5_join 51 = .ok (.getfield 86, 3) := by decide +kernel
theorem dX5_join_54 : decode cX5_join 54 = .ok (.aload_n 3, 1) := by decide +kernel
theorem dX5_join_55 : decode cX5_join 55 = .ok (.getfield 70, 3) := by decide +kernel
theorem dX5_join_58 : decode cX5_join 58 = .ok (.aload 4, 2) := by decide +kernel
theorem dX5_join_60 : decode cX5_join 60 = .ok (.getfield 70, 3) := by decide +kernel
theorem dX5_join_63 : decode cX5_join 63 = .ok (.invokevirtual 90, 3) := by decide +kernel
theorem dX5_join_66 : decode cX5_join 66 = .ok (.invokevirtual 62, 3) := by decide +kernel
theorem dX5_join_69 : decode cX5_join 69 = .ok (.ireturn, 1) := by decide +kernel
theorem dX5_join_70 : decode cX5_join 70 = .ok (.aload_n 0, 1) := by decide +kernel
theorem dX5_join_71 : decode cX5_join 71 = .ok (.getfield 96, 3) := by decide +kernel
theorem dX5_join_74 : decode cX5_join 74 = .ok (.iconst 2, 1) := by decide +kernel
theorem dX5_join_75 : decode cX5_join 75 = .ok (.if_icmp .eq 12, 3) := by decide +kernel
theorem dX5_join_78 : decode cX5_join 78 = .ok (.aload 4, 2) := by decide +kernel
theorem dX5_join_80 : decode cX5_join 80 = .ok (.getfield 75, 3) := by decide +kernel
theorem dX5_join_83 : decode cX5_join 83 = .ok (.iconst 1, 1) := by decide +kernel
theorem dX5_join_84 : decode cX5_join 84 = .ok (.if_icmp .eq 6, 3) := by decide +kernel
theorem dX5_join_87 : decode cX5_join 87 = .ok (.bipush (-2), 2) := by decide +kernel
theorem dX5_join_89 : decode cX5_join 89 = .ok (.ireturn, 1) := by decide +kernel
theorem dX5_join_90 : decode cX5_join 90 = .ok (.aload_n 0, 1) := by decide +kernel
theorem dX5_join_91 : decode cX5_join 91 = .ok (.iconst 2, 1) := by decide +kernel
theorem dX5_join_92 : decode cX5_join 92 = .ok (.aload_n 3, 1) := by decide +kernel
theorem dX5_join_93 : decode cX5_join 93 = .ok (.getfield 75, 3) := by decide +kernel
theorem dX5_join_96 : decode cX5_join 96 = .ok (.ifCond .ne 22, 3) := by decide +kernel
theorem dX5_join_99 : decode cX5_join 99 = .ok (.aload_n 0, 1) := by decide +kernel
theorem dX5_join_100 : decode cX5_join 100 = .ok (.getfield 86, 3) := by decide +kernel
theorem dX5_join_103 : decode cX5_join 103 = .ok (.aload 4, 2) := by decide +kernel
theorem dX5_join_105 : decode cX5_join 105 = .ok (.getfield 70, 3) := by decide +kernel
theorem dX5_join_108 : decode cX5_join 108 = .ok (.aload_n 3, 1) := by decide +kernel
theorem dX5_join_109 : decode cX5_join 109 = .ok (.getfield 70, 3) := by decide +kernel
theorem dX5_join_112 : decode cX5_join 112 = .ok (.invokevirtual 99, 3) := by decide +kernel
theorem dX5_join_115 : decode cX5_join 115 = .ok (.goto 19, 3) := by decide +kernel
theorem dX5_join_118 : decode cX5_join 118 = .ok (.aload_n 0, 1) := by decide +kernel
theorem dX5_join_119 : decode cX5_join 119 = .ok (.getfield 86, 3) := by decide +kernel
theorem dX5_join_122 : decode cX5_join 122 = .ok (.aload_n 3, 1) := by decide +kernel
theorem dX5_join_123 : decode cX5_join 123 = .ok (.getfield 70, 3) := by decide +kernel
theorem dX5_join_126 : decode cX5_join 126 = .ok (.aload 4, 2) := by decide +kernel
theorem dX5_join_128 : decode cX5_join 128 = .ok (.getfield 70, 3) := by decide +kernel
theorem dX5_join_131 : decode cX5_join 131 = .ok (.invokevirtual 102, 3) := by decide +kernel
theorem dX5_join_134 : decode cX5_join 134 = .ok (.invokevirtual 62, 3) := by decide +kernel
theorem dX5_join_137 : decode cX5_join 137 = .ok (.ireturn, 1) := by decide +kernel
theorem dX5_meet_0 : decode cX5_meet 0 = .ok (.aload_n 0, 1) := by decide +kernel
theorem dX5_meet_1 : decode cX5_meet 1 = .ok (.getfield 10, 3) := by decide +kernel
theorem dX5_meet_4 : decode cX5_meet 4 = .ok (.iload_n 1, 1) := by decide +kernel
theorem dX5_meet_5 : decode cX5_meet 5 = .ok (.iload_n 2, 1) := by decide +kernel
theorem dX5_meet_6 : decode cX5_meet 6 = .ok (.invokevirtual 79, 3) := by decide +kernel
theorem dX5_meet_9 : decode cX5_meet 9 = .ok (.astore_n 3, 1) := by decide +kernel
theorem dX5_meet_10 : decode cX5_meet 10 = .ok (.aload_n 0, 1) := by decide +kernel
theorem dX5_meet_11 : decode cX5_meet 11 = .ok (.getfield 10, 3) := by decide +kernel
theorem dX5_meet_14 : decode cX5_meet 14 = .ok (.iload_n 1, 1) := by decide +kernel
theorem dX5_meet_15 : decode cX5_meet 15 = .ok (.iload_n 2, 1) := by decide +kernel
theorem dX5_meet_16 : decode cX5_meet 16 = .ok (.invokevirtual 83, 3) := by decide +kernel
theorem dX5_meet_19 : decode cX5_meet 19 = .ok (.astore 4, 2) := by decide +kernel
theorem dX5_meet_21 : decode cX5_meet 21 = .ok (.aload_n 3, 1) := by decide +kernel
theorem dX5_meet_22 : decode cX5_meet 22 = .ok (.ifnull 25, 3) := by decide +kernel
theorem dX5_meet_25 : decode cX5_meet 25 = .ok (.aload 4, 2) := by decide +kernel
theorem dX5_meet_27 : decode cX5_meet 27 = .ok (.ifnull 20, 3) := by decide +kernel
theorem dX5_meet_30 : decode cX5_meet 30 = .ok (.aload_n 0, 1) := by decide +kernel
theorem dX5_meet_31 : decode cX5_meet 31 = .ok (.aload_n 3, 1) := by decide +kernel
theorem dX5_meet_32 : decode cX5_meet 32 = .ok (.invokevirtual 105, 3) := by decide +kernel
theorem dX5_meet_35 : decode cX5_meet 35 = .ok (.ifCond .eq 12, 3) := by decide +kernel
theorem dX5_meet_38 : decode cX5_meet 38 = .ok (.aload_n 0, 1) := by decide +kernel
theorem dX5_meet_39 : decode cX5_meet 39 = .ok (.aload 4, 2) := by decide +kernel
theorem dX5_meet_41 : decode cX5_meet 41 = .ok (.invokevirtual 105, 3) := by decide +kernel
theorem dX5_meet_44 : decode cX5_meet 44 = .ok (.ifCond .ne 6, 3) := by decide +kernel
theorem dX5_meet_47 : decode cX5_meet 47 = .ok (.bipush (-2), 2) := by decide +kernel
theorem dX5_meet_49 : decode cX5_meet 49 = .ok (.ireturn, 1) := by decide +kernel
theorem dX5_meet_50 : decode cX5_meet 50 = .ok (.aload_n 3, 1) := by decide +kernel
theorem dX5_meet_51 : decode cX5_meet 51 = .ok (.getfield 75, 3) := by decide +kernel
theorem dX5_meet_54 : decode cX5_meet 54 = .ok (.aload_n 0, 1) := by decide +kernel
theorem dX5_meet_55 : decode cX5_meet 55 = .ok (.getfield 109, 3) := by decide +kernel
theorem dX5_meet_58 : decode cX5_meet 58 = .ok (.if_icmp .ne 37, 3) := by decide +kernel
theorem dX5_meet_61 : decode cX5_meet 61 = .ok (.aload_n 0, 1) := by decide +kernel
theorem dX5_meet_62 : decode cX5_meet 62 = .ok (.aload_n 0, 1) := by decide +kernel
theorem dX5_meet_63 : decode cX5_meet 63 = .ok (.getfield 96, 3) := by decide +kernel
theorem dX5_meet_66 : decode cX5_meet 66 = .ok (.iconst 2, 1) := by decide +kernel
theorem dX5_meet_67 : decode cX5_meet 67 = .ok (.if_icmp .ne 7, 3) := by decide +kernel
theorem dX5_meet_70 : decode cX5_meet 70 = .ok (.iconst 0, 1) := by decide +kernel
theorem dX5_meet_71 : decode cX5_meet 71 = .ok (.goto 4, 3) := by decide +kernel
theorem dX5_meet_74 : decode cX5_meet 74 = .ok (.iconst 1, 1) := by decide +kernel
theorem dX5_meet_75 : decode cX5_meet 75 = .ok (.aload_n 0, 1) := by decide +kernel
theorem dX5_meet_76 : decode cX5_meet 76 = .ok (.getfield 86, 3) := by decide +kernel
theorem dX5_meet_79 : decode cX5_meet 79 = .ok (.aload_n 3, 1) := by decide +kernel
theorem dX5_meet_80 : decode cX5_meet 80 = .ok (.getfield 70, 3) := by decide +kernel
theorem dX5_meet_83 : decode cX5_meet 83 = .ok (.aload 4, 2) := by decide +kernel
theorem dX5_meet_85 : decode cX5_meet 85 = .ok (.getfield 70, 3) := by decide +kernel
theorem dX5_meet_88 : decode cX5_meet 88 = .ok (.invokevirtual 112, 3) := by decide +kernel
theorem dX5_meet_91 : decode cX5_meet 91 = .ok (.invokevirtual 62, 3) := by decide +kernel
theorem dX5_meet_94 : decode cX5_meet 94 = .ok (.ireturn, 1) := by decide +kernel
theorem dX5_meet_95 : decode cX5_meet 95 = .ok (.aload_n 0, 1) := by decide +kernel
theorem dX5_meet_96 : decode cX5_meet 96 = .ok (.iconst 0, 1) := by decide +kernel
theorem dX5_meet_97 : decode cX5_meet 97 = .ok (.aload 4, 2) := by decide +kernel
theorem dX5_meet_99 : decode cX5_meet 99 = .ok (.getfield 75, 3) := by decide +kernel
theorem dX5_meet_102 : decode cX5_meet 102 = .ok (.iconst 2, 1) := by decide +kernel
theorem dX5_meet_103 : decode cX5_meet 103 = .ok (.if_icmp .ne 22, 3) := by decide +kernel
theorem dX5_meet_106 : decode cX5_meet 106 = .ok (.aload_n 0, 1) := by decide +kernel
theorem dX5_meet_107 : decode cX5_meet 107 = .ok (.getfield 86, 3) := by decide +kernel
theorem dX5_meet_110 : decode cX5_meet 110 = .ok (.aload_n 3, 1) := by decide +kernel
theorem dX5_meet_111 : decode cX5_meet 111 = .ok (.getfield 70, 3) := by decide +kernel
theorem dX5_meet_114 : decode cX5_meet 114 = .ok (.aload 4, 2) := by decide +kernel
theorem dX5_meet_116 : decode cX5_meet 116 = .ok (.getfield 70, 3) := by decide +kernel
theorem dX5_meet_119 : decode cX5_meet 119 = .ok (.invokevirtual 115, 3) := by decide +kernel
theorem dX5_meet_122 : decode cX5_meet 122 = .ok (.goto 19, 3) := by decide +kernel
theorem dX5_meet_125 : decode cX5_meet 125 = .ok (.aload_n 0, 1) := by decide +kernel
theorem dX5_meet_126 : decode cX5_meet 126 = .ok (.getfield 86, 3) := by decide +kernel
theorem dX5_meet_129 : decode cX5_meet 129 = .ok (.aload_n 3, 1) := by decide +kernel
theorem dX5_meet_130 : decode cX5_meet 130 = .ok (.getfield 70, 3) := by decide +kernel
theorem dX5_meet_133 : decode cX5_meet 133 = .ok (.aload 4, 2) := by decide +kernel
theorem dX5_meet_135 : decode cX5_meet 135 = .ok (.getfield 70, 3) := by decide +kernel
theorem dX5_meet_138 : decode cX5_meet 138 = .ok (.invokevirtual 118, 3) := by decide +kernel
theorem dX5_meet_141 : decode cX5_meet 141 = .ok (.invokevirtual 62, 3) := by decide +kernel
theorem dX5_meet_144 : decode cX5_meet 144 = .ok (.ireturn, 1) := by decide +kernel
theorem dX5_on_0 : decode cX5_on 0 = .ok (.aload_n 0, 1) := by decide +kernel
theorem dX5_on_1 : decode cX5_on 1 = .ok (.getfield 10, 3) := by decide +kernel
theorem dX5_on_4 : decode cX5_on 4 = .ok (.iload_n 1, 1) := by decide +kernel
theorem dX5_on_5 : decode cX5_on 5 = .ok (.iload_n 2, 1) := by decide +kernel
theorem dX5_on_6 : decode cX5_on 6 = .ok (.invokevirtual 79, 3) := by decide +kernel
theorem dX5_on_9 : decode cX5_on 9 = .ok (.astore_n 3, 1) := by decide +kernel
theorem dX5_on_10 : decode cX5_on 10 = .ok (.aload_n 0, 1) := by decide +kernel
theorem dX5_on_11 : decode cX5_on 11 = .ok (.getfield 10, 3) := by decide +kernel
theorem dX5_on_14 : decode cX5_on 14 = .ok (.iload_n 1, 1) := by decide +kernel
theorem dX5_on_15 : decode cX5_on 15 = .ok (.iload_n 2, 1) := by decide +kernel
theorem dX5_on_16 : decode cX5_on 16 = .ok (.invokevirtual 83, 3) := by decide +kernel
theorem dX5_on_19 : decode cX5_on 19 = .ok (.astore 4, 2) := by decide +kernel
theorem dX5_on_21 : decode cX5_on 21 = .ok (.aload_n 3, 1) := by decide +kernel
theorem dX5_on_22 : decode cX5_on 22 = .ok (.ifnull 8, 3) := by decide +kernel
theorem dX5_on_25 : decode cX5_on 25 = .ok (.aload 4, 2) := by decide +kernel
theorem dX5_on_27 : decode cX5_on 27 = .ok (.ifnonnull 6, 3) := by decide +kernel
theorem dX5_on_30 : decode cX5_on 30 = .ok (.bipush (-2), 2) := by decide +kernel
theorem dX5_on_32 : decode cX5_on 32 = .ok (.ireturn, 1) := by decide +kernel
theorem dX5_on_33 : decode cX5_on 33 = .ok (.aload_n 3, 1) := by decide +kernel
theorem dX5_on_34 : decode cX5_on 34 = .ok (.getfield 75, 3) := by decide +kernel
theorem dX5_on_37 : decode cX5_on 37 = .ok (.ifCond .ne 14, 3) := by decide +kernel
theorem dX5_on_40 : decode cX5_on 40 = .ok (.aload_n 0, 1) := by decide +kernel
theorem dX5_on_41 : decode cX5_on 41 = .ok (.aload_n 3, 1) := by decide +kernel
theorem dX5_on_42 : decode cX5_on 42 = .ok (.getfield 70, 3) := by decide +kernel
theorem dX5_on_45 : decode cX5_on 45 = .ok (.aload 4, 2) := by decide +kernel
theorem dX5_on_47 : decode cX5_on 47 = .ok (.invokevirtual 121, 3) := by decide +kernel
theorem dX5_on_50 : decode cX5_on 50 = .ok (.ireturn, 1) := by decide +kernel
theorem dX5_on_51 : decode cX5_on 51 = .ok (.aload_n 0, 1) := by decide +kernel
theorem dX5_on_52 : decode cX5_on 52 = .ok (.getfield 96, 3) := by decide +kernel
theorem dX5_on_55 : decode cX5_on 55 = .ok (.iconst 2, 1) := by decide +kernel
theorem dX5_on_56 : decode cX5_on 56 = .ok (.if_icmp .eq 11, 3) := by decide +kernel
theorem dX5_on_59 : decode cX5_on 59 = .ok (.aload_n 3, 1) := by decide +kernel
theorem dX5_on_60 : decode cX5_on 60 = .ok (.getfield 75, 3) := by decide +kernel
theorem dX5_on_63 : decode cX5_on 63 = .ok (.iconst 1, 1) := by decide +kernel
theorem dX5_on_64 : decode cX5_on 64 = .ok (.if_icmp .eq 6, 3) := by decide +kernel
theorem dX5_on_67 : decode cX5_on 67 = .ok (.bipush (-2), 2) := by decide +kernel
theorem dX5_on_69 : decode cX5_on 69 = .ok (.ireturn, 1) := by decide +kernel
theorem dX5_on_70 : decode cX5_on 70 = .ok (.aload 4, 2) := by decide +kernel
theorem dX5_on_72 : decode cX5_on 72 = .ok (.getfield 75, 3) := by decide +kernel
theorem dX5_on_75 : decode cX5_on 75 = .ok (.iconst 1, 1) := by decide +kernel
theorem dX5_on_76 : decode cX5_on 76 = .ok (.if_icmp .ne 23, 3) := by decide +kernel
theorem dX5_on_79 : decode cX5_on 79 = .ok (.aload_n 0, 1) := by decide +kernel
theorem dX5_on_80 : decode cX5_on 80 = .ok (.getfield 86, 3) := by decide +kernel
theorem dX5_on_83 : decode cX5_on 83 = .ok (.aload_n 3, 1) := by decide +kernel
theorem dX5_on_84 : decode cX5_on 84 = .ok (.getfield 70, 3) := by decide +kernel
theorem dX5_on_87 : decode cX5_on 87 = .ok (.aload 4, 2) := by decide +kernel
theorem dX5_on_89 : decode cX5_on 89 = .ok (.getfield 70, 3) := by decide +kernel
theorem dX5_on_92 : decode cX5_on 92 = .ok (.invokevirtual 125, 3) := by decide +kernel
theorem dX5_on_95 : decode cX5_on 95 = .ok (.invokestatic 129, 3) := by decide +kernel
theorem dX5_on_98 : decode cX5_on 98 = .ok (.ireturn, 1) := by decide +kernel
theorem dX5_on_99 : decode cX5_on 99 = .ok (.aload 4, 2) := by decide +kernel
theorem dX5_on_101 : decode cX5_on 101 = .ok (.getfield 75, 3) := by decide +kernel
theorem dX5_on_104 : decode cX5_on 104 = .ok (.iconst 2, 1) := by decide +kernel
theorem dX5_on_105 : decode cX5_on 105 = .ok (.if_icmp .ne 25, 3) := by decide +kernel
theorem dX5_on_108 : decode cX5_on 108 = .ok (.aload_n 0, 1) := by decide +kernel
theorem dX5_on_109 : decode cX5_on 109 = .ok (.getfield 86, 3) := by decide +kernel
theorem dX5_on_112 : decode cX5_on 112 = .ok (.aload_n 3, 1) := by decide +kernel
theorem dX5_on_113 : decode cX5_on 113 = .ok (.getfield 70, 3) := by decide +kernel
theorem dX5_on_116 : decode cX5_on 116 = .ok (.aload 4, 2) := by decide +kernel
theorem dX5_on_118 : decode cX5_on 118 = .ok (.getfield 70, 3) := by decide +kernel
theorem dX5_on_121 : decode cX5_on 121 = .ok (.invokevirtual 133, 3) := by decide +kernel
theorem dX5_on_124 : decode cX5_on 124 = .ok (.invokestatic 129, 3) := by decide +kernel
theorem dX5_on_127 : decode cX5_on 127 = .ok (.goto 5, 3) := by decide +kernel
theorem dX5_on_130 : decode cX5_on 130 = .ok (.bipush (-2), 2) := by decide +kernel
theorem dX5_on_132 : decode cX5_on 132 = .ok (.ireturn, 1) := by decide +kernel
theorem dX5_cross_0 : decode cX5_cross 0 = .ok (.aload_n 0, 1) := by decide +kernel
theorem dX5_cross_1 : decode cX5_cross 1 = .ok (.iconst 4, 1) := by decide +kernel
theorem dX5_cross_2 : decode cX5_cross 2 = .ok (.newarray .int, 2) := by decide +kernel
theorem dX5_cross_4 : decode cX5_cross 4 = .ok (.dup, 1) := by decide +kernel
theorem dX5_cross_5 : decode cX5_cross 5 = .ok (.iconst 0, 1) := by decide +kernel
theorem dX5_cross_6 : decode cX5_cross 6 = .ok (.iload_n 1, 1) := by decide +kernel
theorem dX5_cross_7 : decode cX5_cross 7 = .ok (.iastore, 1) := by decide +kernel
theorem dX5_cross_8 : decode cX5_cross 8 = .ok (.dup, 1) := by decide +kernel
theorem dX5_cross_9 : decode cX5_cross 9 = .ok (.iconst 1, 1) := by decide +kernel
theorem dX5_cross_10 : decode cX5_cross 10 = .ok (.iload_n 2, 1) := by decide +kernel
theorem dX5_cross_11 : decode cX5_cross 11 = .ok (.iastore, 1) := by decide +kernel
theorem dX5_cross_12 : decode cX5_cross 12 = .ok (.dup, 1) := by decide +kernel
theorem dX5_cross_13 : decode cX5_cross 13 = .ok (.iconst 2, 1) := by decide +kernel
theorem dX5_cross_14 : decode cX5_cross 14 = .ok (.iload_n 3, 1) := by decide +kernel
theorem dX5_cross_15 : decode cX5_cross 15 = .ok (.iastore, 1) := by decide +kernel
theorem dX5_cross_16 : decode cX5_cross 16 = .ok (.dup, 1) := by decide +kernel
theorem dX5_cross_17 : decode cX5_cross 17 = .ok (.iconst 3, 1) := by decide +kernel
theorem dX5_cross_18 : decode cX5_cross 18 = .ok (.iload 4, 2) := by decide +kernel
theorem dX5_cross_20 : decode cX5_cross 20 = .ok (.iastore, 1) := by decide +kernel
theorem dX5_cross_21 : decode cX5_cross 21 = .ok (.invokevirtual 136, 3) := by decide +kernel
theorem dX5_cross_24 : decode cX5_cross 24 = .ok (.astore 5, 2) := by decide +kernel
theorem dX5_cross_26 : decode cX5_cross 26 = .ok (.aload 5, 2) := by decide +kernel
theorem dX5_cross_28 : decode cX5_cross 28 = .ok (.ifnonnull 7, 3) := by decide +kernel
theorem dX5_cross_31 : decode cX5_cross 31 = .ok (.ldc2_w 140, 3) := by decide +kernel
theorem dX5_cross_34 : decode cX5_cross 34 = .ok (.lreturn, 1) := by decide +kernel
theorem dX5_cross_35 : decode cX5_cross 35 = .ok (.aload_n 0, 1) := by decide +kernel
theorem dX5_cross_36 : decode cX5_cross 36 = .ok (.getfield 142, 3) := by decide +kernel
theorem dX5_cross_39 : decode cX5_cross 39 = .ok (.aload 5, 2) := by decide +kernel
theorem dX5_cross_41 : decode cX5_cross 41 = .ok (.invokevirtual 146, 3) := by decide +kernel
theorem dX5_cross_44 : decode cX5_cross 44 = .ok (.iconst 2, 1) := by decide +kernel
theorem dX5_cross_45 : decode cX5_cross 45 = .ok (.if_icmp .ne 15, 3) := by decide +kernel
theorem dX5_cross_48 : decode cX5_cross 48 = .ok (.aload_n 0, 1) := by decide +kernel
theorem dX5_cross_49 : decode cX5_cross 49 = .ok (.getfield 86, 3) := by decide +kernel
theorem dX5_cross_52 : decode cX5_cross 52 = .ok (.aload 5, 2) := by decide +kernel
theorem dX5_cross_54 : decode cX5_cross 54 = .ok (.invokevirtual 152, 3) := by decide +kernel
theorem dX5_cross_57 : decode cX5_cross 57 = .ok (.goto 6, 3) := by decide +kernel
theorem dX5_cross_60 : decode cX5_cross 60 = .ok (.ldc2_w 156, 3) := by decide +kernel
theorem dX5_cross_63 : decode cX5_cross 63 = .ok (.lreturn, 1) := by decide +kernel
theorem dX5_fourth_0 : decode cX5_fourth 0 = .ok (.aload_n 0, 1) := by decide +kernel
theorem dX5_fourth_1 : decode cX5_fourth 1 = .ok (.getfield 10, 3) := by decide +kernel
theorem dX5_fourth_4 : decode cX5_fourth 4 = .ok (.iload_n 1, 1) := by decide +kernel
theorem dX5_fourth_5 : decode cX5_fourth 5 = .ok (.invokevirtual 66, 3) := by decide +kernel
theorem dX5_fourth_8 : decode cX5_fourth 8 = .ok (.astore 6, 2) := by decide +kernel
theorem dX5_fourth_10 : decode cX5_fourth 10 = .ok (.aload_n 0, 1) := by decide +kernel
theorem dX5_fourth_11 : decode cX5_fourth 11 = .ok (.iconst 3, 1) := by decide +kernel
theorem dX5_fourth_12 : decode cX5_fourth 12 = .ok (.newarray .int, 2) := by decide +kernel
theorem dX5_fourth_14 : decode cX5_fourth 14 = .ok (.dup, 1) := by decide +kernel
theorem dX5_fourth_15 : decode cX5_fourth 15 = .ok (.iconst 0, 1) := by decide +kernel
theorem dX5_fourth_16 : decode cX5_fourth 16 = .ok (.iload_n 1, 1) := by decide +kernel
theorem dX5_fourth_17 : decode cX5_fourth 17 = .ok (.iastore, 1) := by decide +kernel
theorem dX5_fourth_18 : decode cX5_fourth 18 = .ok (.dup, 1) := by decide +kernel
theorem dX5_fourth_19 : decode cX5_fourth 19 = .ok (.iconst 1, 1) := by decide +kernel
theorem dX5_fourth_20 : decode cX5_fourth 20 = .ok (.iload_n 2, 1) := by decide +kernel
theorem dX5_fourth_21 : decode cX5_fourth 21 = .ok (.iastore, 1) := by decide +kernel
theorem dX5_fourth_22 : decode cX5_fourth 22 = .ok (.dup, 1) := by decide +kernel
theorem dX5_fourth_23 : decode cX5_fourth 23 = .ok (.iconst 2, 1) := by decide +kernel
theorem dX5_fourth_24 : decode cX5_fourth 24 = .ok (.iload_n 3, 1) := by decide +kernel
theorem dX5_fourth_25 : decode cX5_fourth 25 = .ok (.iastore, 1) := by decide +kernel
theorem dX5_fourth_26 : decode cX5_fourth 26 = .ok (.invokevirtual 136, 3) := by decide +kernel
theorem dX5_fourth_29 : decode cX5_fourth 29 = .ok (.astore 7, 2) := by decide +kernel
theorem dX5_fourth_31 : decode cX5_fourth 31 = .ok (.aload 6, 2) := by decide +kernel
theorem dX5_fourth_33 : decode cX5_fourth 33 = .ok (.ifnull 28, 3) := by decide +kernel
theorem dX5_fourth_36 : decode cX5_fourth 36 = .ok (.aload 7, 2) := by decide +kernel
theorem dX5_fourth_38 : decode cX5_fourth 38 = .ok (.ifnull 23, 3) := by decide +kernel
theorem dX5_fourth_41 : decode cX5_fourth 41 = .ok (.lload 4, 2) := by decide +kernel
theorem dX5_fourth_43 : decode cX5_fourth 43 = .ok (.lconst 0, 1) := by decide +kernel
theorem dX5_fourth_44 : decode cX5_fourth 44 = .ok (.lcmp, 1) := by decide +kernel
theorem dX5_fourth_45 : decode cX5_fourth 45 = .ok (.ifCond .lt 16, 3) := by decide +kernel
theorem dX5_fourth_48 : decode cX5_fourth 48 = .ok (.lload 4, 2) := by decide +kernel
theorem dX5_fourth_50 : decode cX5_fourth 50 = .ok (.aload_n 0, 1) := by decide +kernel
theorem dX5_fourth_51 : decode cX5_fourth 51 = .ok (.getfield 40, 3) := by decide +kernel
theorem dX5_fourth_54 : decode cX5_fourth 54 = .ok (.getfield 158, 3) := by decide +kernel
theorem dX5_fourth_57 : decode cX5_fourth 57 = .ok (.lcmp, 1) := by decide +kernel
theorem dX5_fourth_58 : decode cX5_fourth 58 = .ok (.ifCond .le 6, 3) := by decide +kernel
theorem dX5_fourth_61 : decode cX5_fourth 61 = .ok (.bipush (-2), 2) := by decide +kernel
theorem dX5_fourth_63 : decode cX5_fourth 63 = .ok (.ireturn, 1) := by decide +kernel
theorem dX5_fourth_64 : decode cX5_fourth 64 = .ok (.iload_n 1, 1) := by decide +kernel
theorem dX5_fourth_65 : decode cX5_fourth 65 = .ok (.iload_n 2, 1) := by decide +kernel
theorem dX5_fourth_66 : decode cX5_fourth 66 = .ok (.if_icmp .eq 26, 3) := by decide +kernel
theorem dX5_fourth_69 : decode cX5_fourth 69 = .ok (.iload_n 2, 1) := by decide +kernel
theorem dX5_fourth_70 : decode cX5_fourth 70 = .ok (.iload_n 3, 1) := by decide +kernel
theorem dX5_fourth_71 : decode cX5_fourth 71 = .ok (.if_icmp .eq 21, 3) := by decide +kernel
theorem dX5_fourth_74 : decode cX5_fourth 74 = .ok (.iload_n 1, 1) := by decide +kernel
theorem dX5_fourth_75 : decode cX5_fourth 75 = .ok (.iload_n 3, 1) := by decide +kernel
theorem dX5_fourth_76 : decode cX5_fourth 76 = .ok (.if_icmp .eq 16, 3) := by decide +kernel
theorem dX5_fourth_79 : decode cX5_fourth 79 = .ok (.aload_n 0, 1) := by decide +kernel
theorem dX5_fourth_80 : decode cX5_fourth 80 = .ok (.getfield 142, 3) := by decide +kernel
theorem dX5_fourth_83 : decode cX5_fourth 83 = .ok (.aload 7, 2) := by decide +kernel
theorem dX5_fourth_85 : decode cX5_fourth 85 = .ok (.invokevirtual 146, 3) := by decide +kernel
theorem dX5_fourth_88 : decode cX5_fourth 88 = .ok (.iconst 2, 1) := by decide +kernel
theorem dX5_fourth_89 : decode cX5_fourth 89 = .ok (.if_icmp .eq 5, 3) := by decide +kernel
theorem dX5_fourth_92 : decode cX5_fourth 92 = .ok (.iconst (-1), 1) := by decide +kernel
theorem dX5_fourth_93 : decode cX5_fourth 93 = .ok (.ireturn, 1) := by decide +kernel
theorem dX5_fourth_94 : decode cX5_fourth 94 = .ok (.aload_n 0, 1) := by decide +kernel
theorem dX5_fourth_95 : decode cX5_fourth 95 = .ok (.aload 6, 2) := by decide +kernel
theorem dX5_fourth_97 : decode cX5_fourth 97 = .ok (.getfield 75, 3) := by decide +kernel
theorem dX5_fourth_100 : decode cX5_fourth 100 = .ok (.aload_n 0, 1) := by decide +kernel
theorem dX5_fourth_101 : decode cX5_fourth 101 = .ok (.getfield 86, 3) := by decide +kernel
theorem dX5_fourth_104 : decode cX5_fourth 104 = .ok (.aload 7, 2) := by decide +kernel
theorem dX5_fourth_106 : decode cX5_fourth 106 = .ok (.lload 4, 2) := by decide +kernel
theorem dX5_fourth_108 : decode cX5_fourth 108 = .ok (.invokevirtual 162, 3) := by decide +kernel
theorem dX5_fourth_111 : decode cX5_fourth 111 = .ok (.invokevirtual 62, 3) := by decide +kernel
theorem dX5_fourth_114 : decode cX5_fourth 114 = .ok (.ireturn, 1) := by decide +kernel
theorem dX5_pair_0 : decode cX5_pair 0 = .ok (.aload_n 0, 1) := by decide +kernel
theorem dX5_pair_1 : decode cX5_pair 1 = .ok (.getfield 10, 3) := by decide +kernel
theorem dX5_pair_4 : decode cX5_pair 4 = .ok (.iload_n 1, 1) := by decide +kernel
theorem dX5_pair_5 : decode cX5_pair 5 = .ok (.iconst 0, 1) := by decide +kernel
theorem dX5_pair_6 : decode cX5_pair 6 = .ok (.invokevirtual 166, 3) := by decide +kernel
theorem dX5_pair_9 : decode cX5_pair 9 = .ok (.ifnull 15, 3) := by decide +kernel
theorem dX5_pair_12 : decode cX5_pair 12 = .ok (.aload_n 0, 1) := by decide +kernel
theorem dX5_pair_13 : decode cX5_pair 13 = .ok (.getfield 10, 3) := by decide +kernel
theorem dX5_pair_16 : decode cX5_pair 16 = .ok (.iload_n 2, 1) := by decide +kernel
theorem dX5_pair_17 : decode cX5_pair 17 = .ok (.iconst 0, 1) := by decide +kernel
theorem dX5_pair_18 : decode cX5_pair 18 = .ok (.invokevirtual 166, 3) := by decide +kernel
theorem dX5_pair_21 : decode cX5_pair 21 = .ok (.ifnonnull 6, 3) := by decide +kernel
theorem dX5_pair_24 : decode cX5_pair 24 = .ok (.bipush (-2), 2) := by decide +kernel
theorem dX5_pair_26 : decode cX5_pair 26 = .ok (.ireturn, 1) := by decide +kernel
theorem dX5_pair_27 : decode cX5_pair 27 = .ok (.aload_n 0, 1) := by decide +kernel
theorem dX5_pair_28 : decode cX5_pair 28 = .ok (.getfield 169, 3) := by decide +kernel
theorem dX5_pair_31 : decode cX5_pair 31 = .ok (.aload_n 0, 1) := by decide +kernel
theorem dX5_pair_32 : decode cX5_pair 32 = .ok (.getfield 96, 3) := by decide +kernel
theorem dX5_pair_35 : decode cX5_pair 35 = .ok (.iconst 2, 1) := by decide +kernel
theorem dX5_pair_36 : decode cX5_pair 36 = .ok (.iadd, 1) := by decide +kernel
theorem dX5_pair_37 : decode cX5_pair 37 = .ok (.if_icmp .ge 11, 3) := by decide +kernel
theorem dX5_pair_40 : decode cX5_pair 40 = .ok (.aload_n 0, 1) := by decide +kernel
theorem dX5_pair_41 : decode cX5_pair 41 = .ok (.getfield 169, 3) := by decide +kernel
theorem dX5_pair_44 : decode cX5_pair 44 = .ok (.iconst 5, 1) := by decide +kernel
theorem dX5_pair_45 : decode cX5_pair 45 = .ok (.if_icmp .lt 6, 3) := by decide +kernel
theorem dX5_pair_48 : decode cX5_pair 48 = .ok (.bipush (-3), 2) := by decide +kernel
theorem dX5_pair_50 : decode cX5_pair 50 = .ok (.ireturn, 1) := by decide +kernel
theorem dX5_pair_51 : decode cX5_pair 51 = .ok (.aload_n 0, 1) := by decide +kernel
theorem dX5_pair_52 : decode cX5_pair 52 = .ok (.getfield 24, 3) := by decide +kernel
theorem dX5_pair_55 : decode cX5_pair 55 = .ok (.aload_n 0, 1) := by decide +kernel
theorem dX5_pair_56 : decode cX5_pair 56 = .ok (.getfield 169, 3) := by decide +kernel
theorem dX5_pair_59 : decode cX5_pair 59 = .ok (.iload_n 1, 1) := by decide +kernel
theorem dX5_pair_60 : decode cX5_pair 60 = .ok (.iastore, 1) := by decide +kernel
theorem dX5_pair_61 : decode cX5_pair 61 = .ok (.aload_n 0, 1) := by decide +kernel
theorem dX5_pair_62 : decode cX5_pair 62 = .ok (.getfield 27, 3) := by decide +kernel
theorem dX5_pair_65 : decode cX5_pair 65 = .ok (.aload_n 0, 1) := by decide +kernel
theorem dX5_pair_66 : decode cX5_pair 66 = .ok (.getfield 169, 3) := by decide +kernel
theorem dX5_pair_69 : decode cX5_pair 69 = .ok (.iload_n 2, 1) := by decide +kernel
theorem dX5_pair_70 : decode cX5_pair 70 = .ok (.iastore, 1) := by decide +kernel
theorem dX5_pair_71 : decode cX5_pair 71 = .ok (.aload_n 0, 1) := by decide +kernel
theorem dX5_pair_72 : decode cX5_pair 72 = .ok (.dup, 1) := by decide +kernel
theorem dX5_pair_73 : decode cX5_pair 73 = .ok (.getfield 169, 3) := by decide +kernel
theorem dX5_pair_76 : decode cX5_pair 76 = .ok (.iconst 1, 1) := by decide +kernel
theorem dX5_pair_77 : decode cX5_pair 77 = .ok (.iadd, 1) := by decide +kernel
theorem dX5_pair_78 : decode cX5_pair 78 = .ok (.putfield 169, 3) := by decide +kernel
theorem dX5_pair_81 : decode cX5_pair 81 = .ok (.aload_n 0, 1) := by decide +kernel
theorem dX5_pair_82 : decode cX5_pair 82 = .ok (.getfield 169, 3) := by decide +kernel
theorem dX5_pair_85 : decode cX5_pair 85 = .ok (.ireturn, 1) := by decide +kernel
theorem dX5_map_0 : decode cX5_map 0 = .ok (.aload_n 0, 1) := by decide +kernel
theorem dX5_map_1 : decode cX5_map 1 = .ok (.getfield 169, 3) := by decide +kernel
theorem dX5_map_4 : decode cX5_map 4 = .ok (.aload_n 0, 1) := by decide +kernel
theorem dX5_map_5 : decode cX5_map 5 = .ok (.getfield 96, 3) := by decide +kernel
theorem dX5_map_8 : decode cX5_map 8 = .ok (.iconst 2, 1) := by decide +kernel
theorem dX5_map_9 : decode cX5_map 9 = .ok (.iadd, 1) := by decide +kernel
theorem dX5_map_10 : decode cX5_map 10 = .ok (.if_icmp .eq 5, 3) := by decide +kernel
theorem dX5_map_13 : decode cX5_map 13 = .ok (.iconst (-1), 1) := by decide +kernel
theorem dX5_map_14 : decode cX5_map 14 = .ok (.ireturn, 1) := by decide +kernel
theorem dX5_map_15 : decode cX5_map 15 = .ok (.aload_n 0, 1) := by decide +kernel
theorem dX5_map_16 : decode cX5_map 16 = .ok (.getfield 142, 3) := by decide +kernel
theorem dX5_map_19 : decode cX5_map 19 = .ok (.aload_n 0, 1) := by decide +kernel
theorem dX5_map_20 : decode cX5_map 20 = .ok (.aload_n 0, 1) := by decide +kernel
theorem dX5_map_21 : decode cX5_map 21 = .ok (.getfield 24, 3) := by decide +kernel
theorem dX5_map_24 : decode cX5_map 24 = .ok (.aload_n 0, 1) := by decide +kernel
theorem dX5_map_25 : decode cX5_map 25 = .ok (.getfield 169, 3) := by decide +kernel
theorem dX5_map_28 : decode cX5_map 28 = .ok (.invokevirtual 172, 3) := by decide +kernel
theorem dX5_map_31 : decode cX5_map 31 = .ok (.invokevirtual 176, 3) := by decide +kernel
theorem dX5_map_34 : decode cX5_map 34 = .ok (.astore_n 1, 1) := by decide +kernel
theorem dX5_map_35 : decode cX5_map 35 = .ok (.aload_n 0, 1) := by decide +kernel
theorem dX5_map_36 : decode cX5_map 36 = .ok (.getfield 142, 3) := by decide +kernel
theorem dX5_map_39 : decode cX5_map 39 = .ok (.aload_n 0, 1) := by decide +kernel
theorem dX5_map_40 : decode cX5_map 40 = .ok (.aload_n 0, 1) := by decide +kernel
theorem dX5_map_41 : decode cX5_map 41 = .ok (.getfield 27, 3) := by decide +kernel
theorem dX5_map_44 : decode cX5_map 44 = .ok (.aload_n 0, 1) := by decide +kernel
theorem dX5_map_45 : decode cX5_map 45 = .ok (.getfield 169, 3) := by decide +kernel
theorem dX5_map_48 : decode cX5_map 48 = .ok (.invokevirtual 172, 3) := by decide +kernel
theorem dX5_map_51 : decode cX5_map 51 = .ok (.invokevirtual 176, 3) := by decide +kernel
theorem dX5_map_54 : decode cX5_map 54 = .ok (.astore_n 2, 1) := by decide +kernel
theorem dX5_map_55 : decode cX5_map 55 = .ok (.aload_n 1, 1) := by decide +kernel
theorem dX5_map_56 : decode cX5_map 56 = .ok (.ifnull 7, 3) := by decide +kernel
theorem dX5_map_59 : decode cX5_map 59 = .ok (.aload_n 2, 1) := by decide +kernel
theorem dX5_map_60 : decode cX5_map 60 = .ok (.ifnonnull 5, 3) := by decide +kernel
theorem dX5_map_63 : decode cX5_map 63 = .ok (.iconst (-1), 1) := by decide +kernel
theorem dX5_map_64 : decode cX5_map 64 = .ok (.ireturn, 1) := by decide +kernel
theorem dX5_map_65 : decode cX5_map 65 = .ok (.aload_n 0, 1) := by decide +kernel
theorem dX5_map_66 : decode cX5_map 66 = .ok (.getfield 142, 3) := by decide +kernel
theorem dX5_map_69 : decode cX5_map 69 = .ok (.aload_n 1, 1) := by decide +kernel
theorem dX5_map_70 : decode cX5_map 70 = .ok (.invokevirtual 180, 3) := by decide +kernel
theorem dX5_map_73 : decode cX5_map 73 = .ok (.astore_n 3, 1) := by decide +kernel
theorem dX5_map_74 : decode cX5_map 74 = .ok (.aload_n 3, 1) := by decide +kernel
theorem dX5_map_75 : decode cX5_map 75 = .ok (.ifnonnull 5, 3) := by decide +kernel
theorem dX5_map_78 : decode cX5_map 78 = .ok (.iconst (-1), 1) := by decide +kernel
theorem dX5_map_79 : decode cX5_map 79 = .ok (.ireturn, 1) := by decide +kernel
theorem dX5_map_80 : decode cX5_map 80 = .ok (.aload_n 0, 1) := by decide +kernel
theorem dX5_map_81 : decode cX5_map 81 = .ok (.iconst 3, 1) := by decide +kernel
theorem dX5_map_82 : decode cX5_map 82 = .ok (.aload_n 0, 1) := by decide +kernel
theorem dX5_map_83 : decode cX5_map 83 = .ok (.getfield 142, 3) := by decide +kernel
theorem dX5_map_86 : decode cX5_map 86 = .ok (.aload_n 2, 1) := by decide +kernel
theorem dX5_map_87 : decode cX5_map 87 = .ok (.aload_n 3, 1) := by decide +kernel
theorem dX5_map_88 : decode cX5_map 88 = .ok (.invokevirtual 184, 3) := by decide +kernel
theorem dX5_map_91 : decode cX5_map 91 = .ok (.invokevirtual 62, 3) := by decide +kernel
theorem dX5_map_94 : decode cX5_map 94 = .ok (.istore 4, 2) := by decide +kernel
theorem dX5_map_96 : decode cX5_map 96 = .ok (.iload 4, 2) := by decide +kernel
theorem dX5_map_98 : decode cX5_map 98 = .ok (.ifCond .lt 8, 3) := by decide +kernel
theorem dX5_map_101 : decode cX5_map 101 = .ok (.aload_n 0, 1) := by decide +kernel
theorem dX5_map_102 : decode cX5_map 102 = .ok (.iconst 0, 1) := by decide +kernel
theorem dX5_map_103 : decode cX5_map 103 = .ok (.putfield 169, 3) := by decide +kernel
theorem dX5_map_106 : decode cX5_map 106 = .ok (.iload 4, 2) := by decide +kernel
theorem dX5_map_108 : decode cX5_map 108 = .ok (.ireturn, 1) := by decide +kernel
theorem dX5_apply_0 : decode cX5_apply 0 = .ok (.aload_n 0, 1) := by decide +kernel
