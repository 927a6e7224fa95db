theorem f_87_28 : rfI 87 28 = some (.invokevirtual 23, (116, 3, 11, 0)) := by decide +kernel
theorem f_87_31 : rfI 87 31 = some (.invokestatic 28, (1001, 2, 14, 0)) := by decide +kernel
theorem f_87_34 : rfI 87 34 = some (.invokestatic 33, (1001, 2, 13, 0)) := by decide +kernel
theorem f_87_37 : rfI 87 37 = some (.istore 4, (0, 0, 0, 0)) := by decide +kernel
theorem f_87_39 : rfI 87 39 = some (.iinc 5 1, (0, 0, 0, 0)) := by decide +kernel
theorem f_87_42 : rfI 87 42 = some (.goto (-36), (0, 0, 0, 0)) := by decide +kernel
theorem f_87_45 : rfI 87 45 = some (.iload 4, (0, 0, 0, 0)) := by decide +kernel
theorem f_87_47 : rfI 87 47 = some (.ireturn, (0, 0, 0, 0)) := by decide +kernel
theorem f_88_0 : rfI 88 0 = some (.iload_n 1, (0, 0, 0, 0)) := by decide +kernel
theorem f_88_1 : rfI 88 1 = some (.ifCond .lt 30, (0, 0, 0, 0)) := by decide +kernel
theorem f_88_4 : rfI 88 4 = some (.iload_n 1, (0, 0, 0, 0)) := by decide +kernel
theorem f_88_5 : rfI 88 5 = some (.bipush 8, (0, 0, 0, 0)) := by decide +kernel
theorem f_88_7 : rfI 88 7 = some (.if_icmp .gt 24, (0, 0, 0, 0)) := by decide +kernel
theorem f_88_10 : rfI 88 10 = some (.iload_n 2, (0, 0, 0, 0)) := by decide +kernel
theorem f_88_11 : rfI 88 11 = some (.invokestatic 36, (177, 1, 10, 0)) := by decide +kernel
theorem f_88_14 : rfI 88 14 = some (.ifCond .eq 17, (0, 0, 0, 0)) := by decide +kernel
theorem f_88_17 : rfI 88 17 = some (.aload_n 0, (0, 0, 0, 0)) := by decide +kernel
theorem f_88_18 : rfI 88 18 = some (.getfield 9, (8, 0, 2, 0)) := by decide +kernel
theorem f_88_21 : rfI 88 21 = some (.iload_n 1, (0, 0, 0, 0)) := by decide +kernel
theorem f_88_22 : rfI 88 22 = some (.bipush 8, (0, 0, 0, 0)) := by decide +kernel
theorem f_88_24 : rfI 88 24 = some (.imul, (0, 0, 0, 0)) := by decide +kernel
theorem f_88_25 : rfI 88 25 = some (.iload_n 2, (0, 0, 0, 0)) := by decide +kernel
theorem f_88_26 : rfI 88 26 = some (.iadd, (0, 0, 0, 0)) := by decide +kernel
theorem f_88_27 : rfI 88 27 = some (.iaload, (0, 0, 0, 0)) := by decide +kernel
theorem f_88_28 : rfI 88 28 = some (.goto 4, (0, 0, 0, 0)) := by decide +kernel
theorem f_88_31 : rfI 88 31 = some (.iconst 0, (0, 0, 0, 0)) := by decide +kernel
theorem f_88_32 : rfI 88 32 = some (.ireturn, (0, 0, 0, 0)) := by decide +kernel
theorem f_89_0 : rfI 89 0 = some (.iconst 1, (0, 0, 0, 0)) := by decide +kernel
theorem f_89_1 : rfI 89 1 = some (.istore_n 2, (0, 0, 0, 0)) := by decide +kernel
theorem f_89_2 : rfI 89 2 = some (.iload_n 2, (0, 0, 0, 0)) := by decide +kernel
theorem f_89_3 : rfI 89 3 = some (.bipush 8, (0, 0, 0, 0)) := by decide +kernel
theorem f_89_5 : rfI 89 5 = some (.if_icmp .gt 20, (0, 0, 0, 0)) := by decide +kernel
theorem f_89_8 : rfI 89 8 = some (.aload_n 0, (0, 0, 0, 0)) := by decide +kernel
theorem f_89_9 : rfI 89 9 = some (.iload_n 2, (0, 0, 0, 0)) := by decide +kernel
theorem f_89_10 : rfI 89 10 = some (.iload_n 1, (0, 0, 0, 0)) := by decide +kernel
theorem f_89_11 : rfI 89 11 = some (.invokevirtual 19, (88, 3, 11, 0)) := by decide +kernel
theorem f_89_14 : rfI 89 14 = some (.ifCond .le 5, (0, 0, 0, 0)) := by decide +kernel
theorem f_89_17 : rfI 89 17 = some (.iload_n 2, (0, 0, 0, 0)) := by decide +kernel
theorem f_89_18 : rfI 89 18 = some (.ireturn, (0, 0, 0, 0)) := by decide +kernel
theorem f_89_19 : rfI 89 19 = some (.iinc 2 1, (0, 0, 0, 0)) := by decide +kernel
theorem f_89_22 : rfI 89 22 = some (.goto (-20), (0, 0, 0, 0)) := by decide +kernel
theorem f_89_25 : rfI 89 25 = some (.iconst 0, (0, 0, 0, 0)) := by decide +kernel
theorem f_89_26 : rfI 89 26 = some (.ireturn, (0, 0, 0, 0)) := by decide +kernel
theorem f_90_0 : rfI 90 0 = some (.iconst 0, (0, 0, 0, 0)) := by decide +kernel
theorem f_90_1 : rfI 90 1 = some (.istore_n 2, (0, 0, 0, 0)) := by decide +kernel
theorem f_90_2 : rfI 90 2 = some (.iconst 0, (0, 0, 0, 0)) := by decide +kernel
theorem f_90_3 : rfI 90 3 = some (.istore_n 3, (0, 0, 0, 0)) := by decide +kernel
theorem f_90_4 : rfI 90 4 = some (.iconst 1, (0, 0, 0, 0)) := by decide +kernel
theorem f_90_5 : rfI 90 5 = some (.istore 4, (0, 0, 0, 0)) := by decide +kernel
theorem f_90_7 : rfI 90 7 = some (.iload 4, (0, 0, 0, 0)) := by decide +kernel
theorem f_90_9 : rfI 90 9 = some (.bipush 8, (0, 0, 0, 0)) := by decide +kernel
theorem f_90_11 : rfI 90 11 = some (.if_icmp .gt 31, (0, 0, 0, 0)) := by decide +kernel
theorem f_90_14 : rfI 90 14 = some (.aload_n 0, (0, 0, 0, 0)) := by decide +kernel
theorem f_90_15 : rfI 90 15 = some (.iload 4, (0, 0, 0, 0)) := by decide +kernel
theorem f_90_17 : rfI 90 17 = some (.iload_n 1, (0, 0, 0, 0)) := by decide +kernel
theorem f_90_18 : rfI 90 18 = some (.invokevirtual 19, (88, 3, 11, 0)) := by decide +kernel
theorem f_90_21 : rfI 90 21 = some (.iload_n 3, (0, 0, 0, 0)) := by decide +kernel
theorem f_90_22 : rfI 90 22 = some (.if_icmp .le 14, (0, 0, 0, 0)) := by decide +kernel
theorem f_90_25 : rfI 90 25 = some (.aload_n 0, (0, 0, 0, 0)) := by decide +kernel
theorem f_90_26 : rfI 90 26 = some (.iload 4, (0, 0, 0, 0)) := by decide +kernel
theorem f_90_28 : rfI 90 28 = some (.iload_n 1, (0, 0, 0, 0)) := by decide +kernel
theorem f_90_29 : rfI 90 29 = some (.invokevirtual 19, (88, 3, 11, 0)) := by decide +kernel
theorem f_90_32 : rfI 90 32 = some (.istore_n 3, (0, 0, 0, 0)) := by decide +kernel
theorem f_90_33 : rfI 90 33 = some (.iload 4, (0, 0, 0, 0)) := by decide +kernel
theorem f_90_35 : rfI 90 35 = some (.istore_n 2, (0, 0, 0, 0)) := by decide +kernel
theorem f_90_36 : rfI 90 36 = some (.iinc 4 1, (0, 0, 0, 0)) := by decide +kernel
theorem f_90_39 : rfI 90 39 = some (.goto (-32), (0, 0, 0, 0)) := by decide +kernel
theorem f_90_42 : rfI 90 42 = some (.iload_n 2, (0, 0, 0, 0)) := by decide +kernel
theorem f_90_43 : rfI 90 43 = some (.ireturn, (0, 0, 0, 0)) := by decide +kernel
theorem f_92_0 : rfI 92 0 = some (.aload_n 0, (0, 0, 0, 0)) := by decide +kernel
theorem f_92_1 : rfI 92 1 = some (.getfield 15, (9, 1, 0, 0)) := by decide +kernel
theorem f_92_4 : rfI 92 4 = some (.bipush 20, (0, 0, 0, 0)) := by decide +kernel
theorem f_92_6 : rfI 92 6 = some (.iadd, (0, 0, 0, 0)) := by decide +kernel
theorem f_92_7 : rfI 92 7 = some (.sipush 260, (0, 0, 0, 0)) := by decide +kernel
theorem f_92_10 : rfI 92 10 = some (.if_icmp .gt 7, (0, 0, 0, 0)) := by decide +kernel
theorem f_92_13 : rfI 92 13 = some (.iconst 1, (0, 0, 0, 0)) := by decide +kernel
theorem f_92_14 : rfI 92 14 = some (.goto 4, (0, 0, 0, 0)) := by decide +kernel
theorem f_92_17 : rfI 92 17 = some (.iconst 0, (0, 0, 0, 0)) := by decide +kernel
theorem f_92_18 : rfI 92 18 = some (.ireturn, (0, 0, 0, 0)) := by decide +kernel
theorem f_93_0 : rfI 93 0 = some (.bipush 24, (0, 0, 0, 0)) := by decide +kernel
theorem f_93_2 : rfI 93 2 = some (.istore_n 2, (0, 0, 0, 0)) := by decide +kernel
theorem f_93_3 : rfI 93 3 = some (.iload_n 2, (0, 0, 0, 0)) := by decide +kernel
theorem f_93_4 : rfI 93 4 = some (.ifCond .lt 45, (0, 0, 0, 0)) := by decide +kernel
theorem f_93_7 : rfI 93 7 = some (.aload_n 0, (0, 0, 0, 0)) := by decide +kernel
theorem f_93_8 : rfI 93 8 = some (.getfield 15, (9, 1, 0, 0)) := by decide +kernel
theorem f_93_11 : rfI 93 11 = some (.sipush 260, (0, 0, 0, 0)) := by decide +kernel
theorem f_93_14 : rfI 93 14 = some (.if_icmp .ge 29, (0, 0, 0, 0)) := by decide +kernel
theorem f_93_17 : rfI 93 17 = some (.aload_n 0, (0, 0, 0, 0)) := by decide +kernel
theorem f_93_18 : rfI 93 18 = some (.getfield 11, (9, 0, 2, 0)) := by decide +kernel
theorem f_93_21 : rfI 93 21 = some (.aload_n 0, (0, 0, 0, 0)) := by decide +kernel
theorem f_93_22 : rfI 93 22 = some (.getfield 15, (9, 1, 0, 0)) := by decide +kernel
theorem f_93_25 : rfI 93 25 = some (.iload_n 1, (0, 0, 0, 0)) := by decide +kernel
theorem f_93_26 : rfI 93 26 = some (.iload_n 2, (0, 0, 0, 0)) := by decide +kernel
theorem f_93_27 : rfI 93 27 = some (.iushr, (0, 0, 0, 0)) := by decide +kernel
theorem f_93_28 : rfI 93 28 = some (.sipush 255, (0, 0, 0, 0)) := by decide +kernel
theorem f_93_31 : rfI 93 31 = some (.iand, (0, 0, 0, 0)) := by decide +kernel
theorem f_93_32 : rfI 93 32 = some (.iastore, (0, 0, 0, 0)) := by decide +kernel
theorem f_93_33 : rfI 93 33 = some (.aload_n 0, (0, 0, 0, 0)) := by decide +kernel
theorem f_93_34 : rfI 93 34 = some (.dup, (0, 0, 0, 0)) := by decide +kernel
theorem f_93_35 : rfI 93 35 = some (.getfield 15, (9, 1, 0, 0)) := by decide +kernel
theorem f_93_38 : rfI 93 38 = some (.iconst 1, (0, 0, 0, 0)) := by decide +kernel
theorem f_93_39 : rfI 93 39 = some (.iadd, (0, 0, 0, 0)) := by decide +kernel
theorem f_93_40 : rfI 93 40 = some (.putfield 15, (9, 1, 0, 0)) := by decide +kernel
theorem f_93_43 : rfI 93 43 = some (.iinc 2 (-8), (0, 0, 0, 0)) := by decide +kernel
theorem f_93_46 : rfI 93 46 = some (.goto (-43), (0, 0, 0, 0)) := by decide +kernel
theorem f_93_49 : rfI 93 49 = some (.return_, (0, 0, 0, 0)) := by decide +kernel
theorem f_94_0 : rfI 94 0 = some (.aload_n 0, (0, 0, 0, 0)) := by decide +kernel
theorem f_94_1 : rfI 94 1 = some (.iconst 0, (0, 0, 0, 0)) := by decide +kernel
theorem f_94_2 : rfI 94 2 = some (.putfield 15, (9, 1, 0, 0)) := by decide +kernel
theorem f_94_5 : rfI 94 5 = some (.return_, (0, 0, 0, 0)) := by decide +kernel
theorem f_95_0 : rfI 95 0 = some (.iload_n 1, (0, 0, 0, 0)) := by decide +kernel
theorem f_95_1 : rfI 95 1 = some (.ifCond .lt 27, (0, 0, 0, 0)) := by decide +kernel
theorem f_95_4 : rfI 95 4 = some (.iload_n 1, (0, 0, 0, 0)) := by decide +kernel
theorem f_95_5 : rfI 95 5 = some (.aload_n 0, (0, 0, 0, 0)) := by decide +kernel
theorem f_95_6 : rfI 95 6 = some (.getfield 15, (9, 1, 0, 0)) := by decide +kernel
theorem f_95_9 : rfI 95 9 = some (.if_icmp .ge 19, (0, 0, 0, 0)) := by decide +kernel
theorem f_95_12 : rfI 95 12 = some (.iload_n 1, (0, 0, 0, 0)) := by decide +kernel
theorem f_95_13 : rfI 95 13 = some (.sipush 260, (0, 0, 0, 0)) := by decide +kernel
theorem f_95_16 : rfI 95 16 = some (.if_icmp .ge 12, (0, 0, 0, 0)) := by decide +kernel
theorem f_95_19 : rfI 95 19 = some (.aload_n 0, (0, 0, 0, 0)) := by decide +kernel
theorem f_95_20 : rfI 95 20 = some (.getfield 11, (9, 0, 2, 0)) := by decide +kernel
theorem f_95_23 : rfI 95 23 = some (.iload_n 1, (0, 0, 0, 0)) := by decide +kernel
theorem f_95_24 : rfI 95 24 = some (.iaload, (0, 0, 0, 0)) := by decide +kernel
theorem f_95_25 : rfI 95 25 = some (.goto 4, (0, 0, 0, 0)) := by decide +kernel
theorem f_95_28 : rfI 95 28 = some (.iconst (-1), (0, 0, 0, 0)) := by decide +kernel
theorem f_95_29 : rfI 95 29 = some (.ireturn, (0, 0, 0, 0)) := by decide +kernel
theorem f_96_0 : rfI 96 0 = some (.aload_n 0, (0, 0, 0, 0)) := by decide +kernel
theorem f_96_1 : rfI 96 1 = some (.iload_n 1, (0, 0, 0, 0)) := by decide +kernel
theorem f_96_2 : rfI 96 2 = some (.invokevirtual 31, (95, 2, 11, 0)) := by decide +kernel
theorem f_96_5 : rfI 96 5 = some (.sipush 256, (0, 0, 0, 0)) := by decide +kernel
theorem f_96_8 : rfI 96 8 = some (.imul, (0, 0, 0, 0)) := by decide +kernel
theorem f_96_9 : rfI 96 9 = some (.aload_n 0, (0, 0, 0, 0)) := by decide +kernel
theorem f_96_10 : rfI 96 10 = some (.iload_n 1, (0, 0, 0, 0)) := by decide +kernel
theorem f_96_11 : rfI 96 11 = some (.iconst 1, (0, 0, 0, 0)) := by decide +kernel
theorem f_96_12 : rfI 96 12 = some (.iadd, (0, 0, 0, 0)) := by decide +kernel
theorem f_96_13 : rfI 96 13 = some (.invokevirtual 31, (95, 2, 11, 0)) := by decide +kernel
theorem f_96_16 : rfI 96 16 = some (.iadd, (0, 0, 0, 0)) := by decide +kernel
theorem f_96_17 : rfI 96 17 = some (.ireturn, (0, 0, 0, 0)) := by decide +kernel
theorem f_97_0 : rfI 97 0 = some (.iconst 0, (0, 0, 0, 0)) := by decide +kernel
theorem f_97_1 : rfI 97 1 = some (.istore_n 2, (0, 0, 0, 0)) := by decide +kernel
theorem f_97_2 : rfI 97 2 = some (.iload_n 2, (0, 0, 0, 0)) := by decide +kernel
theorem f_97_3 : rfI 97 3 = some (.iload_n 1, (0, 0, 0, 0)) := by decide +kernel
theorem f_97_4 : rfI 97 4 = some (.if_icmp .ge 29, (0, 0, 0, 0)) := by decide +kernel
theorem f_97_7 : rfI 97 7 = some (.aload_n 0, (0, 0, 0, 0)) := by decide +kernel
theorem f_97_8 : rfI 97 8 = some (.iload_n 2, (0, 0, 0, 0)) := by decide +kernel
theorem f_97_9 : rfI 97 9 = some (.invokevirtual 31, (95, 2, 11, 0)) := by decide +kernel
theorem f_97_12 : rfI 97 12 = some (.istore_n 3, (0, 0, 0, 0)) := by decide +kernel
theorem f_97_13 : rfI 97 13 = some (.iload_n 3, (0, 0, 0, 0)) := by decide +kernel
theorem f_97_14 : rfI 97 14 = some (.bipush 46, (0, 0, 0, 0)) := by decide +kernel
theorem f_97_16 : rfI 97 16 = some (.if_icmp .eq 11, (0, 0, 0, 0)) := by decide +kernel
theorem f_97_19 : rfI 97 19 = some (.iload_n 3, (0, 0, 0, 0)) := by decide +kernel
theorem f_97_20 : rfI 97 20 = some (.bipush 45, (0, 0, 0, 0)) := by decide +kernel
theorem f_97_22 : rfI 97 22 = some (.if_icmp .eq 5, (0, 0, 0, 0)) := by decide +kernel
theorem f_97_25 : rfI 97 25 = some (.iload_n 2, (0, 0, 0, 0)) := by decide +kernel
theorem f_97_26 : rfI 97 26 = some (.ireturn, (0, 0, 0, 0)) := by decide +kernel
theorem f_97_27 : rfI 97 27 = some (.iinc 2 1, (0, 0, 0, 0)) := by decide +kernel
theorem f_97_30 : rfI 97 30 = some (.goto (-28), (0, 0, 0, 0)) := by decide +kernel
theorem f_97_33 : rfI 97 33 = some (.iload_n 1, (0, 0, 0, 0)) := by decide +kernel
theorem f_97_34 : rfI 97 34 = some (.ireturn, (0, 0, 0, 0)) := by decide +kernel
theorem f_98_0 : rfI 98 0 = some (.iconst 0, (0, 0, 0, 0)) := by decide +kernel
theorem f_98_1 : rfI 98 1 = some (.istore_n 2, (0, 0, 0, 0)) := by decide +kernel
theorem f_98_2 : rfI 98 2 = some (.iload_n 2, (0, 0, 0, 0)) := by decide +kernel
theorem f_98_3 : rfI 98 3 = some (.iload_n 1, (0, 0, 0, 0)) := by decide +kernel
theorem f_98_4 : rfI 98 4 = some (.if_icmp .ge 19, (0, 0, 0, 0)) := by decide +kernel
theorem f_98_7 : rfI 98 7 = some (.aload_n 0, (0, 0, 0, 0)) := by decide +kernel
theorem f_98_8 : rfI 98 8 = some (.iload_n 2, (0, 0, 0, 0)) := by decide +kernel
theorem f_98_9 : rfI 98 9 = some (.invokevirtual 31, (95, 2, 11, 0)) := by decide +kernel
theorem f_98_12 : rfI 98 12 = some (.ifCond .ne 5, (0, 0, 0, 0)) := by decide +kernel
theorem f_98_15 : rfI 98 15 = some (.iconst 1, (0, 0, 0, 0)) := by decide +kernel
theorem f_98_16 : rfI 98 16 = some (.ireturn, (0, 0, 0, 0)) := by decide +kernel
theorem f_98_17 : rfI 98 17 = some (.iinc 2 1, (0, 0, 0, 0)) := by decide +kernel
theorem f_98_20 : rfI 98 20 = some (.goto (-18), (0, 0, 0, 0)) := by decide +kernel
theorem f_98_23 : rfI 98 23 = some (.iconst 0, (0, 0, 0, 0)) := by decide +kernel
theorem f_98_24 : rfI 98 24 = some (.ireturn, (0, 0, 0, 0)) := by decide +kernel
theorem f_99_0 : rfI 99 0 = some (.aload_n 0, (0, 0, 0, 0)) := by decide +kernel
theorem f_99_1 : rfI 99 1 = some (.iload_n 1, (0, 0, 0, 0)) := by decide +kernel
theorem f_99_2 : rfI 99 2 = some (.putfield 19, (9, 2, 0, 0)) := by decide +kernel
theorem f_99_5 : rfI 99 5 = some (.aload_n 0, (0, 0, 0, 0)) := by decide +kernel
theorem f_99_6 : rfI 99 6 = some (.iconst 0, (0, 0, 0, 0)) := by decide +kernel
theorem f_99_7 : rfI 99 7 = some (.putfield 22, (9, 3, 0, 0)) := by decide +kernel
theorem f_99_10 : rfI 99 10 = some (.aload_n 0, (0, 0, 0, 0)) := by decide +kernel
theorem f_99_11 : rfI 99 11 = some (.iconst 0, (0, 0, 0, 0)) := by decide +kernel
theorem f_99_12 : rfI 99 12 = some (.putfield 28, (9, 5, 0, 0)) := by decide +kernel
theorem f_99_15 : rfI 99 15 = some (.return_, (0, 0, 0, 0)) := by decide +kernel
theorem f_100_0 : rfI 100 0 = some (.aload_n 0, (0, 0, 0, 0)) := by decide +kernel
theorem f_100_1 : rfI 100 1 = some (.getfield 22, (9, 3, 0, 0)) := by decide +kernel
theorem f_100_4 : rfI 100 4 = some (.aload_n 0, (0, 0, 0, 0)) := by decide +kernel
theorem f_100_5 : rfI 100 5 = some (.getfield 19, (9, 2, 0, 0)) := by decide +kernel
theorem f_100_8 : rfI 100 8 = some (.if_icmp .lt 7, (0, 0, 0, 0)) := by decide +kernel
theorem f_100_11 : rfI 100 11 = some (.iconst 1, (0, 0, 0, 0)) := by decide +kernel
theorem f_100_12 : rfI 100 12 = some (.goto 4, (0, 0, 0, 0)) := by decide +kernel
theorem f_100_15 : rfI 100 15 = some (.iconst 0, (0, 0, 0, 0)) := by decide +kernel
theorem f_100_16 : rfI 100 16 = some (.ireturn, (0, 0, 0, 0)) := by decide +kernel
theorem f_101_0 : rfI 101 0 = some (.aload_n 0, (0, 0, 0, 0)) := by decide +kernel
theorem f_101_1 : rfI 101 1 = some (.getfield 22, (9, 3, 0, 0)) := by decide +kernel
theorem f_101_4 : rfI 101 4 = some (.aload_n 0, (0, 0, 0, 0)) := by decide +kernel
theorem f_101_5 : rfI 101 5 = some (.getfield 19, (9, 2, 0, 0)) := by decide +kernel
theorem f_101_8 : rfI 101 8 = some (.if_icmp .ge 14, (0, 0, 0, 0)) := by decide +kernel
theorem f_101_11 : rfI 101 11 = some (.aload_n 0, (0, 0, 0, 0)) := by decide +kernel
theorem f_101_12 : rfI 101 12 = some (.aload_n 0, (0, 0, 0, 0)) := by decide +kernel
theorem f_101_13 : rfI 101 13 = some (.getfield 22, (9, 3, 0, 0)) := by decide +kernel
theorem f_101_16 : rfI 101 16 = some (.invokevirtual 31, (95, 2, 11, 0)) := by decide +kernel
theorem f_101_19 : rfI 101 19 = some (.goto 4, (0, 0, 0, 0)) := by decide +kernel
theorem f_101_22 : rfI 101 22 = some (.iconst (-1), (0, 0, 0, 0)) := by decide +kernel
theorem f_101_23 : rfI 101 23 = some (.ireturn, (0, 0, 0, 0)) := by decide +kernel
theorem f_102_0 : rfI 102 0 = some (.aload_n 0, (0, 0, 0, 0)) := by decide +kernel
theorem f_102_1 : rfI 102 1 = some (.dup, (0, 0, 0, 0)) := by decide +kernel
theorem f_102_2 : rfI 102 2 = some (.getfield 22, (9, 3, 0, 0)) := by decide +kernel
theorem f_102_5 : rfI 102 5 = some (.iconst 1, (0, 0, 0, 0)) := by decide +kernel
theorem f_102_6 : rfI 102 6 = some (.iadd, (0, 0, 0, 0)) := by decide +kernel
theorem f_102_7 : rfI 102 7 = some (.putfield 22, (9, 3, 0, 0)) := by decide +kernel
theorem f_102_10 : rfI 102 10 = some (.return_, (0, 0, 0, 0)) := by decide +kernel
theorem f_103_0 : rfI 103 0 = some (.aload_n 0, (0, 0, 0, 0)) := by decide +kernel
theorem f_103_1 : rfI 103 1 = some (.iload_n 1, (0, 0, 0, 0)) := by decide +kernel
theorem f_103_2 : rfI 103 2 = some (.aload_n 0, (0, 0, 0, 0)) := by decide +kernel
theorem f_103_3 : rfI 103 3 = some (.getfield 22, (9, 3, 0, 0)) := by decide +kernel
theorem f_103_6 : rfI 103 6 = some (.invokestatic 35, (179, 2, 10, 0)) := by decide +kernel
theorem f_103_9 : rfI 103 9 = some (.putfield 28, (9, 5, 0, 0)) := by decide +kernel
theorem f_103_12 : rfI 103 12 = some (.iconst 0, (0, 0, 0, 0)) := by decide +kernel
theorem f_103_13 : rfI 103 13 = some (.ireturn, (0, 0, 0, 0)) := by decide +kernel
theorem f_104_0 : rfI 104 0 = some (.aload_n 0, (0, 0, 0, 0)) := by decide +kernel
theorem f_104_1 : rfI 104 1 = some (.iload_n 1, (0, 0, 0, 0)) := by decide +kernel
theorem f_104_2 : rfI 104 2 = some (.iload_n 2, (0, 0, 0, 0)) := by decide +kernel
theorem f_104_3 : rfI 104 3 = some (.invokestatic 35, (179, 2, 10, 0)) := by decide +kernel
theorem f_104_6 : rfI 104 6 = some (.putfield 28, (9, 5, 0, 0)) := by decide +kernel
theorem f_104_9 : rfI 104 9 = some (.iconst 0, (0, 0, 0, 0)) := by decide +kernel
theorem f_104_10 : rfI 104 10 = some (.ireturn, (0, 0, 0, 0)) := by decide +kernel
theorem f_105_0 : rfI 105 0 = some (.aload_n 0, (0, 0, 0, 0)) := by decide +kernel
theorem f_105_1 : rfI 105 1 = some (.invokevirtual 39, (101, 1, 11, 0)) := by decide +kernel
theorem f_105_4 : rfI 105 4 = some (.iload_n 1, (0, 0, 0, 0)) := by decide +kernel
theorem f_105_5 : rfI 105 5 = some (.if_icmp .eq 9, (0, 0, 0, 0)) := by decide +kernel
theorem f_105_8 : rfI 105 8 = some (.aload_n 0, (0, 0, 0, 0)) := by decide +kernel
theorem f_105_9 : rfI 105 9 = some (.iconst 1, (0, 0, 0, 0)) := by decide +kernel
theorem f_105_10 : rfI 105 10 = some (.invokevirtual 43, (103, 2, 11, 0)) := by decide +kernel
theorem f_105_13 : rfI 105 13 = some (.ireturn, (0, 0, 0, 0)) := by decide +kernel
theorem f_105_14 : rfI 105 14 = some (.aload_n 0, (0, 0, 0, 0)) := by decide +kernel
theorem f_105_15 : rfI 105 15 = some (.dup, (0, 0, 0, 0)) := by decide +kernel
theorem f_105_16 : rfI 105 16 = some (.getfield 22, (9, 3, 0, 0)) := by decide +kernel
theorem f_105_19 : rfI 105 19 = some (.iconst 1, (0, 0, 0, 0)) := by decide +kernel
theorem f_105_20 : rfI 105 20 = some (.iadd, (0, 0, 0, 0)) := by decide +kernel
theorem f_105_21 : rfI 105 21 = some (.putfield 22, (9, 3, 0, 0)) := by decide +kernel
theorem f_105_24 : rfI 105 24 = some (.iconst 1, (0, 0, 0, 0)) := by decide +kernel
theorem f_105_25 : rfI 105 25 = some (.ireturn, (0, 0, 0, 0)) := by decide +kernel
theorem f_106_0 : rfI 106 0 = some (.aload_n 0, (0, 0, 0, 0)) := by decide +kernel
theorem f_106_1 : rfI 106 1 = some (.iconst 0, (0, 0, 0, 0)) := by decide +kernel
theorem f_106_2 : rfI 106 2 = some (.putfield 25, (9, 4, 0, 0)) := by decide +kernel
theorem f_106_5 : rfI 106 5 = some (.iconst 0, (0, 0, 0, 0)) := by decide +kernel
theorem f_106_6 : rfI 106 6 = some (.istore_n 2, (0, 0, 0, 0)) := by decide +kernel
theorem f_106_7 : rfI 106 7 = some (.iload_n 2, (0, 0, 0, 0)) := by decide +kernel
theorem f_106_8 : rfI 106 8 = some (.iload_n 1, (0, 0, 0, 0)) := by decide +kernel
theorem f_106_9 : rfI 106 9 = some (.if_icmp .gt 76, (0, 0, 0, 0)) := by decide +kernel
theorem f_106_12 : rfI 106 12 = some (.aload_n 0, (0, 0, 0, 0)) := by decide +kernel
theorem f_106_13 : rfI 106 13 = some (.invokevirtual 39, (101, 1, 11, 0)) := by decide +kernel
theorem f_106_16 : rfI 106 16 = some (.istore_n 3, (0, 0, 0, 0)) := by decide +kernel
theorem f_106_17 : rfI 106 17 = some (.iload_n 3, (0, 0, 0, 0)) := by decide +kernel
theorem f_106_18 : rfI 106 18 = some (.invokestatic 47, (178, 1, 10, 0)) := by decide +kernel
theorem f_106_21 : rfI 106 21 = some (.ifCond .ne 21, (0, 0, 0, 0)) := by decide +kernel
theorem f_106_24 : rfI 106 24 = some (.iload_n 2, (0, 0, 0, 0)) := by decide +kernel
theorem f_106_25 : rfI 106 25 = some (.ifCond .gt 11, (0, 0, 0, 0)) := by decide +kernel
theorem f_106_28 : rfI 106 28 = some (.aload_n 0, (0, 0, 0, 0)) := by decide +kernel
theorem f_106_29 : rfI 106 29 = some (.iconst 1, (0, 0, 0, 0)) := by decide +kernel
theorem f_106_30 : rfI 106 30 = some (.invokevirtual 43, (103, 2, 11, 0)) := by decide +kernel
theorem f_106_33 : rfI 106 33 = some (.ifCond .eq 7, (0, 0, 0, 0)) := by decide +kernel
theorem f_106_36 : rfI 106 36 = some (.iconst 1, (0, 0, 0, 0)) := by decide +kernel
theorem f_106_37 : rfI 106 37 = some (.goto 4, (0, 0, 0, 0)) := by decide +kernel
theorem f_106_40 : rfI 106 40 = some (.iconst 0, (0, 0, 0, 0)) := by decide +kernel
theorem f_106_41 : rfI 106 41 = some (.ireturn, (0, 0, 0, 0)) := by decide +kernel
theorem f_106_42 : rfI 106 42 = some (.iload_n 2, (0, 0, 0, 0)) := by decide +kernel
theorem f_106_43 : rfI 106 43 = some (.iload_n 1, (0, 0, 0, 0)) := by decide +kernel
theorem f_106_44 : rfI 106 44 = some (.if_icmp .ne 9, (0, 0, 0, 0)) := by decide +kernel
theorem f_106_47 : rfI 106 47 = some (.aload_n 0, (0, 0, 0, 0)) := by decide +kernel
theorem f_106_48 : rfI 106 48 = some (.iconst 2, (0, 0, 0, 0)) := by decide +kernel
theorem f_106_49 : rfI 106 49 = some (.invokevirtual 43, (103, 2, 11, 0)) := by decide +kernel
theorem f_106_52 : rfI 106 52 = some (.ireturn, (0, 0, 0, 0)) := by decide +kernel
theorem f_106_53 : rfI 106 53 = some (.aload_n 0, (0, 0, 0, 0)) := by decide +kernel
theorem f_106_54 : rfI 106 54 = some (.aload_n 0, (0, 0, 0, 0)) := by decide +kernel
theorem f_106_55 : rfI 106 55 = some (.getfield 25, (9, 4, 0, 0)) := by decide +kernel
theorem f_106_58 : rfI 106 58 = some (.bipush 10, (0, 0, 0, 0)) := by decide +kernel
theorem f_106_60 : rfI 106 60 = some (.imul, (0, 0, 0, 0)) := by decide +kernel
theorem f_106_61 : rfI 106 61 = some (.iload_n 3, (0, 0, 0, 0)) := by decide +kernel
theorem f_106_62 : rfI 106 62 = some (.iadd, (0, 0, 0, 0)) := by decide +kernel
theorem f_106_63 : rfI 106 63 = some (.bipush 48, (0, 0, 0, 0)) := by decide +kernel
theorem f_106_65 : rfI 106 65 = some (.isub, (0, 0, 0, 0)) := by decide +kernel
theorem f_106_66 : rfI 106 66 = some (.putfield 25, (9, 4, 0, 0)) := by decide +kernel
theorem f_106_69 : rfI 106 69 = some (.aload_n 0, (0, 0, 0, 0)) := by decide +kernel
theorem f_106_70 : rfI 106 70 = some (.dup, (0, 0, 0, 0)) := by decide +kernel
theorem f_106_71 : rfI 106 71 = some (.getfield 22, (9, 3, 0, 0)) := by decide +kernel
theorem f_106_74 : rfI 106 74 = some (.iconst 1, (0, 0, 0, 0)) := by decide +kernel
theorem f_106_75 : rfI 106 75 = some (.iadd, (0, 0, 0, 0)) := by decide +kernel
theorem f_106_76 : rfI 106 76 = some (.putfield 22, (9, 3, 0, 0)) := by decide +kernel
theorem f_106_79 : rfI 106 79 = some (.iinc 2 1, (0, 0, 0, 0)) := by decide +kernel
theorem f_106_82 : rfI 106 82 = some (.goto (-75), (0, 0, 0, 0)) := by decide +kernel
theorem f_106_85 : rfI 106 85 = some (.iconst 1, (0, 0, 0, 0)) := by decide +kernel
theorem f_106_86 : rfI 106 86 = some (.ireturn, (0, 0, 0, 0)) := by decide +kernel
theorem f_108_0 : rfI 108 0 = some (.aload_n 1, (0, 0, 0, 0)) := by decide +kernel
theorem f_108_1 : rfI 108 1 = some (.getfield 9, (10, 0, 2, 0)) := by decide +kernel
theorem f_108_4 : rfI 108 4 = some (.iconst 0, (0, 0, 0, 0)) := by decide +kernel
theorem f_108_5 : rfI 108 5 = some (.aload_n 0, (0, 0, 0, 0)) := by decide +kernel
theorem f_108_6 : rfI 108 6 = some (.getfield 9, (10, 0, 2, 0)) := by decide +kernel
theorem f_108_9 : rfI 108 9 = some (.iconst 0, (0, 0, 0, 0)) := by decide +kernel
theorem f_108_10 : rfI 108 10 = some (.bipush 8, (0, 0, 0, 0)) := by decide +kernel
theorem f_108_12 : rfI 108 12 = some (.invokestatic 37, (1000, 5, 12, 0)) := by decide +kernel
theorem f_108_15 : rfI 108 15 = some (.aload_n 1, (0, 0, 0, 0)) := by decide +kernel
theorem f_108_16 : rfI 108 16 = some (.getfield 15, (10, 1, 2, 0)) := by decide +kernel
theorem f_108_19 : rfI 108 19 = some (.iconst 0, (0, 0, 0, 0)) := by decide +kernel
theorem f_108_20 : rfI 108 20 = some (.aload_n 0, (0, 0, 0, 0)) := by decide +kernel
theorem f_108_21 : rfI 108 21 = some (.getfield 15, (10, 1, 2, 0)) := by decide +kernel
theorem f_108_24 : rfI 108 24 = some (.iconst 0, (0, 0, 0, 0)) := by decide +kernel
theorem f_108_25 : rfI 108 25 = some (.bipush 64, (0, 0, 0, 0)) := by decide +kernel
theorem f_108_27 : rfI 108 27 = some (.invokestatic 37, (1000, 5, 12, 0)) := by decide +kernel
theorem f_108_30 : rfI 108 30 = some (.aload_n 1, (0, 0, 0, 0)) := by decide +kernel
theorem f_108_31 : rfI 108 31 = some (.getfield 18, (10, 2, 2, 0)) := by decide +kernel
theorem f_108_34 : rfI 108 34 = some (.iconst 0, (0, 0, 0, 0)) := by decide +kernel
theorem f_108_35 : rfI 108 35 = some (.aload_n 0, (0, 0, 0, 0)) := by decide +kernel
theorem f_108_36 : rfI 108 36 = some (.getfield 18, (10, 2, 2, 0)) := by decide +kernel
theorem f_108_39 : rfI 108 39 = some (.iconst 0, (0, 0, 0, 0)) := by decide +kernel
theorem f_108_40 : rfI 108 40 = some (.bipush 64, (0, 0, 0, 0)) := by decide +kernel
theorem f_108_42 : rfI 108 42 = some (.invokestatic 37, (1000, 5, 12, 0)) := by decide +kernel
theorem f_108_45 : rfI 108 45 = some (.aload_n 0, (0, 0, 0, 0)) := by decide +kernel
theorem f_108_46 : rfI 108 46 = some (.aload_n 1, (0, 0, 0, 0)) := by decide +kernel
theorem f_108_47 : rfI 108 47 = some (.getfield 21, (10, 3, 0, 0)) := by decide +kernel
theorem f_108_50 : rfI 108 50 = some (.putfield 21, (10, 3, 0, 0)) := by decide +kernel
theorem f_108_53 : rfI 108 53 = some (.aload_n 0, (0, 0, 0, 0)) := by decide +kernel
theorem f_108_54 : rfI 108 54 = some (.aload_n 1, (0, 0, 0, 0)) := by decide +kernel
theorem f_108_55 : rfI 108 55 = some (.getfield 25, (10, 4, 0, 0)) := by decide +kernel
theorem f_108_58 : rfI 108 58 = some (.putfield 25, (10, 4, 0, 0)) := by decide +kernel
theorem f_108_61 : rfI 108 61 = some (.aload_n 0, (0, 0, 0, 0)) := by decide +kernel
theorem f_108_62 : rfI 108 62 = some (.aload_n 1, (0, 0, 0, 0)) := by decide +kernel
theorem f_108_63 : rfI 108 63 = some (.getfield 28, (10, 5, 0, 0)) := by decide +kernel
theorem f_108_66 : rfI 108 66 = some (.putfield 28, (10, 5, 0, 0)) := by decide +kernel
theorem f_108_69 : rfI 108 69 = some (.aload_n 0, (0, 0, 0, 0)) := by decide +kernel
theorem f_108_70 : rfI 108 70 = some (.aload_n 1, (0, 0, 0, 0)) := by decide +kernel
theorem f_108_71 : rfI 108 71 = some (.getfield 31, (10, 6, 0, 0)) := by decide +kernel
theorem f_108_74 : rfI 108 74 = some (.putfield 31, (10, 6, 0, 0)) := by decide +kernel
theorem f_108_77 : rfI 108 77 = some (.aload_n 0, (0, 0, 0, 0)) := by decide +kernel
theorem f_108_78 : rfI 108 78 = some (.aload_n 1, (0, 0, 0, 0)) := by decide +kernel
theorem f_108_79 : rfI 108 79 = some (.getfield 34, (10, 7, 0, 0)) := by decide +kernel
theorem f_108_82 : rfI 108 82 = some (.putfield 34, (10, 7, 0, 0)) := by decide +kernel
theorem f_108_85 : rfI 108 85 = some (.return_, (0, 0, 0, 0)) := by decide +kernel
theorem f_109_0 : rfI 109 0 = some (.iload_n 1, (0, 0, 0, 0)) := by decide +kernel
theorem f_109_1 : rfI 109 1 = some (.invokestatic 43, (177, 1, 10, 0)) := by decide +kernel
theorem f_109_4 : rfI 109 4 = some (.ifCond .eq 18, (0, 0, 0, 0)) := by decide +kernel
theorem f_109_7 : rfI 109 7 = some (.aload_n 0, (0, 0, 0, 0)) := by decide +kernel
theorem f_109_8 : rfI 109 8 = some (.getfield 21, (10, 3, 0, 0)) := by decide +kernel
theorem f_109_11 : rfI 109 11 = some (.iconst 1, (0, 0, 0, 0)) := by decide +kernel
theorem f_109_12 : rfI 109 12 = some (.iload_n 1, (0, 0, 0, 0)) := by decide +kernel
theorem f_109_13 : rfI 109 13 = some (.ishl, (0, 0, 0, 0)) := by decide +kernel
theorem f_109_14 : rfI 109 14 = some (.iand, (0, 0, 0, 0)) := by decide +kernel
theorem f_109_15 : rfI 109 15 = some (.ifCond .eq 7, (0, 0, 0, 0)) := by decide +kernel
theorem f_109_18 : rfI 109 18 = some (.iconst 1, (0, 0, 0, 0)) := by decide +kernel
theorem f_109_19 : rfI 109 19 = some (.goto 4, (0, 0, 0, 0)) := by decide +kernel
theorem f_109_22 : rfI 109 22 = some (.iconst 0, (0, 0, 0, 0)) := by decide +kernel
theorem f_109_23 : rfI 109 23 = some (.ireturn, (0, 0, 0, 0)) := by decide +kernel
theorem f_110_0 : rfI 110 0 = some (.iload_n 1, (0, 0, 0, 0)) := by decide +kernel
theorem f_110_1 : rfI 110 1 = some (.invokestatic 43, (177, 1, 10, 0)) := by decide +kernel
theorem f_110_4 : rfI 110 4 = some (.ifCond .eq 18, (0, 0, 0, 0)) := by decide +kernel
theorem f_110_7 : rfI 110 7 = some (.aload_n 0, (0, 0, 0, 0)) := by decide +kernel
theorem f_110_8 : rfI 110 8 = some (.getfield 25, (10, 4, 0, 0)) := by decide +kernel
theorem f_110_11 : rfI 110 11 = some (.iconst 1, (0, 0, 0, 0)) := by decide +kernel
theorem f_110_12 : rfI 110 12 = some (.iload_n 1, (0, 0, 0, 0)) := by decide +kernel
theorem f_110_13 : rfI 110 13 = some (.ishl, (0, 0, 0, 0)) := by decide +kernel
theorem f_110_14 : rfI 110 14 = some (.iand, (0, 0, 0, 0)) := by decide +kernel
theorem f_110_15 : rfI 110 15 = some (.ifCond .eq 7, (0, 0, 0, 0)) := by decide +kernel
theorem f_110_18 : rfI 110 18 = some (.iconst 1, (0, 0, 0, 0)) := by decide +kernel
theorem f_110_19 : rfI 110 19 = some (.goto 4, (0, 0, 0, 0)) := by decide +kernel
theorem f_110_22 : rfI 110 22 = some (.iconst 0, (0, 0, 0, 0)) := by decide +kernel
theorem f_110_23 : rfI 110 23 = some (.ireturn, (0, 0, 0, 0)) := by decide +kernel
theorem f_111_0 : rfI 111 0 = some (.iload_n 1, (0, 0, 0, 0)) := by decide +kernel
theorem f_111_1 : rfI 111 1 = some (.iload_n 2, (0, 0, 0, 0)) := by decide +kernel
theorem f_111_2 : rfI 111 2 = some (.if_icmp .eq 23, (0, 0, 0, 0)) := by decide +kernel
theorem f_111_5 : rfI 111 5 = some (.aload_n 0, (0, 0, 0, 0)) := by decide +kernel
theorem f_111_6 : rfI 111 6 = some (.iload_n 1, (0, 0, 0, 0)) := by decide +kernel
theorem f_111_7 : rfI 111 7 = some (.invokevirtual 47, (109, 2, 11, 0)) := by decide +kernel
theorem f_111_10 : rfI 111 10 = some (.ifCond .eq 15, (0, 0, 0, 0)) := by decide +kernel
theorem f_111_13 : rfI 111 13 = some (.aload_n 0, (0, 0, 0, 0)) := by decide +kernel
theorem f_111_14 : rfI 111 14 = some (.iload_n 2, (0, 0, 0, 0)) := by decide +kernel
theorem f_111_15 : rfI 111 15 = some (.invokevirtual 47, (109, 2, 11, 0)) := by decide +kernel
theorem f_111_18 : rfI 111 18 = some (.ifCond .eq 7, (0, 0, 0, 0)) := by decide +kernel
theorem f_111_21 : rfI 111 21 = some (.iconst 1, (0, 0, 0, 0)) := by decide +kernel
theorem f_111_22 : rfI 111 22 = some (.goto 4, (0, 0, 0, 0)) := by decide +kernel
theorem f_111_25 : rfI 111 25 = some (.iconst 0, (0, 0, 0, 0)) := by decide +kernel
theorem f_111_26 : rfI 111 26 = some (.ireturn, (0, 0, 0, 0)) := by decide +kernel
theorem f_112_0 : rfI 112 0 = some (.iload_n 1, (0, 0, 0, 0)) := by decide +kernel
theorem f_112_1 : rfI 112 1 = some (.iload_n 2, (0, 0, 0, 0)) := by decide +kernel
theorem f_112_2 : rfI 112 2 = some (.if_icmp .eq 23, (0, 0, 0, 0)) := by decide +kernel
theorem f_112_5 : rfI 112 5 = some (.aload_n 0, (0, 0, 0, 0)) := by decide +kernel
theorem f_112_6 : rfI 112 6 = some (.iload_n 1, (0, 0, 0, 0)) := by decide +kernel
theorem f_112_7 : rfI 112 7 = some (.invokevirtual 50, (110, 2, 11, 0)) := by decide +kernel
theorem f_112_10 : rfI 112 10 = some (.ifCond .eq 15, (0, 0, 0, 0)) := by decide +kernel
theorem f_112_13 : rfI 112 13 = some (.aload_n 0, (0, 0, 0, 0)) := by decide +kernel
theorem f_112_14 : rfI 112 14 = some (.iload_n 2, (0, 0, 0, 0)) := by decide +kernel
theorem f_112_15 : rfI 112 15 = some (.invokevirtual 50, (110, 2, 11, 0)) := by decide +kernel
theorem f_112_18 : rfI 112 18 = some (.ifCond .eq 7, (0, 0, 0, 0)) := by decide +kernel
theorem f_112_21 : rfI 112 21 = some (.iconst 1, (0, 0, 0, 0)) := by decide +kernel
theorem f_112_22 : rfI 112 22 = some (.goto 4, (0, 0, 0, 0)) := by decide +kernel
theorem f_112_25 : rfI 112 25 = some (.iconst 0, (0, 0, 0, 0)) := by decide +kernel
theorem f_112_26 : rfI 112 26 = some (.ireturn, (0, 0, 0, 0)) := by decide +kernel
theorem f_113_0 : rfI 113 0 = some (.iload_n 1, (0, 0, 0, 0)) := by decide +kernel
theorem f_113_1 : rfI 113 1 = some (.invokestatic 43, (177, 1, 10, 0)) := by decide +kernel
theorem f_113_4 : rfI 113 4 = some (.ifCond .eq 34, (0, 0, 0, 0)) := by decide +kernel
theorem f_113_7 : rfI 113 7 = some (.aload_n 0, (0, 0, 0, 0)) := by decide +kernel
theorem f_113_8 : rfI 113 8 = some (.dup, (0, 0, 0, 0)) := by decide +kernel
theorem f_113_9 : rfI 113 9 = some (.getfield 21, (10, 3, 0, 0)) := by decide +kernel
theorem f_113_12 : rfI 113 12 = some (.iconst 1, (0, 0, 0, 0)) := by decide +kernel
theorem f_113_13 : rfI 113 13 = some (.iload_n 1, (0, 0, 0, 0)) := by decide +kernel
theorem f_113_14 : rfI 113 14 = some (.ishl, (0, 0, 0, 0)) := by decide +kernel
theorem f_113_15 : rfI 113 15 = some (.ior, (0, 0, 0, 0)) := by decide +kernel
theorem f_113_16 : rfI 113 16 = some (.putfield 21, (10, 3, 0, 0)) := by decide +kernel
theorem f_113_19 : rfI 113 19 = some (.aload_n 0, (0, 0, 0, 0)) := by decide +kernel
theorem f_113_20 : rfI 113 20 = some (.dup, (0, 0, 0, 0)) := by decide +kernel
theorem f_113_21 : rfI 113 21 = some (.getfield 25, (10, 4, 0, 0)) := by decide +kernel
theorem f_113_24 : rfI 113 24 = some (.iconst 1, (0, 0, 0, 0)) := by decide +kernel
theorem f_113_25 : rfI 113 25 = some (.iload_n 1, (0, 0, 0, 0)) := by decide +kernel
theorem f_113_26 : rfI 113 26 = some (.ishl, (0, 0, 0, 0)) := by decide +kernel
theorem f_113_27 : rfI 113 27 = some (.ior, (0, 0, 0, 0)) := by decide +kernel
theorem f_113_28 : rfI 113 28 = some (.putfield 25, (10, 4, 0, 0)) := by decide +kernel
theorem f_113_31 : rfI 113 31 = some (.aload_n 0, (0, 0, 0, 0)) := by decide +kernel
theorem f_113_32 : rfI 113 32 = some (.getfield 9, (10, 0, 2, 0)) := by decide +kernel
theorem f_113_35 : rfI 113 35 = some (.iload_n 1, (0, 0, 0, 0)) := by decide +kernel
theorem f_113_36 : rfI 113 36 = some (.iload_n 2, (0, 0, 0, 0)) := by decide +kernel
theorem f_113_37 : rfI 113 37 = some (.iastore, (0, 0, 0, 0)) := by decide +kernel
theorem f_113_38 : rfI 113 38 = some (.return_, (0, 0, 0, 0)) := by decide +kernel
theorem f_114_0 : rfI 114 0 = some (.iload_n 1, (0, 0, 0, 0)) := by decide +kernel
theorem f_114_1 : rfI 114 1 = some (.invokestatic 43, (177, 1, 10, 0)) := by decide +kernel
theorem f_114_4 : rfI 114 4 = some (.ifCond .eq 12, (0, 0, 0, 0)) := by decide +kernel
theorem f_114_7 : rfI 114 7 = some (.aload_n 0, (0, 0, 0, 0)) := by decide +kernel
theorem f_114_8 : rfI 114 8 = some (.getfield 9, (10, 0, 2, 0)) := by decide +kernel
theorem f_114_11 : rfI 114 11 = some (.iload_n 1, (0, 0, 0, 0)) := by decide +kernel
theorem f_114_12 : rfI 114 12 = some (.iaload, (0, 0, 0, 0)) := by decide +kernel
theorem f_114_13 : rfI 114 13 = some (.goto 4, (0, 0, 0, 0)) := by decide +kernel
theorem f_114_16 : rfI 114 16 = some (.iconst 0, (0, 0, 0, 0)) := by decide +kernel
theorem f_114_17 : rfI 114 17 = some (.ireturn, (0, 0, 0, 0)) := by decide +kernel
theorem f_115_0 : rfI 115 0 = some (.iload_n 1, (0, 0, 0, 0)) := by decide +kernel
theorem f_115_1 : rfI 115 1 = some (.invokestatic 43, (177, 1, 10, 0)) := by decide +kernel
theorem f_115_4 : rfI 115 4 = some (.ifCond .eq 10, (0, 0, 0, 0)) := by decide +kernel
theorem f_115_7 : rfI 115 7 = some (.aload_n 0, (0, 0, 0, 0)) := by decide +kernel
theorem f_115_8 : rfI 115 8 = some (.getfield 9, (10, 0, 2, 0)) := by decide +kernel
theorem f_115_11 : rfI 115 11 = some (.iload_n 1, (0, 0, 0, 0)) := by decide +kernel
theorem f_115_12 : rfI 115 12 = some (.iload_n 2, (0, 0, 0, 0)) := by decide +kernel
theorem f_115_13 : rfI 115 13 = some (.iastore, (0, 0, 0, 0)) := by decide +kernel
theorem f_115_14 : rfI 115 14 = some (.return_, (0, 0, 0, 0)) := by decide +kernel
theorem f_116_0 : rfI 116 0 = some (.iload_n 1, (0, 0, 0, 0)) := by decide +kernel
theorem f_116_1 : rfI 116 1 = some (.invokestatic 43, (177, 1, 10, 0)) := by decide +kernel
theorem f_116_4 : rfI 116 4 = some (.ifCond .eq 24, (0, 0, 0, 0)) := by decide +kernel
theorem f_116_7 : rfI 116 7 = some (.iload_n 2, (0, 0, 0, 0)) := by decide +kernel
theorem f_116_8 : rfI 116 8 = some (.invokestatic 43, (177, 1, 10, 0)) := by decide +kernel
theorem f_116_11 : rfI 116 11 = some (.ifCond .eq 17, (0, 0, 0, 0)) := by decide +kernel
theorem f_116_14 : rfI 116 14 = some (.aload_n 0, (0, 0, 0, 0)) := by decide +kernel
theorem f_116_15 : rfI 116 15 = some (.getfield 15, (10, 1, 2, 0)) := by decide +kernel
theorem f_116_18 : rfI 116 18 = some (.iload_n 1, (0, 0, 0, 0)) := by decide +kernel
theorem f_116_19 : rfI 116 19 = some (.bipush 8, (0, 0, 0, 0)) := by decide +kernel
theorem f_116_21 : rfI 116 21 = some (.imul, (0, 0, 0, 0)) := by decide +kernel
theorem f_116_22 : rfI 116 22 = some (.iload_n 2, (0, 0, 0, 0)) := by decide +kernel
theorem f_116_23 : rfI 116 23 = some (.iadd, (0, 0, 0, 0)) := by decide +kernel
theorem f_116_24 : rfI 116 24 = some (.iaload, (0, 0, 0, 0)) := by decide +kernel
theorem f_116_25 : rfI 116 25 = some (.goto 4, (0, 0, 0, 0)) := by decide +kernel
theorem f_116_28 : rfI 116 28 = some (.iconst 0, (0, 0, 0, 0)) := by decide +kernel
theorem f_116_29 : rfI 116 29 = some (.ireturn, (0, 0, 0, 0)) := by decide +kernel
theorem f_117_0 : rfI 117 0 = some (.iload_n 1, (0, 0, 0, 0)) := by decide +kernel
theorem f_117_1 : rfI 117 1 = some (.invokestatic 43, (177, 1, 10, 0)) := by decide +kernel
theorem f_117_4 : rfI 117 4 = some (.ifCond .eq 22, (0, 0, 0, 0)) := by decide +kernel
theorem f_117_7 : rfI 117 7 = some (.iload_n 2, (0, 0, 0, 0)) := by decide +kernel
theorem f_117_8 : rfI 117 8 = some (.invokestatic 43, (177, 1, 10, 0)) := by decide +kernel
theorem f_117_11 : rfI 117 11 = some (.ifCond .eq 15, (0, 0, 0, 0)) := by decide +kernel
theorem f_117_14 : rfI 117 14 = some (.aload_n 0, (0, 0, 0, 0)) := by decide +kernel
theorem f_117_15 : rfI 117 15 = some (.getfield 15, (10, 1, 2, 0)) := by decide +kernel
theorem f_117_18 : rfI 117 18 = some (.iload_n 1, (0, 0, 0, 0)) := by decide +kernel
theorem f_117_19 : rfI 117 19 = some (.bipush 8, (0, 0, 0, 0)) := by decide +kernel
theorem f_117_21 : rfI 117 21 = some (.imul, (0, 0, 0, 0)) := by decide +kernel
theorem f_117_22 : rfI 117 22 = some (.iload_n 2, (0, 0, 0, 0)) := by decide +kernel
theorem f_117_23 : rfI 117 23 = some (.iadd, (0, 0, 0, 0)) := by decide +kernel
theorem f_117_24 : rfI 117 24 = some (.iload_n 3, (0, 0, 0, 0)) := by decide +kernel
theorem f_117_25 : rfI 117 25 = some (.iastore, (0, 0, 0, 0)) := by decide +kernel
theorem f_117_26 : rfI 117 26 = some (.return_, (0, 0, 0, 0)) := by decide +kernel
theorem f_118_0 : rfI 118 0 = some (.iload_n 1, (0, 0, 0, 0)) := by decide +kernel
theorem f_118_1 : rfI 118 1 = some (.invokestatic 43, (177, 1, 10, 0)) := by decide +kernel
theorem f_118_4 : rfI 118 4 = some (.ifCond .eq 24, (0, 0, 0, 0)) := by decide +kernel
theorem f_118_7 : rfI 118 7 = some (.iload_n 2, (0, 0, 0, 0)) := by decide +kernel
theorem f_118_8 : rfI 118 8 = some (.invokestatic 43, (177, 1, 10, 0)) := by decide +kernel
theorem f_118_11 : rfI 118 11 = some (.ifCond .eq 17, (0, 0, 0, 0)) := by decide +kernel
theorem f_118_14 : rfI 118 14 = some (.aload_n 0, (0, 0, 0, 0)) := by decide +kernel
theorem f_118_15 : rfI 118 15 = some (.getfield 18, (10, 2, 2, 0)) := by decide +kernel
theorem f_118_18 : rfI 118 18 = some (.iload_n 1, (0, 0, 0, 0)) := by decide +kernel
theorem f_118_19 : rfI 118 19 = some (.bipush 8, (0, 0, 0, 0)) := by decide +kernel
theorem f_118_21 : rfI 118 21 = some (.imul, (0, 0, 0, 0)) := by decide +kernel
theorem f_118_22 : rfI 118 22 = some (.iload_n 2, (0, 0, 0, 0)) := by decide +kernel
theorem f_118_23 : rfI 118 23 = some (.iadd, (0, 0, 0, 0)) := by decide +kernel
theorem f_118_24 : rfI 118 24 = some (.iaload, (0, 0, 0, 0)) := by decide +kernel
theorem f_118_25 : rfI 118 25 = some (.goto 4, (0, 0, 0, 0)) := by decide +kernel
theorem f_118_28 : rfI 118 28 = some (.iconst 0, (0, 0, 0, 0)) := by decide +kernel
theorem f_118_29 : rfI 118 29 = some (.ireturn, (0, 0, 0, 0)) := by decide +kernel
theorem f_119_0 : rfI 119 0 = some (.iload_n 1, (0, 0, 0, 0)) := by decide +kernel
theorem f_119_1 : rfI 119 1 = some (.invokestatic 43, (177, 1, 10, 0)) := by decide +kernel
theorem f_119_4 : rfI 119 4 = some (.ifCond .eq 22, (0, 0, 0, 0)) := by decide +kernel
theorem f_119_7 : rfI 119 7 = some (.iload_n 2, (0, 0, 0, 0)) := by decide +kernel
theorem f_119_8 : rfI 119 8 = some (.invokestatic 43, (177, 1, 10, 0)) := by decide +kernel
theorem f_119_11 : rfI 119 11 = some (.ifCond .eq 15, (0, 0, 0, 0)) := by decide +kernel
theorem f_119_14 : rfI 119 14 = some (.aload_n 0, (0, 0, 0, 0)) := by decide +kernel
theorem f_119_15 : rfI 119 15 = some (.getfield 18, (10, 2, 2, 0)) := by decide +kernel
theorem f_119_18 : rfI 119 18 = some (.iload_n 1, (0, 0, 0, 0)) := by decide +kernel
theorem f_119_19 : rfI 119 19 = some (.bipush 8, (0, 0, 0, 0)) := by decide +kernel
theorem f_119_21 : rfI 119 21 = some (.imul, (0, 0, 0, 0)) := by decide +kernel
theorem f_119_22 : rfI 119 22 = some (.iload_n 2, (0, 0, 0, 0)) := by decide +kernel
theorem f_119_23 : rfI 119 23 = some (.iadd, (0, 0, 0, 0)) := by decide +kernel
theorem f_119_24 : rfI 119 24 = some (.iload_n 3, (0, 0, 0, 0)) := by decide +kernel
theorem f_119_25 : rfI 119 25 = some (.iastore, (0, 0, 0, 0)) := by decide +kernel
theorem f_119_26 : rfI 119 26 = some (.return_, (0, 0, 0, 0)) := by decide +kernel
theorem f_120_0 : rfI 120 0 = some (.iconst 0, (0, 0, 0, 0)) := by decide +kernel
theorem f_120_1 : rfI 120 1 = some (.istore_n 3, (0, 0, 0, 0)) := by decide +kernel
theorem f_120_2 : rfI 120 2 = some (.iconst 0, (0, 0, 0, 0)) := by decide +kernel
theorem f_120_3 : rfI 120 3 = some (.istore 4, (0, 0, 0, 0)) := by decide +kernel
theorem f_120_5 : rfI 120 5 = some (.iload 4, (0, 0, 0, 0)) := by decide +kernel
theorem f_120_7 : rfI 120 7 = some (.bipush 8, (0, 0, 0, 0)) := by decide +kernel
theorem f_120_9 : rfI 120 9 = some (.if_icmp .ge 25, (0, 0, 0, 0)) := by decide +kernel
theorem f_120_12 : rfI 120 12 = some (.iload 4, (0, 0, 0, 0)) := by decide +kernel
theorem f_120_14 : rfI 120 14 = some (.iload_n 2, (0, 0, 0, 0)) := by decide +kernel
theorem f_120_15 : rfI 120 15 = some (.if_icmp .eq 13, (0, 0, 0, 0)) := by decide +kernel
theorem f_120_18 : rfI 120 18 = some (.iload_n 3, (0, 0, 0, 0)) := by decide +kernel
theorem f_120_19 : rfI 120 19 = some (.aload_n 0, (0, 0, 0, 0)) := by decide +kernel
theorem f_120_20 : rfI 120 20 = some (.iload 4, (0, 0, 0, 0)) := by decide +kernel
theorem f_120_22 : rfI 120 22 = some (.iload_n 1, (0, 0, 0, 0)) := by decide +kernel
theorem f_120_23 : rfI 120 23 = some (.invokevirtual 53, (118, 3, 11, 0)) := by decide +kernel
theorem f_120_26 : rfI 120 26 = some (.iadd, (0, 0, 0, 0)) := by decide +kernel
theorem f_120_27 : rfI 120 27 = some (.istore_n 3, (0, 0, 0, 0)) := by decide +kernel
theorem f_120_28 : rfI 120 28 = some (.iinc 4 1, (0, 0, 0, 0)) := by decide +kernel
theorem f_120_31 : rfI 120 31 = some (.goto (-26), (0, 0, 0, 0)) := by decide +kernel
theorem f_120_34 : rfI 120 34 = some (.iload_n 3, (0, 0, 0, 0)) := by decide +kernel
theorem f_120_35 : rfI 120 35 = some (.ireturn, (0, 0, 0, 0)) := by decide +kernel
theorem f_121_0 : rfI 121 0 = some (.iconst 0, (0, 0, 0, 0)) := by decide +kernel
theorem f_121_1 : rfI 121 1 = some (.istore_n 2, (0, 0, 0, 0)) := by decide +kernel
theorem f_121_2 : rfI 121 2 = some (.iload_n 1, (0, 0, 0, 0)) := by decide +kernel
theorem f_121_3 : rfI 121 3 = some (.ifCond .lt 37, (0, 0, 0, 0)) := by decide +kernel
theorem f_121_6 : rfI 121 6 = some (.iload_n 1, (0, 0, 0, 0)) := by decide +kernel
theorem f_121_7 : rfI 121 7 = some (.bipush 8, (0, 0, 0, 0)) := by decide +kernel
theorem f_121_9 : rfI 121 9 = some (.if_icmp .ge 31, (0, 0, 0, 0)) := by decide +kernel
theorem f_121_12 : rfI 121 12 = some (.iconst 0, (0, 0, 0, 0)) := by decide +kernel
theorem f_121_13 : rfI 121 13 = some (.istore_n 3, (0, 0, 0, 0)) := by decide +kernel
theorem f_121_14 : rfI 121 14 = some (.iload_n 3, (0, 0, 0, 0)) := by decide +kernel
theorem f_121_15 : rfI 121 15 = some (.bipush 8, (0, 0, 0, 0)) := by decide +kernel
theorem f_121_17 : rfI 121 17 = some (.if_icmp .ge 23, (0, 0, 0, 0)) := by decide +kernel
theorem f_121_20 : rfI 121 20 = some (.iload_n 2, (0, 0, 0, 0)) := by decide +kernel
theorem f_121_21 : rfI 121 21 = some (.aload_n 0, (0, 0, 0, 0)) := by decide +kernel
theorem f_121_22 : rfI 121 22 = some (.getfield 15, (10, 1, 2, 0)) := by decide +kernel
theorem f_121_25 : rfI 121 25 = some (.iload_n 1, (0, 0, 0, 0)) := by decide +kernel
theorem f_121_26 : rfI 121 26 = some (.bipush 8, (0, 0, 0, 0)) := by decide +kernel
theorem f_121_28 : rfI 121 28 = some (.imul, (0, 0, 0, 0)) := by decide +kernel
theorem f_121_29 : rfI 121 29 = some (.iload_n 3, (0, 0, 0, 0)) := by decide +kernel
theorem f_121_30 : rfI 121 30 = some (.iadd, (0, 0, 0, 0)) := by decide +kernel
theorem f_121_31 : rfI 121 31 = some (.iaload, (0, 0, 0, 0)) := by decide +kernel
theorem f_121_32 : rfI 121 32 = some (.iadd, (0, 0, 0, 0)) := by decide +kernel
theorem f_121_33 : rfI 121 33 = some (.istore_n 2, (0, 0, 0, 0)) := by decide +kernel
theorem f_121_34 : rfI 121 34 = some (.iinc 3 1, (0, 0, 0, 0)) := by decide +kernel
theorem f_121_37 : rfI 121 37 = some (.goto (-23), (0, 0, 0, 0)) := by decide +kernel
theorem f_121_40 : rfI 121 40 = some (.iload_n 2, (0, 0, 0, 0)) := by decide +kernel
theorem f_121_41 : rfI 121 41 = some (.ireturn, (0, 0, 0, 0)) := by decide +kernel
theorem f_122_0 : rfI 122 0 = some (.iconst 0, (0, 0, 0, 0)) := by decide +kernel
theorem f_122_1 : rfI 122 1 = some (.istore_n 2, (0, 0, 0, 0)) := by decide +kernel
theorem f_122_2 : rfI 122 2 = some (.iload_n 1, (0, 0, 0, 0)) := by decide +kernel
theorem f_122_3 : rfI 122 3 = some (.ifCond .lt 37, (0, 0, 0, 0)) := by decide +kernel
theorem f_122_6 : rfI 122 6 = some (.iload_n 1, (0, 0, 0, 0)) := by decide +kernel
theorem f_122_7 : rfI 122 7 = some (.bipush 8, (0, 0, 0, 0)) := by decide +kernel
theorem f_122_9 : rfI 122 9 = some (.if_icmp .ge 31, (0, 0, 0, 0)) := by decide +kernel
theorem f_122_12 : rfI 122 12 = some (.iconst 0, (0, 0, 0, 0)) := by decide +kernel
theorem f_122_13 : rfI 122 13 = some (.istore_n 3, (0, 0, 0, 0)) := by decide +kernel
theorem f_122_14 : rfI 122 14 = some (.iload_n 3, (0, 0, 0, 0)) := by decide +kernel
theorem f_122_15 : rfI 122 15 = some (.bipush 8, (0, 0, 0, 0)) := by decide +kernel
theorem f_122_17 : rfI 122 17 = some (.if_icmp .ge 23, (0, 0, 0, 0)) := by decide +kernel
theorem f_122_20 : rfI 122 20 = some (.iload_n 2, (0, 0, 0, 0)) := by decide +kernel
theorem f_122_21 : rfI 122 21 = some (.aload_n 0, (0, 0, 0, 0)) := by decide +kernel
theorem f_122_22 : rfI 122 22 = some (.getfield 15, (10, 1, 2, 0)) := by decide +kernel
theorem f_122_25 : rfI 122 25 = some (.iload_n 3, (0, 0, 0, 0)) := by decide +kernel
theorem f_122_26 : rfI 122 26 = some (.bipush 8, (0, 0, 0, 0)) := by decide +kernel
theorem f_122_28 : rfI 122 28 = some (.imul, (0, 0, 0, 0)) := by decide +kernel
theorem f_122_29 : rfI 122 29 = some (.iload_n 1, (0, 0, 0, 0)) := by decide +kernel
theorem f_122_30 : rfI 122 30 = some (.iadd, (0, 0, 0, 0)) := by decide +kernel
theorem f_122_31 : rfI 122 31 = some (.iaload, (0, 0, 0, 0)) := by decide +kernel
theorem f_122_32 : rfI 122 32 = some (.iadd, (0, 0, 0, 0)) := by decide +kernel
theorem f_122_33 : rfI 122 33 = some (.istore_n 2, (0, 0, 0, 0)) := by decide +kernel
theorem f_122_34 : rfI 122 34 = some (.iinc 3 1, (0, 0, 0, 0)) := by decide +kernel
theorem f_122_37 : rfI 122 37 = some (.goto (-23), (0, 0, 0, 0)) := by decide +kernel
theorem f_122_40 : rfI 122 40 = some (.iload_n 2, (0, 0, 0, 0)) := by decide +kernel
theorem f_122_41 : rfI 122 41 = some (.ireturn, (0, 0, 0, 0)) := by decide +kernel
theorem f_123_0 : rfI 123 0 = some (.aload_n 0, (0, 0, 0, 0)) := by decide +kernel
theorem f_123_1 : rfI 123 1 = some (.iload_n 1, (0, 0, 0, 0)) := by decide +kernel
theorem f_123_2 : rfI 123 2 = some (.invokevirtual 57, (114, 2, 11, 0)) := by decide +kernel
theorem f_123_5 : rfI 123 5 = some (.aload_n 0, (0, 0, 0, 0)) := by decide +kernel
theorem f_123_6 : rfI 123 6 = some (.iload_n 1, (0, 0, 0, 0)) := by decide +kernel
theorem f_123_7 : rfI 123 7 = some (.invokevirtual 61, (122, 2, 11, 0)) := by decide +kernel
theorem f_123_10 : rfI 123 10 = some (.iadd, (0, 0, 0, 0)) := by decide +kernel
theorem f_123_11 : rfI 123 11 = some (.aload_n 0, (0, 0, 0, 0)) := by decide +kernel
theorem f_123_12 : rfI 123 12 = some (.iload_n 1, (0, 0, 0, 0)) := by decide +kernel
theorem f_123_13 : rfI 123 13 = some (.invokevirtual 64, (121, 2, 11, 0)) := by decide +kernel
theorem f_123_16 : rfI 123 16 = some (.isub, (0, 0, 0, 0)) := by decide +kernel
theorem f_123_17 : rfI 123 17 = some (.ireturn, (0, 0, 0, 0)) := by decide +kernel
theorem f_124_0 : rfI 124 0 = some (.iconst 0, (0, 0, 0, 0)) := by decide +kernel
theorem f_124_1 : rfI 124 1 = some (.istore_n 1, (0, 0, 0, 0)) := by decide +kernel
theorem f_124_2 : rfI 124 2 = some (.iconst 0, (0, 0, 0, 0)) := by decide +kernel
theorem f_124_3 : rfI 124 3 = some (.istore_n 2, (0, 0, 0, 0)) := by decide +kernel
theorem f_124_4 : rfI 124 4 = some (.iload_n 2, (0, 0, 0, 0)) := by decide +kernel
theorem f_124_5 : rfI 124 5 = some (.bipush 8, (0, 0, 0, 0)) := by decide +kernel
theorem f_124_7 : rfI 124 7 = some (.if_icmp .ge 17, (0, 0, 0, 0)) := by decide +kernel
theorem f_124_10 : rfI 124 10 = some (.iload_n 1, (0, 0, 0, 0)) := by decide +kernel
theorem f_124_11 : rfI 124 11 = some (.aload_n 0, (0, 0, 0, 0)) := by decide +kernel
theorem f_124_12 : rfI 124 12 = some (.iload_n 2, (0, 0, 0, 0)) := by decide +kernel
theorem f_124_13 : rfI 124 13 = some (.invokevirtual 57, (114, 2, 11, 0)) := by decide +kernel
theorem f_124_16 : rfI 124 16 = some (.iadd, (0, 0, 0, 0)) := by decide +kernel
theorem f_124_17 : rfI 124 17 = some (.istore_n 1, (0, 0, 0, 0)) := by decide +kernel
theorem f_124_18 : rfI 124 18 = some (.iinc 2 1, (0, 0, 0, 0)) := by decide +kernel
theorem f_124_21 : rfI 124 21 = some (.goto (-17), (0, 0, 0, 0)) := by decide +kernel
theorem f_124_24 : rfI 124 24 = some (.iload_n 1, (0, 0, 0, 0)) := by decide +kernel
theorem f_124_25 : rfI 124 25 = some (.ireturn, (0, 0, 0, 0)) := by decide +kernel
theorem f_125_0 : rfI 125 0 = some (.iconst 0, (0, 0, 0, 0)) := by decide +kernel
theorem f_125_1 : rfI 125 1 = some (.istore_n 1, (0, 0, 0, 0)) := by decide +kernel
theorem f_125_2 : rfI 125 2 = some (.iconst 0, (0, 0, 0, 0)) := by decide +kernel
theorem f_125_3 : rfI 125 3 = some (.istore_n 2, (0, 0, 0, 0)) := by decide +kernel
theorem f_125_4 : rfI 125 4 = some (.iload_n 2, (0, 0, 0, 0)) := by decide +kernel
theorem f_125_5 : rfI 125 5 = some (.bipush 8, (0, 0, 0, 0)) := by decide +kernel
theorem f_125_7 : rfI 125 7 = some (.if_icmp .ge 17, (0, 0, 0, 0)) := by decide +kernel
theorem f_125_10 : rfI 125 10 = some (.iload_n 1, (0, 0, 0, 0)) := by decide +kernel
theorem f_125_11 : rfI 125 11 = some (.aload_n 0, (0, 0, 0, 0)) := by decide +kernel
theorem f_125_12 : rfI 125 12 = some (.iload_n 2, (0, 0, 0, 0)) := by decide +kernel
theorem f_125_13 : rfI 125 13 = some (.invokevirtual 64, (121, 2, 11, 0)) := by decide +kernel
theorem f_125_16 : rfI 125 16 = some (.iadd, (0, 0, 0, 0)) := by decide +kernel
theorem f_125_17 : rfI 125 17 = some (.istore_n 1, (0, 0, 0, 0)) := by decide +kernel
theorem f_125_18 : rfI 125 18 = some (.iinc 2 1, (0, 0, 0, 0)) := by decide +kernel
theorem f_125_21 : rfI 125 21 = some (.goto (-17), (0, 0, 0, 0)) := by decide +kernel
theorem f_125_24 : rfI 125 24 = some (.iload_n 1, (0, 0, 0, 0)) := by decide +kernel
theorem f_125_25 : rfI 125 25 = some (.ireturn, (0, 0, 0, 0)) := by decide +kernel
theorem f_126_0 : rfI 126 0 = some (.iconst 0, (0, 0, 0, 0)) := by decide +kernel
theorem f_126_1 : rfI 126 1 = some (.istore_n 1, (0, 0, 0, 0)) := by decide +kernel
theorem f_126_2 : rfI 126 2 = some (.iconst 0, (0, 0, 0, 0)) := by decide +kernel
theorem f_126_3 : rfI 126 3 = some (.istore_n 2, (0, 0, 0, 0)) := by decide +kernel
theorem f_126_4 : rfI 126 4 = some (.iload_n 2, (0, 0, 0, 0)) := by decide +kernel
theorem f_126_5 : rfI 126 5 = some (.bipush 8, (0, 0, 0, 0)) := by decide +kernel
theorem f_126_7 : rfI 126 7 = some (.if_icmp .ge 45, (0, 0, 0, 0)) := by decide +kernel
theorem f_126_10 : rfI 126 10 = some (.iload_n 2, (0, 0, 0, 0)) := by decide +kernel
theorem f_126_11 : rfI 126 11 = some (.iconst 1, (0, 0, 0, 0)) := by decide +kernel
theorem f_126_12 : rfI 126 12 = some (.iadd, (0, 0, 0, 0)) := by decide +kernel
theorem f_126_13 : rfI 126 13 = some (.istore_n 3, (0, 0, 0, 0)) := by decide +kernel
theorem f_126_14 : rfI 126 14 = some (.iload_n 3, (0, 0, 0, 0)) := by decide +kernel
theorem f_126_15 : rfI 126 15 = some (.bipush 8, (0, 0, 0, 0)) := by decide +kernel
theorem f_126_17 : rfI 126 17 = some (.if_icmp .ge 29, (0, 0, 0, 0)) := by decide +kernel
theorem f_126_20 : rfI 126 20 = some (.iload_n 1, (0, 0, 0, 0)) := by decide +kernel
theorem f_126_21 : rfI 126 21 = some (.iconst 2, (0, 0, 0, 0)) := by decide +kernel
theorem f_126_22 : rfI 126 22 = some (.aload_n 0, (0, 0, 0, 0)) := by decide +kernel
theorem f_126_23 : rfI 126 23 = some (.iload_n 2, (0, 0, 0, 0)) := by decide +kernel
theorem f_126_24 : rfI 126 24 = some (.iload_n 3, (0, 0, 0, 0)) := by decide +kernel
theorem f_126_25 : rfI 126 25 = some (.invokevirtual 67, (116, 3, 11, 0)) := by decide +kernel
theorem f_126_28 : rfI 126 28 = some (.aload_n 0, (0, 0, 0, 0)) := by decide +kernel
theorem f_126_29 : rfI 126 29 = some (.iload_n 3, (0, 0, 0, 0)) := by decide +kernel
theorem f_126_30 : rfI 126 30 = some (.iload_n 2, (0, 0, 0, 0)) := by decide +kernel
theorem f_126_31 : rfI 126 31 = some (.invokevirtual 67, (116, 3, 11, 0)) := by decide +kernel
theorem f_126_34 : rfI 126 34 = some (.invokestatic 70, (1001, 2, 14, 0)) := by decide +kernel
theorem f_126_37 : rfI 126 37 = some (.imul, (0, 0, 0, 0)) := by decide +kernel
theorem f_126_38 : rfI 126 38 = some (.iadd, (0, 0, 0, 0)) := by decide +kernel
theorem f_126_39 : rfI 126 39 = some (.istore_n 1, (0, 0, 0, 0)) := by decide +kernel
theorem f_126_40 : rfI 126 40 = some (.iinc 3 1, (0, 0, 0, 0)) := by decide +kernel
theorem f_126_43 : rfI 126 43 = some (.goto (-29), (0, 0, 0, 0)) := by decide +kernel
theorem f_126_46 : rfI 126 46 = some (.iinc 2 1, (0, 0, 0, 0)) := by decide +kernel
theorem f_126_49 : rfI 126 49 = some (.goto (-45), (0, 0, 0, 0)) := by decide +kernel
theorem f_126_52 : rfI 126 52 = some (.iload_n 1, (0, 0, 0, 0)) := by decide +kernel
theorem f_126_53 : rfI 126 53 = some (.ireturn, (0, 0, 0, 0)) := by decide +kernel
theorem f_127_0 : rfI 127 0 = some (.iconst 1, (0, 0, 0, 0)) := by decide +kernel
theorem f_127_1 : rfI 127 1 = some (.iload_n 1, (0, 0, 0, 0)) := by decide +kernel
theorem f_127_2 : rfI 127 2 = some (.ishl, (0, 0, 0, 0)) := by decide +kernel
theorem f_127_3 : rfI 127 3 = some (.istore_n 2, (0, 0, 0, 0)) := by decide +kernel
theorem f_127_4 : rfI 127 4 = some (.iconst 0, (0, 0, 0, 0)) := by decide +kernel
theorem f_127_5 : rfI 127 5 = some (.istore_n 3, (0, 0, 0, 0)) := by decide +kernel
theorem f_127_6 : rfI 127 6 = some (.iload_n 3, (0, 0, 0, 0)) := by decide +kernel
theorem f_127_7 : rfI 127 7 = some (.bipush 8, (0, 0, 0, 0)) := by decide +kernel
theorem f_127_9 : rfI 127 9 = some (.if_icmp .ge 46, (0, 0, 0, 0)) := by decide +kernel
theorem f_127_12 : rfI 127 12 = some (.iconst 0, (0, 0, 0, 0)) := by decide +kernel
theorem f_127_13 : rfI 127 13 = some (.istore 4, (0, 0, 0, 0)) := by decide +kernel
theorem f_127_15 : rfI 127 15 = some (.iload 4, (0, 0, 0, 0)) := by decide +kernel
theorem f_127_17 : rfI 127 17 = some (.bipush 8, (0, 0, 0, 0)) := by decide +kernel
theorem f_127_19 : rfI 127 19 = some (.if_icmp .ge 30, (0, 0, 0, 0)) := by decide +kernel
theorem f_127_22 : rfI 127 22 = some (.iconst 2, (0, 0, 0, 0)) := by decide +kernel
theorem f_127_23 : rfI 127 23 = some (.aload_n 0, (0, 0, 0, 0)) := by decide +kernel
theorem f_127_24 : rfI 127 24 = some (.iload_n 2, (0, 0, 0, 0)) := by decide +kernel
theorem f_127_25 : rfI 127 25 = some (.iload 4, (0, 0, 0, 0)) := by decide +kernel
theorem f_127_27 : rfI 127 27 = some (.invokevirtual 75, (128, 3, 11, 0)) := by decide +kernel
theorem f_127_30 : rfI 127 30 = some (.imul, (0, 0, 0, 0)) := by decide +kernel
theorem f_127_31 : rfI 127 31 = some (.bipush 100, (0, 0, 0, 0)) := by decide +kernel
theorem f_127_33 : rfI 127 33 = some (.if_icmp .le 10, (0, 0, 0, 0)) := by decide +kernel
theorem f_127_36 : rfI 127 36 = some (.iload_n 2, (0, 0, 0, 0)) := by decide +kernel
theorem f_127_37 : rfI 127 37 = some (.iconst 1, (0, 0, 0, 0)) := by decide +kernel
theorem f_127_38 : rfI 127 38 = some (.iload 4, (0, 0, 0, 0)) := by decide +kernel
theorem f_127_40 : rfI 127 40 = some (.ishl, (0, 0, 0, 0)) := by decide +kernel
theorem f_127_41 : rfI 127 41 = some (.ior, (0, 0, 0, 0)) := by decide +kernel
theorem f_127_42 : rfI 127 42 = some (.istore_n 2, (0, 0, 0, 0)) := by decide +kernel
theorem f_127_43 : rfI 127 43 = some (.iinc 4 1, (0, 0, 0, 0)) := by decide +kernel
theorem f_127_46 : rfI 127 46 = some (.goto (-31), (0, 0, 0, 0)) := by decide +kernel
theorem f_127_49 : rfI 127 49 = some (.iinc 3 1, (0, 0, 0, 0)) := by decide +kernel
theorem f_127_52 : rfI 127 52 = some (.goto (-46), (0, 0, 0, 0)) := by decide +kernel
theorem f_127_55 : rfI 127 55 = some (.iload_n 2, (0, 0, 0, 0)) := by decide +kernel
theorem f_127_56 : rfI 127 56 = some (.iconst 1, (0, 0, 0, 0)) := by decide +kernel
theorem f_127_57 : rfI 127 57 = some (.iload_n 1, (0, 0, 0, 0)) := by decide +kernel
theorem f_127_58 : rfI 127 58 = some (.ishl, (0, 0, 0, 0)) := by decide +kernel
theorem f_127_59 : rfI 127 59 = some (.iconst (-1), (0, 0, 0, 0)) := by decide +kernel
theorem f_127_60 : rfI 127 60 = some (.ixor, (0, 0, 0, 0)) := by decide +kernel
theorem f_127_61 : rfI 127 61 = some (.iand, (0, 0, 0, 0)) := by decide +kernel
theorem f_127_62 : rfI 127 62 = some (.ireturn, (0, 0, 0, 0)) := by decide +kernel
theorem f_128_0 : rfI 128 0 = some (.iconst 0, (0, 0, 0, 0)) := by decide +kernel
theorem f_128_1 : rfI 128 1 = some (.istore_n 3, (0, 0, 0, 0)) := by decide +kernel
theorem f_128_2 : rfI 128 2 = some (.iconst 0, (0, 0, 0, 0)) := by decide +kernel
theorem f_128_3 : rfI 128 3 = some (.istore 4, (0, 0, 0, 0)) := by decide +kernel
theorem f_128_5 : rfI 128 5 = some (.iload 4, (0, 0, 0, 0)) := by decide +kernel
theorem f_128_7 : rfI 128 7 = some (.bipush 8, (0, 0, 0, 0)) := by decide +kernel
theorem f_128_9 : rfI 128 9 = some (.if_icmp .ge 28, (0, 0, 0, 0)) := by decide +kernel
theorem f_128_12 : rfI 128 12 = some (.iload_n 1, (0, 0, 0, 0)) := by decide +kernel
theorem f_128_13 : rfI 128 13 = some (.iconst 1, (0, 0, 0, 0)) := by decide +kernel
theorem f_128_14 : rfI 128 14 = some (.iload 4, (0, 0, 0, 0)) := by decide +kernel
theorem f_128_16 : rfI 128 16 = some (.ishl, (0, 0, 0, 0)) := by decide +kernel
theorem f_128_17 : rfI 128 17 = some (.iand, (0, 0, 0, 0)) := by decide +kernel
theorem f_128_18 : rfI 128 18 = some (.ifCond .eq 13, (0, 0, 0, 0)) := by decide +kernel
theorem f_128_21 : rfI 128 21 = some (.iload_n 3, (0, 0, 0, 0)) := by decide +kernel
theorem f_128_22 : rfI 128 22 = some (.aload_n 0, (0, 0, 0, 0)) := by decide +kernel
theorem f_128_23 : rfI 128 23 = some (.iload 4, (0, 0, 0, 0)) := by decide +kernel
theorem f_128_25 : rfI 128 25 = some (.iload_n 2, (0, 0, 0, 0)) := by decide +kernel
theorem f_128_26 : rfI 128 26 = some (.invokevirtual 53, (118, 3, 11, 0)) := by decide +kernel
theorem f_128_29 : rfI 128 29 = some (.iadd, (0, 0, 0, 0)) := by decide +kernel
theorem f_128_30 : rfI 128 30 = some (.istore_n 3, (0, 0, 0, 0)) := by decide +kernel
theorem f_128_31 : rfI 128 31 = some (.iinc 4 1, (0, 0, 0, 0)) := by decide +kernel
theorem f_128_34 : rfI 128 34 = some (.goto (-29), (0, 0, 0, 0)) := by decide +kernel
theorem f_128_37 : rfI 128 37 = some (.iload_n 3, (0, 0, 0, 0)) := by decide +kernel
theorem f_128_38 : rfI 128 38 = some (.ireturn, (0, 0, 0, 0)) := by decide +kernel
theorem f_129_0 : rfI 129 0 = some (.iload_n 1, (0, 0, 0, 0)) := by decide +kernel
theorem f_129_1 : rfI 129 1 = some (.invokestatic 43, (177, 1, 10, 0)) := by decide +kernel
theorem f_129_4 : rfI 129 4 = some (.ifCond .ne 4, (0, 0, 0, 0)) := by decide +kernel
theorem f_129_7 : rfI 129 7 = some (.return_, (0, 0, 0, 0)) := by decide +kernel
theorem f_129_8 : rfI 129 8 = some (.aload_n 0, (0, 0, 0, 0)) := by decide +kernel
theorem f_129_9 : rfI 129 9 = some (.dup, (0, 0, 0, 0)) := by decide +kernel
theorem f_129_10 : rfI 129 10 = some (.getfield 25, (10, 4, 0, 0)) := by decide +kernel
theorem f_129_13 : rfI 129 13 = some (.iconst 1, (0, 0, 0, 0)) := by decide +kernel
theorem f_129_14 : rfI 129 14 = some (.iload_n 1, (0, 0, 0, 0)) := by decide +kernel
theorem f_129_15 : rfI 129 15 = some (.ishl, (0, 0, 0, 0)) := by decide +kernel
theorem f_129_16 : rfI 129 16 = some (.iconst (-1), (0, 0, 0, 0)) := by decide +kernel
theorem f_129_17 : rfI 129 17 = some (.ixor, (0, 0, 0, 0)) := by decide +kernel
theorem f_129_18 : rfI 129 18 = some (.iand, (0, 0, 0, 0)) := by decide +kernel
theorem f_129_19 : rfI 129 19 = some (.putfield 25, (10, 4, 0, 0)) := by decide +kernel
theorem f_129_22 : rfI 129 22 = some (.aload_n 0, (0, 0, 0, 0)) := by decide +kernel
theorem f_129_23 : rfI 129 23 = some (.getfield 9, (10, 0, 2, 0)) := by decide +kernel
theorem f_129_26 : rfI 129 26 = some (.iload_n 1, (0, 0, 0, 0)) := by decide +kernel
theorem f_129_27 : rfI 129 27 = some (.iconst 0, (0, 0, 0, 0)) := by decide +kernel
theorem f_129_28 : rfI 129 28 = some (.iastore, (0, 0, 0, 0)) := by decide +kernel
theorem f_129_29 : rfI 129 29 = some (.iconst 0, (0, 0, 0, 0)) := by decide +kernel
theorem f_129_30 : rfI 129 30 = some (.istore_n 2, (0, 0, 0, 0)) := by decide +kernel
theorem f_129_31 : rfI 129 31 = some (.iload_n 2, (0, 0, 0, 0)) := by decide +kernel
theorem f_129_32 : rfI 129 32 = some (.bipush 8, (0, 0, 0, 0)) := by decide +kernel
theorem f_129_34 : rfI 129 34 = some (.if_icmp .ge 37, (0, 0, 0, 0)) := by decide +kernel
theorem f_129_37 : rfI 129 37 = some (.aload_n 0, (0, 0, 0, 0)) := by decide +kernel
theorem f_129_38 : rfI 129 38 = some (.iload_n 1, (0, 0, 0, 0)) := by decide +kernel
theorem f_129_39 : rfI 129 39 = some (.iload_n 2, (0, 0, 0, 0)) := by decide +kernel
theorem f_129_40 : rfI 129 40 = some (.iconst 0, (0, 0, 0, 0)) := by decide +kernel
theorem f_129_41 : rfI 129 41 = some (.invokevirtual 78, (117, 4, 11, 0)) := by decide +kernel
theorem f_129_44 : rfI 129 44 = some (.aload_n 0, (0, 0, 0, 0)) := by decide +kernel
theorem f_129_45 : rfI 129 45 = some (.iload_n 2, (0, 0, 0, 0)) := by decide +kernel
theorem f_129_46 : rfI 129 46 = some (.iload_n 1, (0, 0, 0, 0)) := by decide +kernel
theorem f_129_47 : rfI 129 47 = some (.iconst 0, (0, 0, 0, 0)) := by decide +kernel
theorem f_129_48 : rfI 129 48 = some (.invokevirtual 78, (117, 4, 11, 0)) := by decide +kernel
theorem f_129_51 : rfI 129 51 = some (.aload_n 0, (0, 0, 0, 0)) := by decide +kernel
theorem f_129_52 : rfI 129 52 = some (.iload_n 1, (0, 0, 0, 0)) := by decide +kernel
theorem f_129_53 : rfI 129 53 = some (.iload_n 2, (0, 0, 0, 0)) := by decide +kernel
theorem f_129_54 : rfI 129 54 = some (.iconst 0, (0, 0, 0, 0)) := by decide +kernel
theorem f_129_55 : rfI 129 55 = some (.invokevirtual 82, (119, 4, 11, 0)) := by decide +kernel
theorem f_129_58 : rfI 129 58 = some (.aload_n 0, (0, 0, 0, 0)) := by decide +kernel
theorem f_129_59 : rfI 129 59 = some (.iload_n 2, (0, 0, 0, 0)) := by decide +kernel
theorem f_129_60 : rfI 129 60 = some (.iload_n 1, (0, 0, 0, 0)) := by decide +kernel
theorem f_129_61 : rfI 129 61 = some (.iconst 0, (0, 0, 0, 0)) := by decide +kernel
theorem f_129_62 : rfI 129 62 = some (.invokevirtual 82, (119, 4, 11, 0)) := by decide +kernel
theorem f_129_65 : rfI 129 65 = some (.iinc 2 1, (0, 0, 0, 0)) := by decide +kernel
theorem f_129_68 : rfI 129 68 = some (.goto (-37), (0, 0, 0, 0)) := by decide +kernel
theorem f_129_71 : rfI 129 71 = some (.return_, (0, 0, 0, 0)) := by decide +kernel
theorem f_130_0 : rfI 130 0 = some (.aload_n 0, (0, 0, 0, 0)) := by decide +kernel
theorem f_130_1 : rfI 130 1 = some (.iload_n 1, (0, 0, 0, 0)) := by decide +kernel
theorem f_130_2 : rfI 130 2 = some (.sipush 9999, (0, 0, 0, 0)) := by decide +kernel
theorem f_130_5 : rfI 130 5 = some (.aload_n 0, (0, 0, 0, 0)) := by decide +kernel
theorem f_130_6 : rfI 130 6 = some (.iload_n 1, (0, 0, 0, 0)) := by decide +kernel
theorem f_130_7 : rfI 130 7 = some (.invokevirtual 57, (114, 2, 11, 0)) := by decide +kernel
theorem f_130_10 : rfI 130 10 = some (.aload_n 0, (0, 0, 0, 0)) := by decide +kernel
theorem f_130_11 : rfI 130 11 = some (.iload_n 2, (0, 0, 0, 0)) := by decide +kernel
theorem f_130_12 : rfI 130 12 = some (.invokevirtual 57, (114, 2, 11, 0)) := by decide +kernel
theorem f_130_15 : rfI 130 15 = some (.iadd, (0, 0, 0, 0)) := by decide +kernel
theorem f_130_16 : rfI 130 16 = some (.invokestatic 70, (1001, 2, 14, 0)) := by decide +kernel
theorem f_130_19 : rfI 130 19 = some (.invokevirtual 85, (115, 3, 11, 0)) := by decide +kernel
theorem f_130_22 : rfI 130 22 = some (.iconst 0, (0, 0, 0, 0)) := by decide +kernel
theorem f_130_23 : rfI 130 23 = some (.istore_n 3, (0, 0, 0, 0)) := by decide +kernel
theorem f_130_24 : rfI 130 24 = some (.iload_n 3, (0, 0, 0, 0)) := by decide +kernel
theorem f_130_25 : rfI 130 25 = some (.bipush 8, (0, 0, 0, 0)) := by decide +kernel
theorem f_130_27 : rfI 130 27 = some (.if_icmp .ge 88, (0, 0, 0, 0)) := by decide +kernel
theorem f_130_30 : rfI 130 30 = some (.iload_n 3, (0, 0, 0, 0)) := by decide +kernel
theorem f_130_31 : rfI 130 31 = some (.iload_n 1, (0, 0, 0, 0)) := by decide +kernel
theorem f_130_32 : rfI 130 32 = some (.if_icmp .eq 77, (0, 0, 0, 0)) := by decide +kernel
theorem f_130_35 : rfI 130 35 = some (.iload_n 3, (0, 0, 0, 0)) := by decide +kernel
theorem f_130_36 : rfI 130 36 = some (.iload_n 2, (0, 0, 0, 0)) := by decide +kernel
theorem f_130_37 : rfI 130 37 = some (.if_icmp .eq 72, (0, 0, 0, 0)) := by decide +kernel
theorem f_130_40 : rfI 130 40 = some (.aload_n 0, (0, 0, 0, 0)) := by decide +kernel
theorem f_130_41 : rfI 130 41 = some (.iload_n 1, (0, 0, 0, 0)) := by decide +kernel
theorem f_130_42 : rfI 130 42 = some (.iload_n 3, (0, 0, 0, 0)) := by decide +kernel
theorem f_130_43 : rfI 130 43 = some (.sipush 999, (0, 0, 0, 0)) := by decide +kernel
theorem f_130_46 : rfI 130 46 = some (.aload_n 0, (0, 0, 0, 0)) := by decide +kernel
theorem f_130_47 : rfI 130 47 = some (.iload_n 1, (0, 0, 0, 0)) := by decide +kernel
theorem f_130_48 : rfI 130 48 = some (.iload_n 3, (0, 0, 0, 0)) := by decide +kernel
theorem f_130_49 : rfI 130 49 = some (.invokevirtual 67, (116, 3, 11, 0)) := by decide +kernel
theorem f_130_52 : rfI 130 52 = some (.aload_n 0, (0, 0, 0, 0)) := by decide +kernel
theorem f_130_53 : rfI 130 53 = some (.iload_n 2, (0, 0, 0, 0)) := by decide +kernel
theorem f_130_54 : rfI 130 54 = some (.iload_n 3, (0, 0, 0, 0)) := by decide +kernel
theorem f_130_55 : rfI 130 55 = some (.invokevirtual 67, (116, 3, 11, 0)) := by decide +kernel
theorem f_130_58 : rfI 130 58 = some (.iadd, (0, 0, 0, 0)) := by decide +kernel
theorem f_130_59 : rfI 130 59 = some (.invokestatic 70, (1001, 2, 14, 0)) := by decide +kernel
theorem f_130_62 : rfI 130 62 = some (.invokevirtual 78, (117, 4, 11, 0)) := by decide +kernel
theorem f_130_65 : rfI 130 65 = some (.aload_n 0, (0, 0, 0, 0)) := by decide +kernel
theorem f_130_66 : rfI 130 66 = some (.iload_n 3, (0, 0, 0, 0)) := by decide +kernel
theorem f_130_67 : rfI 130 67 = some (.iload_n 1, (0, 0, 0, 0)) := by decide +kernel
theorem f_130_68 : rfI 130 68 = some (.sipush 999, (0, 0, 0, 0)) := by decide +kernel
theorem f_130_71 : rfI 130 71 = some (.aload_n 0, (0, 0, 0, 0)) := by decide +kernel
theorem f_130_72 : rfI 130 72 = some (.iload_n 3, (0, 0, 0, 0)) := by decide +kernel
theorem f_130_73 : rfI 130 73 = some (.iload_n 1, (0, 0, 0, 0)) := by decide +kernel
theorem f_130_74 : rfI 130 74 = some (.invokevirtual 67, (116, 3, 11, 0)) := by decide +kernel
theorem f_130_77 : rfI 130 77 = some (.aload_n 0, (0, 0, 0, 0)) := by decide +kernel
theorem f_130_78 : rfI 130 78 = some (.iload_n 3, (0, 0, 0, 0)) := by decide +kernel
theorem f_130_79 : rfI 130 79 = some (.iload_n 2, (0, 0, 0, 0)) := by decide +kernel
theorem f_130_80 : rfI 130 80 = some (.invokevirtual 67, (116, 3, 11, 0)) := by decide +kernel
theorem f_130_83 : rfI 130 83 = some (.iadd, (0, 0, 0, 0)) := by decide +kernel
theorem f_130_84 : rfI 130 84 = some (.invokestatic 70, (1001, 2, 14, 0)) := by decide +kernel
theorem f_130_87 : rfI 130 87 = some (.invokevirtual 78, (117, 4, 11, 0)) := by decide +kernel
theorem f_130_90 : rfI 130 90 = some (.aload_n 0, (0, 0, 0, 0)) := by decide +kernel
theorem f_130_91 : rfI 130 91 = some (.iload_n 1, (0, 0, 0, 0)) := by decide +kernel
theorem f_130_92 : rfI 130 92 = some (.iload_n 3, (0, 0, 0, 0)) := by decide +kernel
theorem f_130_93 : rfI 130 93 = some (.aload_n 0, (0, 0, 0, 0)) := by decide +kernel
theorem f_130_94 : rfI 130 94 = some (.iload_n 1, (0, 0, 0, 0)) := by decide +kernel
theorem f_130_95 : rfI 130 95 = some (.iload_n 3, (0, 0, 0, 0)) := by decide +kernel
theorem f_130_96 : rfI 130 96 = some (.invokevirtual 53, (118, 3, 11, 0)) := by decide +kernel
theorem f_130_99 : rfI 130 99 = some (.aload_n 0, (0, 0, 0, 0)) := by decide +kernel
theorem f_130_100 : rfI 130 100 = some (.iload_n 2, (0, 0, 0, 0)) := by decide +kernel
theorem f_130_101 : rfI 130 101 = some (.iload_n 3, (0, 0, 0, 0)) := by decide +kernel
theorem f_130_102 : rfI 130 102 = some (.invokevirtual 53, (118, 3, 11, 0)) := by decide +kernel
theorem f_130_105 : rfI 130 105 = some (.iadd, (0, 0, 0, 0)) := by decide +kernel
theorem f_130_106 : rfI 130 106 = some (.invokevirtual 82, (119, 4, 11, 0)) := by decide +kernel
theorem f_130_109 : rfI 130 109 = some (.iinc 3 1, (0, 0, 0, 0)) := by decide +kernel
theorem f_130_112 : rfI 130 112 = some (.goto (-88), (0, 0, 0, 0)) := by decide +kernel
theorem f_130_115 : rfI 130 115 = some (.aload_n 0, (0, 0, 0, 0)) := by decide +kernel
theorem f_130_116 : rfI 130 116 = some (.iload_n 2, (0, 0, 0, 0)) := by decide +kernel
theorem f_130_117 : rfI 130 117 = some (.invokevirtual 89, (129, 2, 11, 0)) := by decide +kernel
theorem f_130_120 : rfI 130 120 = some (.return_, (0, 0, 0, 0)) := by decide +kernel
theorem f_131_0 : rfI 131 0 = some (.aload_n 0, (0, 0, 0, 0)) := by decide +kernel
theorem f_131_1 : rfI 131 1 = some (.sipush 25173, (0, 0, 0, 0)) := by decide +kernel
theorem f_131_4 : rfI 131 4 = some (.aload_n 0, (0, 0, 0, 0)) := by decide +kernel
theorem f_131_5 : rfI 131 5 = some (.getfield 34, (10, 7, 0, 0)) := by decide +kernel
theorem f_131_8 : rfI 131 8 = some (.imul, (0, 0, 0, 0)) := by decide +kernel
theorem f_131_9 : rfI 131 9 = some (.sipush 13849, (0, 0, 0, 0)) := by decide +kernel
theorem f_131_12 : rfI 131 12 = some (.iadd, (0, 0, 0, 0)) := by decide +kernel
theorem f_131_13 : rfI 131 13 = some (.ldc 93, (4, 4, 4, 65536)) := by decide +kernel
theorem f_131_15 : rfI 131 15 = some (.irem, (0, 0, 0, 0)) := by decide +kernel
theorem f_131_16 : rfI 131 16 = some (.putfield 34, (10, 7, 0, 0)) := by decide +kernel
theorem f_131_19 : rfI 131 19 = some (.aload_n 0, (0, 0, 0, 0)) := by decide +kernel
theorem f_131_20 : rfI 131 20 = some (.getfield 34, (10, 7, 0, 0)) := by decide +kernel
theorem f_131_23 : rfI 131 23 = some (.bipush 10, (0, 0, 0, 0)) := by decide +kernel
theorem f_131_25 : rfI 131 25 = some (.irem, (0, 0, 0, 0)) := by decide +kernel
theorem f_131_26 : rfI 131 26 = some (.ireturn, (0, 0, 0, 0)) := by decide +kernel
theorem f_133_0 : rfI 133 0 = some (.iload_n 1, (0, 0, 0, 0)) := by decide +kernel
theorem f_133_1 : rfI 133 1 = some (.invokestatic 96, (177, 1, 10, 0)) := by decide +kernel
theorem f_133_4 : rfI 133 4 = some (.ifCond .eq 14, (0, 0, 0, 0)) := by decide +kernel
theorem f_133_7 : rfI 133 7 = some (.iload_n 2, (0, 0, 0, 0)) := by decide +kernel
theorem f_133_8 : rfI 133 8 = some (.ifCond .lt 10, (0, 0, 0, 0)) := by decide +kernel
theorem f_133_11 : rfI 133 11 = some (.iload_n 2, (0, 0, 0, 0)) := by decide +kernel
theorem f_133_12 : rfI 133 12 = some (.sipush 9999, (0, 0, 0, 0)) := by decide +kernel
theorem f_133_15 : rfI 133 15 = some (.if_icmp .le 5, (0, 0, 0, 0)) := by decide +kernel
theorem f_133_18 : rfI 133 18 = some (.iconst 0, (0, 0, 0, 0)) := by decide +kernel
theorem f_133_19 : rfI 133 19 = some (.ireturn, (0, 0, 0, 0)) := by decide +kernel
theorem f_133_20 : rfI 133 20 = some (.aload_n 0, (0, 0, 0, 0)) := by decide +kernel
theorem f_133_21 : rfI 133 21 = some (.getfield 19, (11, 1, 2, 0)) := by decide +kernel
theorem f_133_24 : rfI 133 24 = some (.iload_n 1, (0, 0, 0, 0)) := by decide +kernel
theorem f_133_25 : rfI 133 25 = some (.iload_n 2, (0, 0, 0, 0)) := by decide +kernel
theorem f_133_26 : rfI 133 26 = some (.invokevirtual 100, (113, 3, 11, 0)) := by decide +kernel
theorem f_133_29 : rfI 133 29 = some (.iconst 1, (0, 0, 0, 0)) := by decide +kernel
theorem f_133_30 : rfI 133 30 = some (.ireturn, (0, 0, 0, 0)) := by decide +kernel
theorem f_134_0 : rfI 134 0 = some (.aload_n 0, (0, 0, 0, 0)) := by decide +kernel
theorem f_134_1 : rfI 134 1 = some (.getfield 19, (11, 1, 2, 0)) := by decide +kernel
theorem f_134_4 : rfI 134 4 = some (.iload_n 1, (0, 0, 0, 0)) := by decide +kernel
theorem f_134_5 : rfI 134 5 = some (.iload_n 2, (0, 0, 0, 0)) := by decide +kernel
theorem f_134_6 : rfI 134 6 = some (.invokevirtual 104, (112, 3, 11, 0)) := by decide +kernel
theorem f_134_9 : rfI 134 9 = some (.ifCond .eq 14, (0, 0, 0, 0)) := by decide +kernel
theorem f_134_12 : rfI 134 12 = some (.iload_n 3, (0, 0, 0, 0)) := by decide +kernel
theorem f_134_13 : rfI 134 13 = some (.ifCond .lt 10, (0, 0, 0, 0)) := by decide +kernel
theorem f_134_16 : rfI 134 16 = some (.iload_n 3, (0, 0, 0, 0)) := by decide +kernel
theorem f_134_17 : rfI 134 17 = some (.sipush 999, (0, 0, 0, 0)) := by decide +kernel
theorem f_134_20 : rfI 134 20 = some (.if_icmp .le 5, (0, 0, 0, 0)) := by decide +kernel
theorem f_134_23 : rfI 134 23 = some (.iconst 0, (0, 0, 0, 0)) := by decide +kernel
theorem f_134_24 : rfI 134 24 = some (.ireturn, (0, 0, 0, 0)) := by decide +kernel
theorem f_134_25 : rfI 134 25 = some (.aload_n 0, (0, 0, 0, 0)) := by decide +kernel
theorem f_134_26 : rfI 134 26 = some (.getfield 19, (11, 1, 2, 0)) := by decide +kernel
theorem f_134_29 : rfI 134 29 = some (.iload_n 1, (0, 0, 0, 0)) := by decide +kernel
theorem f_134_30 : rfI 134 30 = some (.iload_n 2, (0, 0, 0, 0)) := by decide +kernel
theorem f_134_31 : rfI 134 31 = some (.iload_n 3, (0, 0, 0, 0)) := by decide +kernel
theorem f_134_32 : rfI 134 32 = some (.invokevirtual 108, (117, 4, 11, 0)) := by decide +kernel
theorem f_134_35 : rfI 134 35 = some (.iconst 1, (0, 0, 0, 0)) := by decide +kernel
theorem f_134_36 : rfI 134 36 = some (.ireturn, (0, 0, 0, 0)) := by decide +kernel
theorem f_135_0 : rfI 135 0 = some (.aload_n 0, (0, 0, 0, 0)) := by decide +kernel
theorem f_135_1 : rfI 135 1 = some (.getfield 19, (11, 1, 2, 0)) := by decide +kernel
theorem f_135_4 : rfI 135 4 = some (.iload_n 1, (0, 0, 0, 0)) := by decide +kernel
theorem f_135_5 : rfI 135 5 = some (.iload_n 2, (0, 0, 0, 0)) := by decide +kernel
theorem f_135_6 : rfI 135 6 = some (.invokevirtual 104, (112, 3, 11, 0)) := by decide +kernel
theorem f_135_9 : rfI 135 9 = some (.ifCond .eq 13, (0, 0, 0, 0)) := by decide +kernel
theorem f_135_12 : rfI 135 12 = some (.iload_n 3, (0, 0, 0, 0)) := by decide +kernel
theorem f_135_13 : rfI 135 13 = some (.ifCond .lt 9, (0, 0, 0, 0)) := by decide +kernel
theorem f_135_16 : rfI 135 16 = some (.iload_n 3, (0, 0, 0, 0)) := by decide +kernel
theorem f_135_17 : rfI 135 17 = some (.bipush 100, (0, 0, 0, 0)) := by decide +kernel
theorem f_135_19 : rfI 135 19 = some (.if_icmp .le 5, (0, 0, 0, 0)) := by decide +kernel
theorem f_135_22 : rfI 135 22 = some (.iconst 0, (0, 0, 0, 0)) := by decide +kernel
theorem f_135_23 : rfI 135 23 = some (.ireturn, (0, 0, 0, 0)) := by decide +kernel
theorem f_135_24 : rfI 135 24 = some (.aload_n 0, (0, 0, 0, 0)) := by decide +kernel
theorem f_135_25 : rfI 135 25 = some (.getfield 19, (11, 1, 2, 0)) := by decide +kernel
theorem f_135_28 : rfI 135 28 = some (.iload_n 2, (0, 0, 0, 0)) := by decide +kernel
theorem f_135_29 : rfI 135 29 = some (.iload_n 1, (0, 0, 0, 0)) := by decide +kernel
theorem f_135_30 : rfI 135 30 = some (.invokevirtual 112, (120, 3, 11, 0)) := by decide +kernel
theorem f_135_33 : rfI 135 33 = some (.iload_n 3, (0, 0, 0, 0)) := by decide +kernel
theorem f_135_34 : rfI 135 34 = some (.iadd, (0, 0, 0, 0)) := by decide +kernel
theorem f_135_35 : rfI 135 35 = some (.bipush 100, (0, 0, 0, 0)) := by decide +kernel
theorem f_135_37 : rfI 135 37 = some (.if_icmp .le 5, (0, 0, 0, 0)) := by decide +kernel
theorem f_135_40 : rfI 135 40 = some (.iconst 0, (0, 0, 0, 0)) := by decide +kernel
theorem f_135_41 : rfI 135 41 = some (.ireturn, (0, 0, 0, 0)) := by decide +kernel
theorem f_135_42 : rfI 135 42 = some (.aload_n 0, (0, 0, 0, 0)) := by decide +kernel
theorem f_135_43 : rfI 135 43 = some (.getfield 19, (11, 1, 2, 0)) := by decide +kernel
theorem f_135_46 : rfI 135 46 = some (.iload_n 1, (0, 0, 0, 0)) := by decide +kernel
theorem f_135_47 : rfI 135 47 = some (.iload_n 2, (0, 0, 0, 0)) := by decide +kernel
theorem f_135_48 : rfI 135 48 = some (.iload_n 3, (0, 0, 0, 0)) := by decide +kernel
theorem f_135_49 : rfI 135 49 = some (.invokevirtual 116, (119, 4, 11, 0)) := by decide +kernel
theorem f_135_52 : rfI 135 52 = some (.iconst 1, (0, 0, 0, 0)) := by decide +kernel
theorem f_135_53 : rfI 135 53 = some (.ireturn, (0, 0, 0, 0)) := by decide +kernel
theorem f_136_0 : rfI 136 0 = some (.aload_n 0, (0, 0, 0, 0)) := by decide +kernel
theorem f_136_1 : rfI 136 1 = some (.getfield 10, (11, 0, 2, 0)) := by decide +kernel
theorem f_136_4 : rfI 136 4 = some (.invokevirtual 119, (92, 1, 11, 0)) := by decide +kernel
theorem f_136_7 : rfI 136 7 = some (.ifCond .ne 5, (0, 0, 0, 0)) := by decide +kernel
theorem f_136_10 : rfI 136 10 = some (.iconst (-1), (0, 0, 0, 0)) := by decide +kernel
theorem f_136_11 : rfI 136 11 = some (.ireturn, (0, 0, 0, 0)) := by decide +kernel
theorem f_136_12 : rfI 136 12 = some (.aload_n 0, (0, 0, 0, 0)) := by decide +kernel
theorem f_136_13 : rfI 136 13 = some (.getfield 10, (11, 0, 2, 0)) := by decide +kernel
theorem f_136_16 : rfI 136 16 = some (.iload_n 1, (0, 0, 0, 0)) := by decide +kernel
theorem f_136_17 : rfI 136 17 = some (.invokevirtual 123, (93, 2, 11, 0)) := by decide +kernel
theorem f_136_20 : rfI 136 20 = some (.aload_n 0, (0, 0, 0, 0)) := by decide +kernel
theorem f_136_21 : rfI 136 21 = some (.getfield 10, (11, 0, 2, 0)) := by decide +kernel
theorem f_136_24 : rfI 136 24 = some (.iload_n 2, (0, 0, 0, 0)) := by decide +kernel
theorem f_136_25 : rfI 136 25 = some (.invokevirtual 123, (93, 2, 11, 0)) := by decide +kernel
theorem f_136_28 : rfI 136 28 = some (.aload_n 0, (0, 0, 0, 0)) := by decide +kernel
theorem f_136_29 : rfI 136 29 = some (.getfield 10, (11, 0, 2, 0)) := by decide +kernel
theorem f_136_32 : rfI 136 32 = some (.iload_n 3, (0, 0, 0, 0)) := by decide +kernel
theorem f_136_33 : rfI 136 33 = some (.invokevirtual 123, (93, 2, 11, 0)) := by decide +kernel
theorem f_136_36 : rfI 136 36 = some (.aload_n 0, (0, 0, 0, 0)) := by decide +kernel
theorem f_136_37 : rfI 136 37 = some (.getfield 10, (11, 0, 2, 0)) := by decide +kernel
theorem f_136_40 : rfI 136 40 = some (.iload 4, (0, 0, 0, 0)) := by decide +kernel
theorem f_136_42 : rfI 136 42 = some (.invokevirtual 123, (93, 2, 11, 0)) := by decide +kernel
theorem f_136_45 : rfI 136 45 = some (.aload_n 0, (0, 0, 0, 0)) := by decide +kernel
theorem f_136_46 : rfI 136 46 = some (.getfield 10, (11, 0, 2, 0)) := by decide +kernel
theorem f_136_49 : rfI 136 49 = some (.iload 5, (0, 0, 0, 0)) := by decide +kernel
theorem f_136_51 : rfI 136 51 = some (.invokevirtual 123, (93, 2, 11, 0)) := by decide +kernel
theorem f_136_54 : rfI 136 54 = some (.aload_n 0, (0, 0, 0, 0)) := by decide +kernel
theorem f_136_55 : rfI 136 55 = some (.getfield 10, (11, 0, 2, 0)) := by decide +kernel
theorem f_136_58 : rfI 136 58 = some (.getfield 127, (9, 1, 0, 0)) := by decide +kernel
theorem f_136_61 : rfI 136 61 = some (.ireturn, (0, 0, 0, 0)) := by decide +kernel
theorem f_137_0 : rfI 137 0 = some (.iload_n 1, (0, 0, 0, 0)) := by decide +kernel
theorem f_137_1 : rfI 137 1 = some (.iconst 1, (0, 0, 0, 0)) := by decide +kernel
theorem f_137_2 : rfI 137 2 = some (.if_icmp .lt 21, (0, 0, 0, 0)) := by decide +kernel
theorem f_137_5 : rfI 137 5 = some (.iload_n 1, (0, 0, 0, 0)) := by decide +kernel
theorem f_137_6 : rfI 137 6 = some (.sipush 240, (0, 0, 0, 0)) := by decide +kernel
theorem f_137_9 : rfI 137 9 = some (.if_icmp .gt 14, (0, 0, 0, 0)) := by decide +kernel
theorem f_137_12 : rfI 137 12 = some (.iload_n 1, (0, 0, 0, 0)) := by decide +kernel
theorem f_137_13 : rfI 137 13 = some (.aload_n 0, (0, 0, 0, 0)) := by decide +kernel
theorem f_137_14 : rfI 137 14 = some (.getfield 10, (11, 0, 2, 0)) := by decide +kernel
theorem f_137_17 : rfI 137 17 = some (.getfield 127, (9, 1, 0, 0)) := by decide +kernel
theorem f_137_20 : rfI 137 20 = some (.if_icmp .le 5, (0, 0, 0, 0)) := by decide +kernel
theorem f_137_23 : rfI 137 23 = some (.iconst (-1), (0, 0, 0, 0)) := by decide +kernel
theorem f_137_24 : rfI 137 24 = some (.ireturn, (0, 0, 0, 0)) := by decide +kernel
theorem f_137_25 : rfI 137 25 = some (.aload_n 0, (0, 0, 0, 0)) := by decide +kernel
theorem f_137_26 : rfI 137 26 = some (.getfield 39, (11, 5, 2, 0)) := by decide +kernel
theorem f_137_29 : rfI 137 29 = some (.aload_n 0, (0, 0, 0, 0)) := by decide +kernel
theorem f_137_30 : rfI 137 30 = some (.getfield 10, (11, 0, 2, 0)) := by decide +kernel
theorem f_137_33 : rfI 137 33 = some (.iload_n 1, (0, 0, 0, 0)) := by decide +kernel
theorem f_137_34 : rfI 137 34 = some (.invokevirtual 131, (51, 3, 11, 0)) := by decide +kernel
theorem f_137_37 : rfI 137 37 = some (.istore_n 2, (0, 0, 0, 0)) := by decide +kernel
theorem f_137_38 : rfI 137 38 = some (.aload_n 0, (0, 0, 0, 0)) := by decide +kernel
theorem f_137_39 : rfI 137 39 = some (.getfield 10, (11, 0, 2, 0)) := by decide +kernel
theorem f_137_42 : rfI 137 42 = some (.invokevirtual 135, (94, 1, 11, 0)) := by decide +kernel
theorem f_137_45 : rfI 137 45 = some (.iload_n 2, (0, 0, 0, 0)) := by decide +kernel
theorem f_137_46 : rfI 137 46 = some (.ifCond .lt 17, (0, 0, 0, 0)) := by decide +kernel
theorem f_137_49 : rfI 137 49 = some (.aload_n 0, (0, 0, 0, 0)) := by decide +kernel
theorem f_137_50 : rfI 137 50 = some (.getfield 88, (11, 12, 2, 0)) := by decide +kernel
theorem f_137_53 : rfI 137 53 = some (.aload_n 0, (0, 0, 0, 0)) := by decide +kernel
theorem f_137_54 : rfI 137 54 = some (.getfield 39, (11, 5, 2, 0)) := by decide +kernel
theorem f_137_57 : rfI 137 57 = some (.getfield 138, (4, 0, 2, 0)) := by decide +kernel
theorem f_137_60 : rfI 137 60 = some (.invokevirtual 141, (43, 2, 11, 0)) := by decide +kernel
theorem f_137_63 : rfI 137 63 = some (.iload_n 2, (0, 0, 0, 0)) := by decide +kernel
theorem f_137_64 : rfI 137 64 = some (.ireturn, (0, 0, 0, 0)) := by decide +kernel
theorem f_138_0 : rfI 138 0 = some (.iload_n 1, (0, 0, 0, 0)) := by decide +kernel
theorem f_138_1 : rfI 138 1 = some (.iconst 1, (0, 0, 0, 0)) := by decide +kernel
theorem f_138_2 : rfI 138 2 = some (.if_icmp .lt 20, (0, 0, 0, 0)) := by decide +kernel
theorem f_138_5 : rfI 138 5 = some (.iload_n 1, (0, 0, 0, 0)) := by decide +kernel
theorem f_138_6 : rfI 138 6 = some (.bipush 120, (0, 0, 0, 0)) := by decide +kernel
theorem f_138_8 : rfI 138 8 = some (.if_icmp .gt 14, (0, 0, 0, 0)) := by decide +kernel
theorem f_138_11 : rfI 138 11 = some (.iload_n 1, (0, 0, 0, 0)) := by decide +kernel
theorem f_138_12 : rfI 138 12 = some (.aload_n 0, (0, 0, 0, 0)) := by decide +kernel
theorem f_138_13 : rfI 138 13 = some (.getfield 10, (11, 0, 2, 0)) := by decide +kernel
theorem f_138_16 : rfI 138 16 = some (.getfield 127, (9, 1, 0, 0)) := by decide +kernel
theorem f_138_19 : rfI 138 19 = some (.if_icmp .le 5, (0, 0, 0, 0)) := by decide +kernel
theorem f_138_22 : rfI 138 22 = some (.iconst (-1), (0, 0, 0, 0)) := by decide +kernel
theorem f_138_23 : rfI 138 23 = some (.ireturn, (0, 0, 0, 0)) := by decide +kernel
theorem f_138_24 : rfI 138 24 = some (.aload_n 0, (0, 0, 0, 0)) := by decide +kernel
theorem f_138_25 : rfI 138 25 = some (.getfield 26, (11, 3, 2, 0)) := by decide +kernel
theorem f_138_28 : rfI 138 28 = some (.aload_n 0, (0, 0, 0, 0)) := by decide +kernel
theorem f_138_29 : rfI 138 29 = some (.getfield 19, (11, 1, 2, 0)) := by decide +kernel
theorem f_138_32 : rfI 138 32 = some (.invokevirtual 145, (108, 2, 11, 0)) := by decide +kernel
theorem f_138_35 : rfI 138 35 = some (.aload_n 0, (0, 0, 0, 0)) := by decide +kernel
theorem f_138_36 : rfI 138 36 = some (.getfield 32, (11, 4, 2, 0)) := by decide +kernel
theorem f_138_39 : rfI 138 39 = some (.aload_n 0, (0, 0, 0, 0)) := by decide +kernel
theorem f_138_40 : rfI 138 40 = some (.getfield 10, (11, 0, 2, 0)) := by decide +kernel
theorem f_138_43 : rfI 138 43 = some (.iload_n 1, (0, 0, 0, 0)) := by decide +kernel
theorem f_138_44 : rfI 138 44 = some (.aload_n 0, (0, 0, 0, 0)) := by decide +kernel
theorem f_138_45 : rfI 138 45 = some (.getfield 26, (11, 3, 2, 0)) := by decide +kernel
theorem f_138_48 : rfI 138 48 = some (.invokevirtual 148, (63, 4, 11, 0)) := by decide +kernel
theorem f_138_51 : rfI 138 51 = some (.istore_n 2, (0, 0, 0, 0)) := by decide +kernel
theorem f_138_52 : rfI 138 52 = some (.aload_n 0, (0, 0, 0, 0)) := by decide +kernel
theorem f_138_53 : rfI 138 53 = some (.getfield 10, (11, 0, 2, 0)) := by decide +kernel
theorem f_138_56 : rfI 138 56 = some (.invokevirtual 135, (94, 1, 11, 0)) := by decide +kernel
theorem f_138_59 : rfI 138 59 = some (.iload_n 2, (0, 0, 0, 0)) := by decide +kernel
theorem f_138_60 : rfI 138 60 = some (.ifCond .lt 14, (0, 0, 0, 0)) := by decide +kernel
theorem f_138_63 : rfI 138 63 = some (.aload_n 0, (0, 0, 0, 0)) := by decide +kernel
theorem f_138_64 : rfI 138 64 = some (.getfield 19, (11, 1, 2, 0)) := by decide +kernel
theorem f_138_67 : rfI 138 67 = some (.aload_n 0, (0, 0, 0, 0)) := by decide +kernel
theorem f_138_68 : rfI 138 68 = some (.getfield 26, (11, 3, 2, 0)) := by decide +kernel
theorem f_138_71 : rfI 138 71 = some (.invokevirtual 145, (108, 2, 11, 0)) := by decide +kernel
theorem f_138_74 : rfI 138 74 = some (.iload_n 2, (0, 0, 0, 0)) := by decide +kernel
theorem f_138_75 : rfI 138 75 = some (.ireturn, (0, 0, 0, 0)) := by decide +kernel
theorem f_139_0 : rfI 139 0 = some (.iload_n 1, (0, 0, 0, 0)) := by decide +kernel
theorem f_139_1 : rfI 139 1 = some (.iconst 1, (0, 0, 0, 0)) := by decide +kernel
theorem f_139_2 : rfI 139 2 = some (.if_icmp .lt 9, (0, 0, 0, 0)) := by decide +kernel
theorem f_139_5 : rfI 139 5 = some (.iload_n 1, (0, 0, 0, 0)) := by decide +kernel
theorem f_139_6 : rfI 139 6 = some (.bipush 60, (0, 0, 0, 0)) := by decide +kernel
theorem f_139_8 : rfI 139 8 = some (.if_icmp .le 5, (0, 0, 0, 0)) := by decide +kernel
theorem f_139_11 : rfI 139 11 = some (.iconst (-1), (0, 0, 0, 0)) := by decide +kernel
theorem f_139_12 : rfI 139 12 = some (.ireturn, (0, 0, 0, 0)) := by decide +kernel
theorem f_139_13 : rfI 139 13 = some (.aload_n 0, (0, 0, 0, 0)) := by decide +kernel
theorem f_139_14 : rfI 139 14 = some (.getfield 53, (11, 7, 2, 0)) := by decide +kernel
theorem f_139_17 : rfI 139 17 = some (.aload_n 0, (0, 0, 0, 0)) := by decide +kernel
theorem f_139_18 : rfI 139 18 = some (.getfield 19, (11, 1, 2, 0)) := by decide +kernel
theorem f_139_21 : rfI 139 21 = some (.aload_n 0, (0, 0, 0, 0)) := by decide +kernel
theorem f_139_22 : rfI 139 22 = some (.getfield 88, (11, 12, 2, 0)) := by decide +kernel
theorem f_139_25 : rfI 139 25 = some (.aload_n 0, (0, 0, 0, 0)) := by decide +kernel
theorem f_139_26 : rfI 139 26 = some (.getfield 46, (11, 6, 2, 0)) := by decide +kernel
theorem f_139_29 : rfI 139 29 = some (.iload_n 1, (0, 0, 0, 0)) := by decide +kernel
theorem f_139_30 : rfI 139 30 = some (.invokevirtual 151, (70, 5, 11, 0)) := by decide +kernel
theorem f_139_33 : rfI 139 33 = some (.aload_n 0, (0, 0, 0, 0)) := by decide +kernel
theorem f_139_34 : rfI 139 34 = some (.getfield 53, (11, 7, 2, 0)) := by decide +kernel
theorem f_139_37 : rfI 139 37 = some (.getfield 155, (6, 0, 0, 0)) := by decide +kernel
theorem f_139_40 : rfI 139 40 = some (.ireturn, (0, 0, 0, 0)) := by decide +kernel
theorem f_140_0 : rfI 140 0 = some (.aload_n 0, (0, 0, 0, 0)) := by decide +kernel
theorem f_140_1 : rfI 140 1 = some (.getfield 19, (11, 1, 2, 0)) := by decide +kernel
theorem f_140_4 : rfI 140 4 = some (.iload_n 2, (0, 0, 0, 0)) := by decide +kernel
theorem f_140_5 : rfI 140 5 = some (.bipush 10, (0, 0, 0, 0)) := by decide +kernel
theorem f_140_7 : rfI 140 7 = some (.isub, (0, 0, 0, 0)) := by decide +kernel
theorem f_140_8 : rfI 140 8 = some (.invokevirtual 158, (109, 2, 11, 0)) := by decide +kernel
theorem f_140_11 : rfI 140 11 = some (.istore_n 3, (0, 0, 0, 0)) := by decide +kernel
theorem f_140_12 : rfI 140 12 = some (.iload_n 1, (0, 0, 0, 0)) := by decide +kernel
theorem f_140_13 : rfI 140 13 = some (.iconst 1, (0, 0, 0, 0)) := by decide +kernel
theorem f_140_14 : rfI 140 14 = some (.if_icmp .lt 22, (0, 0, 0, 0)) := by decide +kernel
theorem f_140_17 : rfI 140 17 = some (.iload_n 1, (0, 0, 0, 0)) := by decide +kernel
theorem f_140_18 : rfI 140 18 = some (.bipush 60, (0, 0, 0, 0)) := by decide +kernel
theorem f_140_20 : rfI 140 20 = some (.if_icmp .gt 16, (0, 0, 0, 0)) := by decide +kernel
theorem f_140_23 : rfI 140 23 = some (.iload_n 3, (0, 0, 0, 0)) := by decide +kernel
theorem f_140_24 : rfI 140 24 = some (.ifCond .ne 14, (0, 0, 0, 0)) := by decide +kernel
theorem f_140_27 : rfI 140 27 = some (.iload_n 2, (0, 0, 0, 0)) := by decide +kernel
theorem f_140_28 : rfI 140 28 = some (.ifCond .lt 8, (0, 0, 0, 0)) := by decide +kernel
theorem f_140_31 : rfI 140 31 = some (.iload_n 2, (0, 0, 0, 0)) := by decide +kernel
theorem f_140_32 : rfI 140 32 = some (.iconst 3, (0, 0, 0, 0)) := by decide +kernel
theorem f_140_33 : rfI 140 33 = some (.if_icmp .le 5, (0, 0, 0, 0)) := by decide +kernel
theorem f_140_36 : rfI 140 36 = some (.iconst (-1), (0, 0, 0, 0)) := by decide +kernel
theorem f_140_37 : rfI 140 37 = some (.ireturn, (0, 0, 0, 0)) := by decide +kernel
theorem f_140_38 : rfI 140 38 = some (.aload_n 0, (0, 0, 0, 0)) := by decide +kernel
theorem f_140_39 : rfI 140 39 = some (.getfield 26, (11, 3, 2, 0)) := by decide +kernel
theorem f_140_42 : rfI 140 42 = some (.aload_n 0, (0, 0, 0, 0)) := by decide +kernel
theorem f_140_43 : rfI 140 43 = some (.getfield 19, (11, 1, 2, 0)) := by decide +kernel
theorem f_140_46 : rfI 140 46 = some (.invokevirtual 145, (108, 2, 11, 0)) := by decide +kernel
theorem f_140_49 : rfI 140 49 = some (.aload_n 0, (0, 0, 0, 0)) := by decide +kernel
theorem f_140_50 : rfI 140 50 = some (.getfield 53, (11, 7, 2, 0)) := by decide +kernel
theorem f_140_53 : rfI 140 53 = some (.aload_n 0, (0, 0, 0, 0)) := by decide +kernel
theorem f_140_54 : rfI 140 54 = some (.getfield 26, (11, 3, 2, 0)) := by decide +kernel
theorem f_140_57 : rfI 140 57 = some (.aload_n 0, (0, 0, 0, 0)) := by decide +kernel
theorem f_140_58 : rfI 140 58 = some (.getfield 88, (11, 12, 2, 0)) := by decide +kernel
theorem f_140_61 : rfI 140 61 = some (.aload_n 0, (0, 0, 0, 0)) := by decide +kernel
theorem f_140_62 : rfI 140 62 = some (.getfield 46, (11, 6, 2, 0)) := by decide +kernel
theorem f_140_65 : rfI 140 65 = some (.iload_n 1, (0, 0, 0, 0)) := by decide +kernel
theorem f_140_66 : rfI 140 66 = some (.invokevirtual 151, (70, 5, 11, 0)) := by decide +kernel
theorem f_140_69 : rfI 140 69 = some (.iload_n 2, (0, 0, 0, 0)) := by decide +kernel
theorem f_140_70 : rfI 140 70 = some (.tableswitch 62 0 3 #[30, 38, 46, 54], (0, 0, 0, 0)) := by decide +kernel
theorem f_140_100 : rfI 140 100 = some (.aload_n 0, (0, 0, 0, 0)) := by decide +kernel
theorem f_140_101 : rfI 140 101 = some (.getfield 53, (11, 7, 2, 0)) := by decide +kernel
theorem f_140_104 : rfI 140 104 = some (.getfield 155, (6, 0, 0, 0)) := by decide +kernel
theorem f_140_107 : rfI 140 107 = some (.ireturn, (0, 0, 0, 0)) := by decide +kernel
theorem f_140_108 : rfI 140 108 = some (.aload_n 0, (0, 0, 0, 0)) := by decide +kernel
theorem f_140_109 : rfI 140 109 = some (.getfield 53, (11, 7, 2, 0)) := by decide +kernel
theorem f_140_112 : rfI 140 112 = some (.getfield 161, (6, 1, 0, 0)) := by decide +kernel
theorem f_140_115 : rfI 140 115 = some (.ireturn, (0, 0, 0, 0)) := by decide +kernel
theorem f_140_116 : rfI 140 116 = some (.aload_n 0, (0, 0, 0, 0)) := by decide +kernel
theorem f_140_117 : rfI 140 117 = some (.getfield 26, (11, 3, 2, 0)) := by decide +kernel
theorem f_140_120 : rfI 140 120 = some (.invokevirtual 164, (124, 1, 11, 0)) := by decide +kernel
theorem f_140_123 : rfI 140 123 = some (.ireturn, (0, 0, 0, 0)) := by decide +kernel
theorem f_140_124 : rfI 140 124 = some (.aload_n 0, (0, 0, 0, 0)) := by decide +kernel
theorem f_140_125 : rfI 140 125 = some (.getfield 26, (11, 3, 2, 0)) := by decide +kernel
theorem f_140_128 : rfI 140 128 = some (.invokevirtual 168, (125, 1, 11, 0)) := by decide +kernel
theorem f_140_131 : rfI 140 131 = some (.ireturn, (0, 0, 0, 0)) := by decide +kernel
theorem f_140_132 : rfI 140 132 = some (.aload_n 0, (0, 0, 0, 0)) := by decide +kernel
theorem f_140_133 : rfI 140 133 = some (.getfield 26, (11, 3, 2, 0)) := by decide +kernel
theorem f_140_136 : rfI 140 136 = some (.iload_n 2, (0, 0, 0, 0)) := by decide +kernel
theorem f_140_137 : rfI 140 137 = some (.bipush 10, (0, 0, 0, 0)) := by decide +kernel
theorem f_140_139 : rfI 140 139 = some (.isub, (0, 0, 0, 0)) := by decide +kernel
theorem f_140_140 : rfI 140 140 = some (.invokevirtual 171, (114, 2, 11, 0)) := by decide +kernel
theorem f_140_143 : rfI 140 143 = some (.ireturn, (0, 0, 0, 0)) := by decide +kernel
theorem f_141_0 : rfI 141 0 = some (.aload_n 0, (0, 0, 0, 0)) := by decide +kernel
theorem f_141_1 : rfI 141 1 = some (.getfield 19, (11, 1, 2, 0)) := by decide +kernel
theorem f_141_4 : rfI 141 4 = some (.iload_n 1, (0, 0, 0, 0)) := by decide +kernel
theorem f_141_5 : rfI 141 5 = some (.invokevirtual 158, (109, 2, 11, 0)) := by decide +kernel
theorem f_141_8 : rfI 141 8 = some (.ifCond .ne 15, (0, 0, 0, 0)) := by decide +kernel
theorem f_141_11 : rfI 141 11 = some (.iload_n 2, (0, 0, 0, 0)) := by decide +kernel
theorem f_141_12 : rfI 141 12 = some (.iconst 4, (0, 0, 0, 0)) := by decide +kernel
theorem f_141_13 : rfI 141 13 = some (.if_icmp .ne 8, (0, 0, 0, 0)) := by decide +kernel
theorem f_141_16 : rfI 141 16 = some (.ldc 175, (4, 4, 4, (-1000000))) := by decide +kernel
theorem f_141_18 : rfI 141 18 = some (.goto 4, (0, 0, 0, 0)) := by decide +kernel
theorem f_141_21 : rfI 141 21 = some (.iconst (-1), (0, 0, 0, 0)) := by decide +kernel
theorem f_141_22 : rfI 141 22 = some (.ireturn, (0, 0, 0, 0)) := by decide +kernel
theorem f_141_23 : rfI 141 23 = some (.iload_n 2, (0, 0, 0, 0)) := by decide +kernel
theorem f_141_24 : rfI 141 24 = some (.tableswitch 102 0 5 #[40, 49, 66, 75, 84, 93], (0, 0, 0, 0)) := by decide +kernel
theorem f_141_64 : rfI 141 64 = some (.aload_n 0, (0, 0, 0, 0)) := by decide +kernel
theorem f_141_65 : rfI 141 65 = some (.getfield 19, (11, 1, 2, 0)) := by decide +kernel
theorem f_141_68 : rfI 141 68 = some (.iload_n 1, (0, 0, 0, 0)) := by decide +kernel
theorem f_141_69 : rfI 141 69 = some (.invokevirtual 171, (114, 2, 11, 0)) := by decide +kernel
theorem f_141_72 : rfI 141 72 = some (.ireturn, (0, 0, 0, 0)) := by decide +kernel
theorem f_141_73 : rfI 141 73 = some (.aload_n 0, (0, 0, 0, 0)) := by decide +kernel
theorem f_141_74 : rfI 141 74 = some (.getfield 19, (11, 1, 2, 0)) := by decide +kernel
theorem f_141_77 : rfI 141 77 = some (.iload_n 1, (0, 0, 0, 0)) := by decide +kernel
theorem f_141_78 : rfI 141 78 = some (.invokevirtual 176, (110, 2, 11, 0)) := by decide +kernel
theorem f_141_81 : rfI 141 81 = some (.ifCond .eq 7, (0, 0, 0, 0)) := by decide +kernel
theorem f_141_84 : rfI 141 84 = some (.iconst 1, (0, 0, 0, 0)) := by decide +kernel
theorem f_141_85 : rfI 141 85 = some (.goto 4, (0, 0, 0, 0)) := by decide +kernel
theorem f_141_88 : rfI 141 88 = some (.iconst 0, (0, 0, 0, 0)) := by decide +kernel
theorem f_141_89 : rfI 141 89 = some (.ireturn, (0, 0, 0, 0)) := by decide +kernel
theorem f_141_90 : rfI 141 90 = some (.aload_n 0, (0, 0, 0, 0)) := by decide +kernel
theorem f_141_91 : rfI 141 91 = some (.getfield 19, (11, 1, 2, 0)) := by decide +kernel
theorem f_141_94 : rfI 141 94 = some (.iload_n 1, (0, 0, 0, 0)) := by decide +kernel
theorem f_141_95 : rfI 141 95 = some (.invokevirtual 179, (121, 2, 11, 0)) := by decide +kernel
theorem f_141_98 : rfI 141 98 = some (.ireturn, (0, 0, 0, 0)) := by decide +kernel
theorem f_141_99 : rfI 141 99 = some (.aload_n 0, (0, 0, 0, 0)) := by decide +kernel
theorem f_141_100 : rfI 141 100 = some (.getfield 19, (11, 1, 2, 0)) := by decide +kernel
theorem f_141_103 : rfI 141 103 = some (.iload_n 1, (0, 0, 0, 0)) := by decide +kernel
theorem f_141_104 : rfI 141 104 = some (.invokevirtual 182, (122, 2, 11, 0)) := by decide +kernel
theorem f_141_107 : rfI 141 107 = some (.ireturn, (0, 0, 0, 0)) := by decide +kernel
theorem f_141_108 : rfI 141 108 = some (.aload_n 0, (0, 0, 0, 0)) := by decide +kernel
theorem f_141_109 : rfI 141 109 = some (.getfield 19, (11, 1, 2, 0)) := by decide +kernel
theorem f_141_112 : rfI 141 112 = some (.iload_n 1, (0, 0, 0, 0)) := by decide +kernel
theorem f_141_113 : rfI 141 113 = some (.invokevirtual 185, (123, 2, 11, 0)) := by decide +kernel
theorem f_141_116 : rfI 141 116 = some (.ireturn, (0, 0, 0, 0)) := by decide +kernel
theorem f_141_117 : rfI 141 117 = some (.aload_n 0, (0, 0, 0, 0)) := by decide +kernel
theorem f_141_118 : rfI 141 118 = some (.getfield 19, (11, 1, 2, 0)) := by decide +kernel
theorem f_141_121 : rfI 141 121 = some (.iload_n 1, (0, 0, 0, 0)) := by decide +kernel
theorem f_141_122 : rfI 141 122 = some (.invokevirtual 188, (127, 2, 11, 0)) := by decide +kernel
theorem f_141_125 : rfI 141 125 = some (.ireturn, (0, 0, 0, 0)) := by decide +kernel
theorem f_141_126 : rfI 141 126 = some (.iconst (-1), (0, 0, 0, 0)) := by decide +kernel
theorem f_141_127 : rfI 141 127 = some (.ireturn, (0, 0, 0, 0)) := by decide +kernel
theorem f_142_0 : rfI 142 0 = some (.aload_n 0, (0, 0, 0, 0)) := by decide +kernel
theorem f_142_1 : rfI 142 1 = some (.getfield 19, (11, 1, 2, 0)) := by decide +kernel
theorem f_142_4 : rfI 142 4 = some (.iload_n 1, (0, 0, 0, 0)) := by decide +kernel
theorem f_142_5 : rfI 142 5 = some (.iload_n 2, (0, 0, 0, 0)) := by decide +kernel
theorem f_142_6 : rfI 142 6 = some (.invokevirtual 191, (111, 3, 11, 0)) := by decide +kernel
theorem f_142_9 : rfI 142 9 = some (.ifCond .eq 15, (0, 0, 0, 0)) := by decide +kernel
theorem f_142_12 : rfI 142 12 = some (.aload_n 0, (0, 0, 0, 0)) := by decide +kernel
theorem f_142_13 : rfI 142 13 = some (.getfield 19, (11, 1, 2, 0)) := by decide +kernel
theorem f_142_16 : rfI 142 16 = some (.iload_n 1, (0, 0, 0, 0)) := by decide +kernel
theorem f_142_17 : rfI 142 17 = some (.iload_n 2, (0, 0, 0, 0)) := by decide +kernel
theorem f_142_18 : rfI 142 18 = some (.invokevirtual 194, (116, 3, 11, 0)) := by decide +kernel
theorem f_142_21 : rfI 142 21 = some (.goto 4, (0, 0, 0, 0)) := by decide +kernel
theorem f_142_24 : rfI 142 24 = some (.iconst (-1), (0, 0, 0, 0)) := by decide +kernel
theorem f_142_25 : rfI 142 25 = some (.ireturn, (0, 0, 0, 0)) := by decide +kernel
theorem f_143_0 : rfI 143 0 = some (.aload_n 0, (0, 0, 0, 0)) := by decide +kernel
theorem f_143_1 : rfI 143 1 = some (.getfield 19, (11, 1, 2, 0)) := by decide +kernel
theorem f_143_4 : rfI 143 4 = some (.iload_n 1, (0, 0, 0, 0)) := by decide +kernel
theorem f_143_5 : rfI 143 5 = some (.iload_n 2, (0, 0, 0, 0)) := by decide +kernel
theorem f_143_6 : rfI 143 6 = some (.invokevirtual 191, (111, 3, 11, 0)) := by decide +kernel
theorem f_143_9 : rfI 143 9 = some (.ifCond .eq 15, (0, 0, 0, 0)) := by decide +kernel
theorem f_143_12 : rfI 143 12 = some (.aload_n 0, (0, 0, 0, 0)) := by decide +kernel
theorem f_143_13 : rfI 143 13 = some (.getfield 19, (11, 1, 2, 0)) := by decide +kernel
theorem f_143_16 : rfI 143 16 = some (.iload_n 1, (0, 0, 0, 0)) := by decide +kernel
theorem f_143_17 : rfI 143 17 = some (.iload_n 2, (0, 0, 0, 0)) := by decide +kernel
theorem f_143_18 : rfI 143 18 = some (.invokevirtual 197, (118, 3, 11, 0)) := by decide +kernel
theorem f_143_21 : rfI 143 21 = some (.goto 4, (0, 0, 0, 0)) := by decide +kernel
theorem f_143_24 : rfI 143 24 = some (.iconst (-1), (0, 0, 0, 0)) := by decide +kernel
theorem f_143_25 : rfI 143 25 = some (.ireturn, (0, 0, 0, 0)) := by decide +kernel
theorem f_144_0 : rfI 144 0 = some (.aload_n 0, (0, 0, 0, 0)) := by decide +kernel
theorem f_144_1 : rfI 144 1 = some (.getfield 19, (11, 1, 2, 0)) := by decide +kernel
theorem f_144_4 : rfI 144 4 = some (.iload_n 1, (0, 0, 0, 0)) := by decide +kernel
theorem f_144_5 : rfI 144 5 = some (.bipush 10, (0, 0, 0, 0)) := by decide +kernel
theorem f_144_7 : rfI 144 7 = some (.isub, (0, 0, 0, 0)) := by decide +kernel
theorem f_144_8 : rfI 144 8 = some (.invokevirtual 158, (109, 2, 11, 0)) := by decide +kernel
theorem f_144_11 : rfI 144 11 = some (.istore_n 2, (0, 0, 0, 0)) := by decide +kernel
theorem f_144_12 : rfI 144 12 = some (.aload_n 0, (0, 0, 0, 0)) := by decide +kernel
theorem f_144_13 : rfI 144 13 = some (.getfield 19, (11, 1, 2, 0)) := by decide +kernel
theorem f_144_16 : rfI 144 16 = some (.iload_n 1, (0, 0, 0, 0)) := by decide +kernel
theorem f_144_17 : rfI 144 17 = some (.bipush 20, (0, 0, 0, 0)) := by decide +kernel
theorem f_144_19 : rfI 144 19 = some (.isub, (0, 0, 0, 0)) := by decide +kernel
theorem f_144_20 : rfI 144 20 = some (.invokevirtual 158, (109, 2, 11, 0)) := by decide +kernel
theorem f_144_23 : rfI 144 23 = some (.istore_n 3, (0, 0, 0, 0)) := by decide +kernel
theorem f_144_24 : rfI 144 24 = some (.iload_n 2, (0, 0, 0, 0)) := by decide +kernel
theorem f_144_25 : rfI 144 25 = some (.ifCond .ne 18, (0, 0, 0, 0)) := by decide +kernel
theorem f_144_28 : rfI 144 28 = some (.iload_n 3, (0, 0, 0, 0)) := by decide +kernel
theorem f_144_29 : rfI 144 29 = some (.ifCond .ne 14, (0, 0, 0, 0)) := by decide +kernel
theorem f_144_32 : rfI 144 32 = some (.iload_n 1, (0, 0, 0, 0)) := by decide +kernel
theorem f_144_33 : rfI 144 33 = some (.ifCond .eq 10, (0, 0, 0, 0)) := by decide +kernel
theorem f_144_36 : rfI 144 36 = some (.iload_n 1, (0, 0, 0, 0)) := by decide +kernel
theorem f_144_37 : rfI 144 37 = some (.iconst 1, (0, 0, 0, 0)) := by decide +kernel
theorem f_144_38 : rfI 144 38 = some (.if_icmp .eq 5, (0, 0, 0, 0)) := by decide +kernel
theorem f_144_41 : rfI 144 41 = some (.iconst (-1), (0, 0, 0, 0)) := by decide +kernel
theorem f_144_42 : rfI 144 42 = some (.ireturn, (0, 0, 0, 0)) := by decide +kernel
theorem f_144_43 : rfI 144 43 = some (.aload_n 0, (0, 0, 0, 0)) := by decide +kernel
theorem f_144_44 : rfI 144 44 = some (.getfield 60, (11, 8, 2, 0)) := by decide +kernel
theorem f_144_47 : rfI 144 47 = some (.aload_n 0, (0, 0, 0, 0)) := by decide +kernel
theorem f_144_48 : rfI 144 48 = some (.getfield 19, (11, 1, 2, 0)) := by decide +kernel
theorem f_144_51 : rfI 144 51 = some (.invokevirtual 200, (13, 2, 11, 0)) := by decide +kernel
theorem f_144_54 : rfI 144 54 = some (.aload_n 0, (0, 0, 0, 0)) := by decide +kernel
theorem f_144_55 : rfI 144 55 = some (.getfield 60, (11, 8, 2, 0)) := by decide +kernel
theorem f_144_58 : rfI 144 58 = some (.invokevirtual 203, (15, 1, 11, 0)) := by decide +kernel
theorem f_144_61 : rfI 144 61 = some (.iload_n 2, (0, 0, 0, 0)) := by decide +kernel
theorem f_144_62 : rfI 144 62 = some (.ifCond .eq 15, (0, 0, 0, 0)) := by decide +kernel
theorem f_144_65 : rfI 144 65 = some (.aload_n 0, (0, 0, 0, 0)) := by decide +kernel
theorem f_144_66 : rfI 144 66 = some (.getfield 60, (11, 8, 2, 0)) := by decide +kernel
theorem f_144_69 : rfI 144 69 = some (.iload_n 1, (0, 0, 0, 0)) := by decide +kernel
theorem f_144_70 : rfI 144 70 = some (.bipush 10, (0, 0, 0, 0)) := by decide +kernel
theorem f_144_72 : rfI 144 72 = some (.isub, (0, 0, 0, 0)) := by decide +kernel
theorem f_144_73 : rfI 144 73 = some (.invokevirtual 206, (18, 2, 11, 0)) := by decide +kernel
theorem f_144_76 : rfI 144 76 = some (.ireturn, (0, 0, 0, 0)) := by decide +kernel
theorem f_144_77 : rfI 144 77 = some (.iload_n 3, (0, 0, 0, 0)) := by decide +kernel
theorem f_144_78 : rfI 144 78 = some (.ifCond .eq 15, (0, 0, 0, 0)) := by decide +kernel
theorem f_144_81 : rfI 144 81 = some (.aload_n 0, (0, 0, 0, 0)) := by decide +kernel
theorem f_144_82 : rfI 144 82 = some (.getfield 60, (11, 8, 2, 0)) := by decide +kernel
theorem f_144_85 : rfI 144 85 = some (.iload_n 1, (0, 0, 0, 0)) := by decide +kernel
theorem f_144_86 : rfI 144 86 = some (.bipush 20, (0, 0, 0, 0)) := by decide +kernel
theorem f_144_88 : rfI 144 88 = some (.isub, (0, 0, 0, 0)) := by decide +kernel
theorem f_144_89 : rfI 144 89 = some (.invokevirtual 209, (19, 2, 11, 0)) := by decide +kernel
theorem f_144_92 : rfI 144 92 = some (.ireturn, (0, 0, 0, 0)) := by decide +kernel
theorem f_144_93 : rfI 144 93 = some (.iload_n 1, (0, 0, 0, 0)) := by decide +kernel
theorem f_144_94 : rfI 144 94 = some (.ifCond .ne 13, (0, 0, 0, 0)) := by decide +kernel
theorem f_144_97 : rfI 144 97 = some (.aload_n 0, (0, 0, 0, 0)) := by decide +kernel
theorem f_144_98 : rfI 144 98 = some (.getfield 60, (11, 8, 2, 0)) := by decide +kernel
theorem f_144_101 : rfI 144 101 = some (.invokevirtual 212, (21, 1, 11, 0)) := by decide +kernel
theorem f_144_104 : rfI 144 104 = some (.goto 10, (0, 0, 0, 0)) := by decide +kernel
theorem f_144_107 : rfI 144 107 = some (.aload_n 0, (0, 0, 0, 0)) := by decide +kernel
theorem f_144_108 : rfI 144 108 = some (.getfield 60, (11, 8, 2, 0)) := by decide +kernel
theorem f_144_111 : rfI 144 111 = some (.getfield 215, (1, 6, 0, 0)) := by decide +kernel
theorem f_144_114 : rfI 144 114 = some (.ireturn, (0, 0, 0, 0)) := by decide +kernel
theorem f_145_0 : rfI 145 0 = some (.aload_n 0, (0, 0, 0, 0)) := by decide +kernel
theorem f_145_1 : rfI 145 1 = some (.getfield 19, (11, 1, 2, 0)) := by decide +kernel
theorem f_145_4 : rfI 145 4 = some (.iload_n 1, (0, 0, 0, 0)) := by decide +kernel
theorem f_145_5 : rfI 145 5 = some (.invokevirtual 158, (109, 2, 11, 0)) := by decide +kernel
theorem f_145_8 : rfI 145 8 = some (.ifCond .ne 5, (0, 0, 0, 0)) := by decide +kernel
theorem f_145_11 : rfI 145 11 = some (.iconst (-1), (0, 0, 0, 0)) := by decide +kernel
theorem f_145_12 : rfI 145 12 = some (.ireturn, (0, 0, 0, 0)) := by decide +kernel
theorem f_145_13 : rfI 145 13 = some (.aload_n 0, (0, 0, 0, 0)) := by decide +kernel
theorem f_145_14 : rfI 145 14 = some (.getfield 60, (11, 8, 2, 0)) := by decide +kernel
theorem f_145_17 : rfI 145 17 = some (.aload_n 0, (0, 0, 0, 0)) := by decide +kernel
theorem f_145_18 : rfI 145 18 = some (.getfield 19, (11, 1, 2, 0)) := by decide +kernel
theorem f_145_21 : rfI 145 21 = some (.invokevirtual 200, (13, 2, 11, 0)) := by decide +kernel
theorem f_145_24 : rfI 145 24 = some (.aload_n 0, (0, 0, 0, 0)) := by decide +kernel
theorem f_145_25 : rfI 145 25 = some (.getfield 60, (11, 8, 2, 0)) := by decide +kernel
theorem f_145_28 : rfI 145 28 = some (.invokevirtual 203, (15, 1, 11, 0)) := by decide +kernel
theorem f_145_31 : rfI 145 31 = some (.aload_n 0, (0, 0, 0, 0)) := by decide +kernel
theorem f_145_32 : rfI 145 32 = some (.getfield 60, (11, 8, 2, 0)) := by decide +kernel
theorem f_145_35 : rfI 145 35 = some (.iload_n 1, (0, 0, 0, 0)) := by decide +kernel
theorem f_145_36 : rfI 145 36 = some (.invokevirtual 218, (20, 2, 11, 0)) := by decide +kernel
theorem f_145_39 : rfI 145 39 = some (.istore_n 2, (0, 0, 0, 0)) := by decide +kernel
theorem f_145_40 : rfI 145 40 = some (.iload_n 2, (0, 0, 0, 0)) := by decide +kernel
theorem f_145_41 : rfI 145 41 = some (.ifCond .le 7, (0, 0, 0, 0)) := by decide +kernel
theorem f_145_44 : rfI 145 44 = some (.iload_n 2, (0, 0, 0, 0)) := by decide +kernel
theorem f_145_45 : rfI 145 45 = some (.goto 5, (0, 0, 0, 0)) := by decide +kernel
theorem f_145_48 : rfI 145 48 = some (.bipush (-2), (0, 0, 0, 0)) := by decide +kernel
theorem f_145_50 : rfI 145 50 = some (.ireturn, (0, 0, 0, 0)) := by decide +kernel
theorem f_146_0 : rfI 146 0 = some (.iload_n 1, (0, 0, 0, 0)) := by decide +kernel
theorem f_146_1 : rfI 146 1 = some (.ifCond .eq 10, (0, 0, 0, 0)) := by decide +kernel
theorem f_146_4 : rfI 146 4 = some (.iload_n 1, (0, 0, 0, 0)) := by decide +kernel
theorem f_146_5 : rfI 146 5 = some (.iconst 1, (0, 0, 0, 0)) := by decide +kernel
theorem f_146_6 : rfI 146 6 = some (.if_icmp .eq 5, (0, 0, 0, 0)) := by decide +kernel
theorem f_146_9 : rfI 146 9 = some (.iconst (-1), (0, 0, 0, 0)) := by decide +kernel
theorem f_146_10 : rfI 146 10 = some (.ireturn, (0, 0, 0, 0)) := by decide +kernel
theorem f_146_11 : rfI 146 11 = some (.bipush (-2), (0, 0, 0, 0)) := by decide +kernel
theorem f_146_13 : rfI 146 13 = some (.istore_n 2, (0, 0, 0, 0)) := by decide +kernel
theorem f_146_14 : rfI 146 14 = some (.iconst 0, (0, 0, 0, 0)) := by decide +kernel
theorem f_146_15 : rfI 146 15 = some (.istore_n 3, (0, 0, 0, 0)) := by decide +kernel
theorem f_146_16 : rfI 146 16 = some (.iconst 0, (0, 0, 0, 0)) := by decide +kernel
theorem f_146_17 : rfI 146 17 = some (.istore 4, (0, 0, 0, 0)) := by decide +kernel
theorem f_146_19 : rfI 146 19 = some (.iload 4, (0, 0, 0, 0)) := by decide +kernel
theorem f_146_21 : rfI 146 21 = some (.bipush 8, (0, 0, 0, 0)) := by decide +kernel
theorem f_146_23 : rfI 146 23 = some (.if_icmp .ge 51, (0, 0, 0, 0)) := by decide +kernel
theorem f_146_26 : rfI 146 26 = some (.aload_n 0, (0, 0, 0, 0)) := by decide +kernel
theorem f_146_27 : rfI 146 27 = some (.getfield 19, (11, 1, 2, 0)) := by decide +kernel
theorem f_146_30 : rfI 146 30 = some (.iload 4, (0, 0, 0, 0)) := by decide +kernel
theorem f_146_32 : rfI 146 32 = some (.invokevirtual 176, (110, 2, 11, 0)) := by decide +kernel
theorem f_146_35 : rfI 146 35 = some (.ifCond .eq 33, (0, 0, 0, 0)) := by decide +kernel
theorem f_146_38 : rfI 146 38 = some (.aload_n 0, (0, 0, 0, 0)) := by decide +kernel
theorem f_146_39 : rfI 146 39 = some (.iload 4, (0, 0, 0, 0)) := by decide +kernel
theorem f_146_41 : rfI 146 41 = some (.sipush 9999, (0, 0, 0, 0)) := by decide +kernel
theorem f_146_44 : rfI 146 44 = some (.invokevirtual 221, (148, 3, 11, 0)) := by decide +kernel
theorem f_146_47 : rfI 146 47 = some (.invokestatic 224, (287, 1, 10, 0)) := by decide +kernel
theorem f_146_50 : rfI 146 50 = some (.istore 5, (0, 0, 0, 0)) := by decide +kernel
theorem f_146_52 : rfI 146 52 = some (.iload_n 2, (0, 0, 0, 0)) := by decide +kernel
theorem f_146_53 : rfI 146 53 = some (.ifCond .lt 9, (0, 0, 0, 0)) := by decide +kernel
theorem f_146_56 : rfI 146 56 = some (.iload 5, (0, 0, 0, 0)) := by decide +kernel
theorem f_146_58 : rfI 146 58 = some (.iload_n 3, (0, 0, 0, 0)) := by decide +kernel
theorem f_146_59 : rfI 146 59 = some (.if_icmp .le 9, (0, 0, 0, 0)) := by decide +kernel
theorem f_146_62 : rfI 146 62 = some (.iload 4, (0, 0, 0, 0)) := by decide +kernel
theorem f_146_64 : rfI 146 64 = some (.istore_n 2, (0, 0, 0, 0)) := by decide +kernel
theorem f_146_65 : rfI 146 65 = some (.iload 5, (0, 0, 0, 0)) := by decide +kernel
theorem f_146_67 : rfI 146 67 = some (.istore_n 3, (0, 0, 0, 0)) := by decide +kernel
theorem f_146_68 : rfI 146 68 = some (.iinc 4 1, (0, 0, 0, 0)) := by decide +kernel
theorem f_146_71 : rfI 146 71 = some (.goto (-52), (0, 0, 0, 0)) := by decide +kernel
theorem f_146_74 : rfI 146 74 = some (.iload_n 1, (0, 0, 0, 0)) := by decide +kernel
theorem f_146_75 : rfI 146 75 = some (.ifCond .ne 7, (0, 0, 0, 0)) := by decide +kernel
theorem f_146_78 : rfI 146 78 = some (.iload_n 2, (0, 0, 0, 0)) := by decide +kernel
theorem f_146_79 : rfI 146 79 = some (.goto 4, (0, 0, 0, 0)) := by decide +kernel
theorem f_146_82 : rfI 146 82 = some (.iload_n 3, (0, 0, 0, 0)) := by decide +kernel
theorem f_146_83 : rfI 146 83 = some (.ireturn, (0, 0, 0, 0)) := by decide +kernel
theorem f_147_0 : rfI 147 0 = some (.aload_n 0, (0, 0, 0, 0)) := by decide +kernel
theorem f_147_1 : rfI 147 1 = some (.getfield 19, (11, 1, 2, 0)) := by decide +kernel
theorem f_147_4 : rfI 147 4 = some (.iload_n 1, (0, 0, 0, 0)) := by decide +kernel
theorem f_147_5 : rfI 147 5 = some (.invokevirtual 176, (110, 2, 11, 0)) := by decide +kernel
theorem f_147_8 : rfI 147 8 = some (.ifCond .eq 14, (0, 0, 0, 0)) := by decide +kernel
theorem f_147_11 : rfI 147 11 = some (.iload_n 2, (0, 0, 0, 0)) := by decide +kernel
theorem f_147_12 : rfI 147 12 = some (.ifCond .lt 10, (0, 0, 0, 0)) := by decide +kernel
theorem f_147_15 : rfI 147 15 = some (.iload_n 2, (0, 0, 0, 0)) := by decide +kernel
theorem f_147_16 : rfI 147 16 = some (.sipush 9999, (0, 0, 0, 0)) := by decide +kernel
theorem f_147_19 : rfI 147 19 = some (.if_icmp .le 5, (0, 0, 0, 0)) := by decide +kernel
theorem f_147_22 : rfI 147 22 = some (.iconst (-1), (0, 0, 0, 0)) := by decide +kernel
theorem f_147_23 : rfI 147 23 = some (.ireturn, (0, 0, 0, 0)) := by decide +kernel
theorem f_147_24 : rfI 147 24 = some (.aload_n 0, (0, 0, 0, 0)) := by decide +kernel
theorem f_147_25 : rfI 147 25 = some (.iload_n 1, (0, 0, 0, 0)) := by decide +kernel
theorem f_147_26 : rfI 147 26 = some (.iload_n 2, (0, 0, 0, 0)) := by decide +kernel
theorem f_147_27 : rfI 147 27 = some (.invokevirtual 221, (148, 3, 11, 0)) := by decide +kernel
theorem f_147_30 : rfI 147 30 = some (.ireturn, (0, 0, 0, 0)) := by decide +kernel
theorem f_148_0 : rfI 148 0 = some (.aload_n 0, (0, 0, 0, 0)) := by decide +kernel
theorem f_148_1 : rfI 148 1 = some (.getfield 60, (11, 8, 2, 0)) := by decide +kernel
theorem f_148_4 : rfI 148 4 = some (.aload_n 0, (0, 0, 0, 0)) := by decide +kernel
theorem f_148_5 : rfI 148 5 = some (.getfield 19, (11, 1, 2, 0)) := by decide +kernel
theorem f_148_8 : rfI 148 8 = some (.invokevirtual 200, (13, 2, 11, 0)) := by decide +kernel
theorem f_148_11 : rfI 148 11 = some (.aload_n 0, (0, 0, 0, 0)) := by decide +kernel
theorem f_148_12 : rfI 148 12 = some (.getfield 60, (11, 8, 2, 0)) := by decide +kernel
theorem f_148_15 : rfI 148 15 = some (.iload_n 1, (0, 0, 0, 0)) := by decide +kernel
theorem f_148_16 : rfI 148 16 = some (.iload_n 2, (0, 0, 0, 0)) := by decide +kernel
theorem f_148_17 : rfI 148 17 = some (.invokevirtual 229, (14, 3, 11, 0)) := by decide +kernel
theorem f_148_20 : rfI 148 20 = some (.aload_n 0, (0, 0, 0, 0)) := by decide +kernel
theorem f_148_21 : rfI 148 21 = some (.getfield 60, (11, 8, 2, 0)) := by decide +kernel
theorem f_148_24 : rfI 148 24 = some (.invokevirtual 203, (15, 1, 11, 0)) := by decide +kernel
theorem f_148_27 : rfI 148 27 = some (.aload_n 0, (0, 0, 0, 0)) := by decide +kernel
theorem f_148_28 : rfI 148 28 = some (.getfield 60, (11, 8, 2, 0)) := by decide +kernel
theorem f_148_31 : rfI 148 31 = some (.invokevirtual 212, (21, 1, 11, 0)) := by decide +kernel
theorem f_148_34 : rfI 148 34 = some (.ireturn, (0, 0, 0, 0)) := by decide +kernel
theorem f_149_0 : rfI 149 0 = some (.aload_n 0, (0, 0, 0, 0)) := by decide +kernel
theorem f_149_1 : rfI 149 1 = some (.getfield 19, (11, 1, 2, 0)) := by decide +kernel
theorem f_149_4 : rfI 149 4 = some (.iload_n 1, (0, 0, 0, 0)) := by decide +kernel
theorem f_149_5 : rfI 149 5 = some (.invokevirtual 176, (110, 2, 11, 0)) := by decide +kernel
theorem f_149_8 : rfI 149 8 = some (.ifCond .eq 14, (0, 0, 0, 0)) := by decide +kernel
theorem f_149_11 : rfI 149 11 = some (.aload_n 0, (0, 0, 0, 0)) := by decide +kernel
theorem f_149_12 : rfI 149 12 = some (.getfield 19, (11, 1, 2, 0)) := by decide +kernel
theorem f_149_15 : rfI 149 15 = some (.iload_n 2, (0, 0, 0, 0)) := by decide +kernel
theorem f_149_16 : rfI 149 16 = some (.invokevirtual 176, (110, 2, 11, 0)) := by decide +kernel
theorem f_149_19 : rfI 149 19 = some (.ifCond .ne 5, (0, 0, 0, 0)) := by decide +kernel
theorem f_149_22 : rfI 149 22 = some (.iconst (-1), (0, 0, 0, 0)) := by decide +kernel
theorem f_149_23 : rfI 149 23 = some (.ireturn, (0, 0, 0, 0)) := by decide +kernel
theorem f_149_24 : rfI 149 24 = some (.iconst 1, (0, 0, 0, 0)) := by decide +kernel
theorem f_149_25 : rfI 149 25 = some (.iload_n 2, (0, 0, 0, 0)) := by decide +kernel
theorem f_149_26 : rfI 149 26 = some (.ishl, (0, 0, 0, 0)) := by decide +kernel
theorem f_149_27 : rfI 149 27 = some (.istore_n 3, (0, 0, 0, 0)) := by decide +kernel
theorem f_149_28 : rfI 149 28 = some (.aload_n 0, (0, 0, 0, 0)) := by decide +kernel
theorem f_149_29 : rfI 149 29 = some (.iload_n 1, (0, 0, 0, 0)) := by decide +kernel
theorem f_149_30 : rfI 149 30 = some (.sipush 9999, (0, 0, 0, 0)) := by decide +kernel
theorem f_149_33 : rfI 149 33 = some (.invokevirtual 221, (148, 3, 11, 0)) := by decide +kernel
theorem f_149_36 : rfI 149 36 = some (.iload_n 3, (0, 0, 0, 0)) := by decide +kernel
theorem f_149_37 : rfI 149 37 = some (.iand, (0, 0, 0, 0)) := by decide +kernel
theorem f_149_38 : rfI 149 38 = some (.ifCond .ne 6, (0, 0, 0, 0)) := by decide +kernel
theorem f_149_41 : rfI 149 41 = some (.bipush (-2), (0, 0, 0, 0)) := by decide +kernel
theorem f_149_43 : rfI 149 43 = some (.ireturn, (0, 0, 0, 0)) := by decide +kernel
theorem f_149_44 : rfI 149 44 = some (.iconst 0, (0, 0, 0, 0)) := by decide +kernel
theorem f_149_45 : rfI 149 45 = some (.istore 4, (0, 0, 0, 0)) := by decide +kernel
theorem f_149_47 : rfI 149 47 = some (.aload_n 0, (0, 0, 0, 0)) := by decide +kernel
theorem f_149_48 : rfI 149 48 = some (.getfield 19, (11, 1, 2, 0)) := by decide +kernel
theorem f_149_51 : rfI 149 51 = some (.iload_n 1, (0, 0, 0, 0)) := by decide +kernel
theorem f_149_52 : rfI 149 52 = some (.invokevirtual 171, (114, 2, 11, 0)) := by decide +kernel
theorem f_149_55 : rfI 149 55 = some (.istore 5, (0, 0, 0, 0)) := by decide +kernel
theorem f_149_57 : rfI 149 57 = some (.iload 4, (0, 0, 0, 0)) := by decide +kernel
theorem f_149_59 : rfI 149 59 = some (.iload 5, (0, 0, 0, 0)) := by decide +kernel
theorem f_149_61 : rfI 149 61 = some (.if_icmp .ge 40, (0, 0, 0, 0)) := by decide +kernel
theorem f_149_64 : rfI 149 64 = some (.iload 4, (0, 0, 0, 0)) := by decide +kernel
theorem f_149_66 : rfI 149 66 = some (.iload 5, (0, 0, 0, 0)) := by decide +kernel
theorem f_149_68 : rfI 149 68 = some (.iadd, (0, 0, 0, 0)) := by decide +kernel
theorem f_149_69 : rfI 149 69 = some (.iconst 2, (0, 0, 0, 0)) := by decide +kernel
theorem f_149_70 : rfI 149 70 = some (.idiv, (0, 0, 0, 0)) := by decide +kernel
theorem f_149_71 : rfI 149 71 = some (.istore 6, (0, 0, 0, 0)) := by decide +kernel
theorem f_149_73 : rfI 149 73 = some (.aload_n 0, (0, 0, 0, 0)) := by decide +kernel
theorem f_149_74 : rfI 149 74 = some (.iload_n 1, (0, 0, 0, 0)) := by decide +kernel
theorem f_149_75 : rfI 149 75 = some (.iload 6, (0, 0, 0, 0)) := by decide +kernel
theorem f_149_77 : rfI 149 77 = some (.invokevirtual 221, (148, 3, 11, 0)) := by decide +kernel
theorem f_149_80 : rfI 149 80 = some (.iload_n 3, (0, 0, 0, 0)) := by decide +kernel
theorem f_149_81 : rfI 149 81 = some (.iand, (0, 0, 0, 0)) := by decide +kernel
theorem f_149_82 : rfI 149 82 = some (.ifCond .eq 10, (0, 0, 0, 0)) := by decide +kernel
theorem f_149_85 : rfI 149 85 = some (.iload 6, (0, 0, 0, 0)) := by decide +kernel
theorem f_149_87 : rfI 149 87 = some (.istore 5, (0, 0, 0, 0)) := by decide +kernel
theorem f_149_89 : rfI 149 89 = some (.goto 9, (0, 0, 0, 0)) := by decide +kernel
theorem f_149_92 : rfI 149 92 = some (.iload 6, (0, 0, 0, 0)) := by decide +kernel
theorem f_149_94 : rfI 149 94 = some (.iconst 1, (0, 0, 0, 0)) := by decide +kernel
theorem f_149_95 : rfI 149 95 = some (.iadd, (0, 0, 0, 0)) := by decide +kernel
theorem f_149_96 : rfI 149 96 = some (.istore 4, (0, 0, 0, 0)) := by decide +kernel
theorem f_149_98 : rfI 149 98 = some (.goto (-41), (0, 0, 0, 0)) := by decide +kernel
theorem f_149_101 : rfI 149 101 = some (.iload 4, (0, 0, 0, 0)) := by decide +kernel
theorem f_149_103 : rfI 149 103 = some (.ireturn, (0, 0, 0, 0)) := by decide +kernel
theorem f_150_0 : rfI 150 0 = some (.aload_n 0, (0, 0, 0, 0)) := by decide +kernel
theorem f_150_1 : rfI 150 1 = some (.getfield 19, (11, 1, 2, 0)) := by decide +kernel
theorem f_150_4 : rfI 150 4 = some (.iload_n 1, (0, 0, 0, 0)) := by decide +kernel
theorem f_150_5 : rfI 150 5 = some (.invokevirtual 176, (110, 2, 11, 0)) := by decide +kernel
theorem f_150_8 : rfI 150 8 = some (.ifCond .ne 5, (0, 0, 0, 0)) := by decide +kernel
theorem f_150_11 : rfI 150 11 = some (.iconst (-1), (0, 0, 0, 0)) := by decide +kernel
theorem f_150_12 : rfI 150 12 = some (.ireturn, (0, 0, 0, 0)) := by decide +kernel
theorem f_150_13 : rfI 150 13 = some (.iconst 0, (0, 0, 0, 0)) := by decide +kernel
theorem f_150_14 : rfI 150 14 = some (.istore_n 2, (0, 0, 0, 0)) := by decide +kernel
theorem f_150_15 : rfI 150 15 = some (.iload_n 2, (0, 0, 0, 0)) := by decide +kernel
theorem f_150_16 : rfI 150 16 = some (.bipush 8, (0, 0, 0, 0)) := by decide +kernel
theorem f_150_18 : rfI 150 18 = some (.if_icmp .ge 28, (0, 0, 0, 0)) := by decide +kernel
theorem f_150_21 : rfI 150 21 = some (.iload_n 2, (0, 0, 0, 0)) := by decide +kernel
theorem f_150_22 : rfI 150 22 = some (.iload_n 1, (0, 0, 0, 0)) := by decide +kernel
theorem f_150_23 : rfI 150 23 = some (.if_icmp .eq 17, (0, 0, 0, 0)) := by decide +kernel
theorem f_150_26 : rfI 150 26 = some (.aload_n 0, (0, 0, 0, 0)) := by decide +kernel
theorem f_150_27 : rfI 150 27 = some (.getfield 19, (11, 1, 2, 0)) := by decide +kernel
theorem f_150_30 : rfI 150 30 = some (.iload_n 2, (0, 0, 0, 0)) := by decide +kernel
theorem f_150_31 : rfI 150 31 = some (.invokevirtual 185, (123, 2, 11, 0)) := by decide +kernel
theorem f_150_34 : rfI 150 34 = some (.ifCond .ge 6, (0, 0, 0, 0)) := by decide +kernel
theorem f_150_37 : rfI 150 37 = some (.bipush (-2), (0, 0, 0, 0)) := by decide +kernel
theorem f_150_39 : rfI 150 39 = some (.ireturn, (0, 0, 0, 0)) := by decide +kernel
theorem f_150_40 : rfI 150 40 = some (.iinc 2 1, (0, 0, 0, 0)) := by decide +kernel
theorem f_150_43 : rfI 150 43 = some (.goto (-28), (0, 0, 0, 0)) := by decide +kernel
theorem f_150_46 : rfI 150 46 = some (.iconst 0, (0, 0, 0, 0)) := by decide +kernel
theorem f_150_47 : rfI 150 47 = some (.aload_n 0, (0, 0, 0, 0)) := by decide +kernel
theorem f_150_48 : rfI 150 48 = some (.getfield 19, (11, 1, 2, 0)) := by decide +kernel
theorem f_150_51 : rfI 150 51 = some (.iload_n 1, (0, 0, 0, 0)) := by decide +kernel
theorem f_150_52 : rfI 150 52 = some (.invokevirtual 185, (123, 2, 11, 0)) := by decide +kernel
theorem f_150_55 : rfI 150 55 = some (.ineg, (0, 0, 0, 0)) := by decide +kernel
theorem f_150_56 : rfI 150 56 = some (.invokestatic 232, (1001, 2, 13, 0)) := by decide +kernel
theorem f_150_59 : rfI 150 59 = some (.ireturn, (0, 0, 0, 0)) := by decide +kernel
theorem f_151_0 : rfI 151 0 = some (.aload_n 0, (0, 0, 0, 0)) := by decide +kernel
theorem f_151_1 : rfI 151 1 = some (.getfield 19, (11, 1, 2, 0)) := by decide +kernel
theorem f_151_4 : rfI 151 4 = some (.invokevirtual 237, (126, 1, 11, 0)) := by decide +kernel
theorem f_151_7 : rfI 151 7 = some (.ireturn, (0, 0, 0, 0)) := by decide +kernel
theorem f_152_0 : rfI 152 0 = some (.iload_n 1, (0, 0, 0, 0)) := by decide +kernel
theorem f_152_1 : rfI 152 1 = some (.ifCond .eq 10, (0, 0, 0, 0)) := by decide +kernel
theorem f_152_4 : rfI 152 4 = some (.iload_n 1, (0, 0, 0, 0)) := by decide +kernel
theorem f_152_5 : rfI 152 5 = some (.iconst 1, (0, 0, 0, 0)) := by decide +kernel
theorem f_152_6 : rfI 152 6 = some (.if_icmp .eq 5, (0, 0, 0, 0)) := by decide +kernel
theorem f_152_9 : rfI 152 9 = some (.iconst (-1), (0, 0, 0, 0)) := by decide +kernel
theorem f_152_10 : rfI 152 10 = some (.ireturn, (0, 0, 0, 0)) := by decide +kernel
theorem f_152_11 : rfI 152 11 = some (.aload_n 0, (0, 0, 0, 0)) := by decide +kernel
theorem f_152_12 : rfI 152 12 = some (.getfield 74, (11, 10, 2, 0)) := by decide +kernel
theorem f_152_15 : rfI 152 15 = some (.aload_n 0, (0, 0, 0, 0)) := by decide +kernel
theorem f_152_16 : rfI 152 16 = some (.getfield 19, (11, 1, 2, 0)) := by decide +kernel
theorem f_152_19 : rfI 152 19 = some (.invokevirtual 240, (76, 2, 11, 0)) := by decide +kernel
theorem f_152_22 : rfI 152 22 = some (.istore_n 2, (0, 0, 0, 0)) := by decide +kernel
theorem f_152_23 : rfI 152 23 = some (.iload_n 1, (0, 0, 0, 0)) := by decide +kernel
theorem f_152_24 : rfI 152 24 = some (.ifCond .ne 15, (0, 0, 0, 0)) := by decide +kernel
theorem f_152_27 : rfI 152 27 = some (.aload_n 0, (0, 0, 0, 0)) := by decide +kernel
theorem f_152_28 : rfI 152 28 = some (.getfield 74, (11, 10, 2, 0)) := by decide +kernel
theorem f_152_31 : rfI 152 31 = some (.getfield 244, (7, 3, 0, 0)) := by decide +kernel
theorem f_152_34 : rfI 152 34 = some (.iload_n 2, (0, 0, 0, 0)) := by decide +kernel
theorem f_152_35 : rfI 152 35 = some (.isub, (0, 0, 0, 0)) := by decide +kernel
theorem f_152_36 : rfI 152 36 = some (.goto 4, (0, 0, 0, 0)) := by decide +kernel
theorem f_152_39 : rfI 152 39 = some (.iload_n 2, (0, 0, 0, 0)) := by decide +kernel
theorem f_152_40 : rfI 152 40 = some (.ireturn, (0, 0, 0, 0)) := by decide +kernel
theorem f_153_0 : rfI 153 0 = some (.aload_n 0, (0, 0, 0, 0)) := by decide +kernel
theorem f_153_1 : rfI 153 1 = some (.getfield 19, (11, 1, 2, 0)) := by decide +kernel
theorem f_153_4 : rfI 153 4 = some (.iload_n 1, (0, 0, 0, 0)) := by decide +kernel
theorem f_153_5 : rfI 153 5 = some (.invokevirtual 158, (109, 2, 11, 0)) := by decide +kernel
theorem f_153_8 : rfI 153 8 = some (.ifCond .eq 12, (0, 0, 0, 0)) := by decide +kernel
theorem f_153_11 : rfI 153 11 = some (.iload_n 2, (0, 0, 0, 0)) := by decide +kernel
theorem f_153_12 : rfI 153 12 = some (.ifCond .eq 10, (0, 0, 0, 0)) := by decide +kernel
theorem f_153_15 : rfI 153 15 = some (.iload_n 2, (0, 0, 0, 0)) := by decide +kernel
theorem f_153_16 : rfI 153 16 = some (.iconst 1, (0, 0, 0, 0)) := by decide +kernel
theorem f_153_17 : rfI 153 17 = some (.if_icmp .eq 5, (0, 0, 0, 0)) := by decide +kernel
theorem f_153_20 : rfI 153 20 = some (.iconst (-1), (0, 0, 0, 0)) := by decide +kernel
theorem f_153_21 : rfI 153 21 = some (.ireturn, (0, 0, 0, 0)) := by decide +kernel
theorem f_153_22 : rfI 153 22 = some (.aload_n 0, (0, 0, 0, 0)) := by decide +kernel
theorem f_153_23 : rfI 153 23 = some (.getfield 67, (11, 9, 2, 0)) := by decide +kernel
theorem f_153_26 : rfI 153 26 = some (.aload_n 0, (0, 0, 0, 0)) := by decide +kernel
theorem f_153_27 : rfI 153 27 = some (.getfield 19, (11, 1, 2, 0)) := by decide +kernel
theorem f_153_30 : rfI 153 30 = some (.iload_n 1, (0, 0, 0, 0)) := by decide +kernel
theorem f_153_31 : rfI 153 31 = some (.invokevirtual 247, (86, 3, 11, 0)) := by decide +kernel
theorem f_153_34 : rfI 153 34 = some (.aload_n 0, (0, 0, 0, 0)) := by decide +kernel
theorem f_153_35 : rfI 153 35 = some (.getfield 67, (11, 9, 2, 0)) := by decide +kernel
theorem f_153_38 : rfI 153 38 = some (.iload_n 1, (0, 0, 0, 0)) := by decide +kernel
theorem f_153_39 : rfI 153 39 = some (.invokevirtual 251, (89, 2, 11, 0)) := by decide +kernel
theorem f_153_42 : rfI 153 42 = some (.istore_n 3, (0, 0, 0, 0)) := by decide +kernel
theorem f_153_43 : rfI 153 43 = some (.iload_n 3, (0, 0, 0, 0)) := by decide +kernel
theorem f_153_44 : rfI 153 44 = some (.ifCond .ne 6, (0, 0, 0, 0)) := by decide +kernel
theorem f_153_47 : rfI 153 47 = some (.bipush (-2), (0, 0, 0, 0)) := by decide +kernel
theorem f_153_49 : rfI 153 49 = some (.ireturn, (0, 0, 0, 0)) := by decide +kernel
theorem f_153_50 : rfI 153 50 = some (.iload_n 2, (0, 0, 0, 0)) := by decide +kernel
theorem f_153_51 : rfI 153 51 = some (.ifCond .ne 7, (0, 0, 0, 0)) := by decide +kernel
theorem f_153_54 : rfI 153 54 = some (.iload_n 3, (0, 0, 0, 0)) := by decide +kernel
theorem f_153_55 : rfI 153 55 = some (.goto 12, (0, 0, 0, 0)) := by decide +kernel
theorem f_153_58 : rfI 153 58 = some (.aload_n 0, (0, 0, 0, 0)) := by decide +kernel
theorem f_153_59 : rfI 153 59 = some (.getfield 67, (11, 9, 2, 0)) := by decide +kernel
theorem f_153_62 : rfI 153 62 = some (.iload_n 3, (0, 0, 0, 0)) := by decide +kernel
theorem f_153_63 : rfI 153 63 = some (.iload_n 1, (0, 0, 0, 0)) := by decide +kernel
theorem f_153_64 : rfI 153 64 = some (.invokevirtual 254, (88, 3, 11, 0)) := by decide +kernel
theorem f_153_67 : rfI 153 67 = some (.ireturn, (0, 0, 0, 0)) := by decide +kernel
theorem f_154_0 : rfI 154 0 = some (.aload_n 0, (0, 0, 0, 0)) := by decide +kernel
theorem f_154_1 : rfI 154 1 = some (.getfield 19, (11, 1, 2, 0)) := by decide +kernel
theorem f_154_4 : rfI 154 4 = some (.iload_n 1, (0, 0, 0, 0)) := by decide +kernel
theorem f_154_5 : rfI 154 5 = some (.iload_n 2, (0, 0, 0, 0)) := by decide +kernel
theorem f_154_6 : rfI 154 6 = some (.invokevirtual 191, (111, 3, 11, 0)) := by decide +kernel
theorem f_154_9 : rfI 154 9 = some (.ifCond .eq 12, (0, 0, 0, 0)) := by decide +kernel
theorem f_154_12 : rfI 154 12 = some (.iload_n 3, (0, 0, 0, 0)) := by decide +kernel
theorem f_154_13 : rfI 154 13 = some (.ifCond .eq 10, (0, 0, 0, 0)) := by decide +kernel
theorem f_154_16 : rfI 154 16 = some (.iload_n 3, (0, 0, 0, 0)) := by decide +kernel
theorem f_154_17 : rfI 154 17 = some (.iconst 1, (0, 0, 0, 0)) := by decide +kernel
theorem f_154_18 : rfI 154 18 = some (.if_icmp .eq 5, (0, 0, 0, 0)) := by decide +kernel
theorem f_154_21 : rfI 154 21 = some (.iconst (-1), (0, 0, 0, 0)) := by decide +kernel
theorem f_154_22 : rfI 154 22 = some (.ireturn, (0, 0, 0, 0)) := by decide +kernel
theorem f_154_23 : rfI 154 23 = some (.aload_n 0, (0, 0, 0, 0)) := by decide +kernel
theorem f_154_24 : rfI 154 24 = some (.getfield 67, (11, 9, 2, 0)) := by decide +kernel
theorem f_154_27 : rfI 154 27 = some (.aload_n 0, (0, 0, 0, 0)) := by decide +kernel
theorem f_154_28 : rfI 154 28 = some (.getfield 19, (11, 1, 2, 0)) := by decide +kernel
theorem f_154_31 : rfI 154 31 = some (.iload_n 1, (0, 0, 0, 0)) := by decide +kernel
theorem f_154_32 : rfI 154 32 = some (.invokevirtual 247, (86, 3, 11, 0)) := by decide +kernel
theorem f_154_35 : rfI 154 35 = some (.aload_n 0, (0, 0, 0, 0)) := by decide +kernel
theorem f_154_36 : rfI 154 36 = some (.getfield 67, (11, 9, 2, 0)) := by decide +kernel
theorem f_154_39 : rfI 154 39 = some (.iload_n 2, (0, 0, 0, 0)) := by decide +kernel
theorem f_154_40 : rfI 154 40 = some (.invokevirtual 257, (90, 2, 11, 0)) := by decide +kernel
theorem f_154_43 : rfI 154 43 = some (.istore 4, (0, 0, 0, 0)) := by decide +kernel
theorem f_154_45 : rfI 154 45 = some (.iload 4, (0, 0, 0, 0)) := by decide +kernel
theorem f_154_47 : rfI 154 47 = some (.ifCond .ne 6, (0, 0, 0, 0)) := by decide +kernel
theorem f_154_50 : rfI 154 50 = some (.bipush (-2), (0, 0, 0, 0)) := by decide +kernel
theorem f_154_52 : rfI 154 52 = some (.ireturn, (0, 0, 0, 0)) := by decide +kernel
theorem f_154_53 : rfI 154 53 = some (.iload_n 3, (0, 0, 0, 0)) := by decide +kernel
theorem f_154_54 : rfI 154 54 = some (.ifCond .ne 16, (0, 0, 0, 0)) := by decide +kernel
theorem f_154_57 : rfI 154 57 = some (.aload_n 0, (0, 0, 0, 0)) := by decide +kernel
theorem f_154_58 : rfI 154 58 = some (.getfield 67, (11, 9, 2, 0)) := by decide +kernel
theorem f_154_61 : rfI 154 61 = some (.iload 4, (0, 0, 0, 0)) := by decide +kernel
theorem f_154_63 : rfI 154 63 = some (.iload_n 2, (0, 0, 0, 0)) := by decide +kernel
theorem f_154_64 : rfI 154 64 = some (.invokevirtual 254, (88, 3, 11, 0)) := by decide +kernel
theorem f_154_67 : rfI 154 67 = some (.goto 5, (0, 0, 0, 0)) := by decide +kernel
theorem f_154_70 : rfI 154 70 = some (.iload 4, (0, 0, 0, 0)) := by decide +kernel
theorem f_154_72 : rfI 154 72 = some (.ireturn, (0, 0, 0, 0)) := by decide +kernel
theorem f_155_0 : rfI 155 0 = some (.iload_n 1, (0, 0, 0, 0)) := by decide +kernel
theorem f_155_1 : rfI 155 1 = some (.aload_n 0, (0, 0, 0, 0)) := by decide +kernel
theorem f_155_2 : rfI 155 2 = some (.getfield 19, (11, 1, 2, 0)) := by decide +kernel
theorem f_155_5 : rfI 155 5 = some (.getfield 260, (10, 4, 0, 0)) := by decide +kernel
theorem f_155_8 : rfI 155 8 = some (.iconst (-1), (0, 0, 0, 0)) := by decide +kernel
theorem f_155_9 : rfI 155 9 = some (.ixor, (0, 0, 0, 0)) := by decide +kernel
theorem f_155_10 : rfI 155 10 = some (.iand, (0, 0, 0, 0)) := by decide +kernel
theorem f_155_11 : rfI 155 11 = some (.ifCond .ne 7, (0, 0, 0, 0)) := by decide +kernel
theorem f_155_14 : rfI 155 14 = some (.iconst 1, (0, 0, 0, 0)) := by decide +kernel
theorem f_155_15 : rfI 155 15 = some (.goto 4, (0, 0, 0, 0)) := by decide +kernel
theorem f_155_18 : rfI 155 18 = some (.iconst 0, (0, 0, 0, 0)) := by decide +kernel
theorem f_155_19 : rfI 155 19 = some (.istore_n 3, (0, 0, 0, 0)) := by decide +kernel
theorem f_155_20 : rfI 155 20 = some (.iload_n 3, (0, 0, 0, 0)) := by decide +kernel
theorem f_155_21 : rfI 155 21 = some (.ifCond .eq 20, (0, 0, 0, 0)) := by decide +kernel
theorem f_155_24 : rfI 155 24 = some (.iload_n 1, (0, 0, 0, 0)) := by decide +kernel
theorem f_155_25 : rfI 155 25 = some (.invokestatic 224, (287, 1, 10, 0)) := by decide +kernel
theorem f_155_28 : rfI 155 28 = some (.iconst 2, (0, 0, 0, 0)) := by decide +kernel
theorem f_155_29 : rfI 155 29 = some (.if_icmp .lt 12, (0, 0, 0, 0)) := by decide +kernel
theorem f_155_32 : rfI 155 32 = some (.iload_n 2, (0, 0, 0, 0)) := by decide +kernel
theorem f_155_33 : rfI 155 33 = some (.ifCond .eq 10, (0, 0, 0, 0)) := by decide +kernel
theorem f_155_36 : rfI 155 36 = some (.iload_n 2, (0, 0, 0, 0)) := by decide +kernel
theorem f_155_37 : rfI 155 37 = some (.iconst 1, (0, 0, 0, 0)) := by decide +kernel
theorem f_155_38 : rfI 155 38 = some (.if_icmp .eq 5, (0, 0, 0, 0)) := by decide +kernel
theorem f_155_41 : rfI 155 41 = some (.iconst (-1), (0, 0, 0, 0)) := by decide +kernel
theorem f_155_42 : rfI 155 42 = some (.ireturn, (0, 0, 0, 0)) := by decide +kernel
theorem f_155_43 : rfI 155 43 = some (.aload_n 0, (0, 0, 0, 0)) := by decide +kernel
theorem f_155_44 : rfI 155 44 = some (.getfield 74, (11, 10, 2, 0)) := by decide +kernel
theorem f_155_47 : rfI 155 47 = some (.aload_n 0, (0, 0, 0, 0)) := by decide +kernel
theorem f_155_48 : rfI 155 48 = some (.getfield 19, (11, 1, 2, 0)) := by decide +kernel
theorem f_155_51 : rfI 155 51 = some (.iload_n 1, (0, 0, 0, 0)) := by decide +kernel
theorem f_155_52 : rfI 155 52 = some (.invokevirtual 263, (79, 3, 11, 0)) := by decide +kernel
theorem f_155_55 : rfI 155 55 = some (.iload_n 2, (0, 0, 0, 0)) := by decide +kernel
theorem f_155_56 : rfI 155 56 = some (.ifCond .ne 14, (0, 0, 0, 0)) := by decide +kernel
theorem f_155_59 : rfI 155 59 = some (.aload_n 0, (0, 0, 0, 0)) := by decide +kernel
theorem f_155_60 : rfI 155 60 = some (.getfield 74, (11, 10, 2, 0)) := by decide +kernel
theorem f_155_63 : rfI 155 63 = some (.iload_n 1, (0, 0, 0, 0)) := by decide +kernel
theorem f_155_64 : rfI 155 64 = some (.invokevirtual 266, (83, 2, 11, 0)) := by decide +kernel
theorem f_155_67 : rfI 155 67 = some (.goto 11, (0, 0, 0, 0)) := by decide +kernel
theorem f_155_70 : rfI 155 70 = some (.aload_n 0, (0, 0, 0, 0)) := by decide +kernel
theorem f_155_71 : rfI 155 71 = some (.getfield 74, (11, 10, 2, 0)) := by decide +kernel
theorem f_155_74 : rfI 155 74 = some (.iload_n 1, (0, 0, 0, 0)) := by decide +kernel
theorem f_155_75 : rfI 155 75 = some (.invokevirtual 269, (84, 2, 11, 0)) := by decide +kernel
theorem f_155_78 : rfI 155 78 = some (.ireturn, (0, 0, 0, 0)) := by decide +kernel
theorem f_156_0 : rfI 156 0 = some (.aload_n 0, (0, 0, 0, 0)) := by decide +kernel
theorem f_156_1 : rfI 156 1 = some (.getfield 19, (11, 1, 2, 0)) := by decide +kernel
theorem f_156_4 : rfI 156 4 = some (.iload_n 1, (0, 0, 0, 0)) := by decide +kernel
theorem f_156_5 : rfI 156 5 = some (.iload_n 2, (0, 0, 0, 0)) := by decide +kernel
theorem f_156_6 : rfI 156 6 = some (.invokevirtual 104, (112, 3, 11, 0)) := by decide +kernel
theorem f_156_9 : rfI 156 9 = some (.ifCond .ne 5, (0, 0, 0, 0)) := by decide +kernel
theorem f_156_12 : rfI 156 12 = some (.iconst 0, (0, 0, 0, 0)) := by decide +kernel
theorem f_156_13 : rfI 156 13 = some (.ireturn, (0, 0, 0, 0)) := by decide +kernel
theorem f_156_14 : rfI 156 14 = some (.aload_n 0, (0, 0, 0, 0)) := by decide +kernel
theorem f_156_15 : rfI 156 15 = some (.getfield 19, (11, 1, 2, 0)) := by decide +kernel
theorem f_156_18 : rfI 156 18 = some (.iload_n 1, (0, 0, 0, 0)) := by decide +kernel
theorem f_156_19 : rfI 156 19 = some (.iload_n 2, (0, 0, 0, 0)) := by decide +kernel
theorem f_156_20 : rfI 156 20 = some (.invokevirtual 272, (130, 3, 11, 0)) := by decide +kernel
theorem f_156_23 : rfI 156 23 = some (.iconst 1, (0, 0, 0, 0)) := by decide +kernel
theorem f_156_24 : rfI 156 24 = some (.ireturn, (0, 0, 0, 0)) := by decide +kernel
theorem f_157_0 : rfI 157 0 = some (.iload_n 1, (0, 0, 0, 0)) := by decide +kernel
theorem f_157_1 : rfI 157 1 = some (.ifCond .lt 20, (0, 0, 0, 0)) := by decide +kernel
theorem f_157_4 : rfI 157 4 = some (.iload_n 1, (0, 0, 0, 0)) := by decide +kernel
theorem f_157_5 : rfI 157 5 = some (.iconst 2, (0, 0, 0, 0)) := by decide +kernel
theorem f_157_6 : rfI 157 6 = some (.if_icmp .gt 15, (0, 0, 0, 0)) := by decide +kernel
theorem f_157_9 : rfI 157 9 = some (.aload_n 0, (0, 0, 0, 0)) := by decide +kernel
theorem f_157_10 : rfI 157 10 = some (.getfield 10, (11, 0, 2, 0)) := by decide +kernel
theorem f_157_13 : rfI 157 13 = some (.getfield 127, (9, 1, 0, 0)) := by decide +kernel
theorem f_157_16 : rfI 157 16 = some (.bipush 32, (0, 0, 0, 0)) := by decide +kernel
theorem f_157_18 : rfI 157 18 = some (.if_icmp .ge 5, (0, 0, 0, 0)) := by decide +kernel
theorem f_157_21 : rfI 157 21 = some (.iconst (-1), (0, 0, 0, 0)) := by decide +kernel
theorem f_157_22 : rfI 157 22 = some (.ireturn, (0, 0, 0, 0)) := by decide +kernel
theorem f_157_23 : rfI 157 23 = some (.aload_n 0, (0, 0, 0, 0)) := by decide +kernel
theorem f_157_24 : rfI 157 24 = some (.iload_n 1, (0, 0, 0, 0)) := by decide +kernel
theorem f_157_25 : rfI 157 25 = some (.invokevirtual 275, (158, 2, 11, 0)) := by decide +kernel
theorem f_157_28 : rfI 157 28 = some (.istore_n 2, (0, 0, 0, 0)) := by decide +kernel
theorem f_157_29 : rfI 157 29 = some (.aload_n 0, (0, 0, 0, 0)) := by decide +kernel
theorem f_157_30 : rfI 157 30 = some (.getfield 10, (11, 0, 2, 0)) := by decide +kernel
theorem f_157_33 : rfI 157 33 = some (.invokevirtual 135, (94, 1, 11, 0)) := by decide +kernel
theorem f_157_36 : rfI 157 36 = some (.iload_n 2, (0, 0, 0, 0)) := by decide +kernel
theorem f_157_37 : rfI 157 37 = some (.ireturn, (0, 0, 0, 0)) := by decide +kernel
theorem f_158_0 : rfI 158 0 = some (.iconst 0, (0, 0, 0, 0)) := by decide +kernel
theorem f_158_1 : rfI 158 1 = some (.istore_n 2, (0, 0, 0, 0)) := by decide +kernel
theorem f_158_2 : rfI 158 2 = some (.iconst 0, (0, 0, 0, 0)) := by decide +kernel
theorem f_158_3 : rfI 158 3 = some (.istore_n 3, (0, 0, 0, 0)) := by decide +kernel
theorem f_158_4 : rfI 158 4 = some (.iconst (-1), (0, 0, 0, 0)) := by decide +kernel
theorem f_158_5 : rfI 158 5 = some (.istore 4, (0, 0, 0, 0)) := by decide +kernel
theorem f_158_7 : rfI 158 7 = some (.iconst (-1), (0, 0, 0, 0)) := by decide +kernel
theorem f_158_8 : rfI 158 8 = some (.istore 5, (0, 0, 0, 0)) := by decide +kernel
theorem f_158_10 : rfI 158 10 = some (.iconst 0, (0, 0, 0, 0)) := by decide +kernel
theorem f_158_11 : rfI 158 11 = some (.istore 6, (0, 0, 0, 0)) := by decide +kernel
theorem f_158_13 : rfI 158 13 = some (.iconst 0, (0, 0, 0, 0)) := by decide +kernel
theorem f_158_14 : rfI 158 14 = some (.istore 7, (0, 0, 0, 0)) := by decide +kernel
theorem f_158_16 : rfI 158 16 = some (.iconst 0, (0, 0, 0, 0)) := by decide +kernel
theorem f_158_17 : rfI 158 17 = some (.istore 8, (0, 0, 0, 0)) := by decide +kernel
theorem f_158_19 : rfI 158 19 = some (.iload 8, (0, 0, 0, 0)) := by decide +kernel
theorem f_158_21 : rfI 158 21 = some (.bipush 8, (0, 0, 0, 0)) := by decide +kernel
theorem f_158_23 : rfI 158 23 = some (.if_icmp .ge 89, (0, 0, 0, 0)) := by decide +kernel
theorem f_158_26 : rfI 158 26 = some (.aload_n 0, (0, 0, 0, 0)) := by decide +kernel
theorem f_158_27 : rfI 158 27 = some (.getfield 10, (11, 0, 2, 0)) := by decide +kernel
theorem f_158_30 : rfI 158 30 = some (.iconst 4, (0, 0, 0, 0)) := by decide +kernel
theorem f_158_31 : rfI 158 31 = some (.iload 8, (0, 0, 0, 0)) := by decide +kernel
theorem f_158_33 : rfI 158 33 = some (.imul, (0, 0, 0, 0)) := by decide +kernel
theorem f_158_34 : rfI 158 34 = some (.invokevirtual 278, (96, 2, 11, 0)) := by decide +kernel
theorem f_158_37 : rfI 158 37 = some (.aload_n 0, (0, 0, 0, 0)) := by decide +kernel
theorem f_158_38 : rfI 158 38 = some (.getfield 19, (11, 1, 2, 0)) := by decide +kernel
theorem f_158_41 : rfI 158 41 = some (.iload 8, (0, 0, 0, 0)) := by decide +kernel
theorem f_158_43 : rfI 158 43 = some (.invokevirtual 179, (121, 2, 11, 0)) := by decide +kernel
theorem f_158_46 : rfI 158 46 = some (.isub, (0, 0, 0, 0)) := by decide +kernel
theorem f_158_47 : rfI 158 47 = some (.istore 9, (0, 0, 0, 0)) := by decide +kernel
theorem f_158_49 : rfI 158 49 = some (.iload 9, (0, 0, 0, 0)) := by decide +kernel
theorem f_158_51 : rfI 158 51 = some (.ifCond .eq 14, (0, 0, 0, 0)) := by decide +kernel
theorem f_158_54 : rfI 158 54 = some (.iinc 2 1, (0, 0, 0, 0)) := by decide +kernel
theorem f_158_57 : rfI 158 57 = some (.iload 8, (0, 0, 0, 0)) := by decide +kernel
theorem f_158_59 : rfI 158 59 = some (.istore 4, (0, 0, 0, 0)) := by decide +kernel
theorem f_158_61 : rfI 158 61 = some (.iload 9, (0, 0, 0, 0)) := by decide +kernel
theorem f_158_63 : rfI 158 63 = some (.istore 6, (0, 0, 0, 0)) := by decide +kernel
theorem f_158_65 : rfI 158 65 = some (.aload_n 0, (0, 0, 0, 0)) := by decide +kernel
theorem f_158_66 : rfI 158 66 = some (.getfield 10, (11, 0, 2, 0)) := by decide +kernel
theorem f_158_69 : rfI 158 69 = some (.iconst 4, (0, 0, 0, 0)) := by decide +kernel
theorem f_158_70 : rfI 158 70 = some (.iload 8, (0, 0, 0, 0)) := by decide +kernel
theorem f_158_72 : rfI 158 72 = some (.imul, (0, 0, 0, 0)) := by decide +kernel
theorem f_158_73 : rfI 158 73 = some (.iconst 2, (0, 0, 0, 0)) := by decide +kernel
theorem f_158_74 : rfI 158 74 = some (.iadd, (0, 0, 0, 0)) := by decide +kernel
theorem f_158_75 : rfI 158 75 = some (.invokevirtual 278, (96, 2, 11, 0)) := by decide +kernel
theorem f_158_78 : rfI 158 78 = some (.aload_n 0, (0, 0, 0, 0)) := by decide +kernel
theorem f_158_79 : rfI 158 79 = some (.getfield 19, (11, 1, 2, 0)) := by decide +kernel
theorem f_158_82 : rfI 158 82 = some (.iload 8, (0, 0, 0, 0)) := by decide +kernel
theorem f_158_84 : rfI 158 84 = some (.invokevirtual 182, (122, 2, 11, 0)) := by decide +kernel
theorem f_158_87 : rfI 158 87 = some (.isub, (0, 0, 0, 0)) := by decide +kernel
theorem f_158_88 : rfI 158 88 = some (.istore 10, (0, 0, 0, 0)) := by decide +kernel
theorem f_158_90 : rfI 158 90 = some (.iload 10, (0, 0, 0, 0)) := by decide +kernel
theorem f_158_92 : rfI 158 92 = some (.ifCond .eq 14, (0, 0, 0, 0)) := by decide +kernel
theorem f_158_95 : rfI 158 95 = some (.iinc 3 1, (0, 0, 0, 0)) := by decide +kernel
theorem f_158_98 : rfI 158 98 = some (.iload 8, (0, 0, 0, 0)) := by decide +kernel
theorem f_158_100 : rfI 158 100 = some (.istore 5, (0, 0, 0, 0)) := by decide +kernel
theorem f_158_102 : rfI 158 102 = some (.iload 10, (0, 0, 0, 0)) := by decide +kernel
theorem f_158_104 : rfI 158 104 = some (.istore 7, (0, 0, 0, 0)) := by decide +kernel
theorem f_158_106 : rfI 158 106 = some (.iinc 8 1, (0, 0, 0, 0)) := by decide +kernel
theorem f_158_109 : rfI 158 109 = some (.goto (-90), (0, 0, 0, 0)) := by decide +kernel
theorem f_158_112 : rfI 158 112 = some (.iload_n 2, (0, 0, 0, 0)) := by decide +kernel
theorem f_158_113 : rfI 158 113 = some (.ifCond .ne 10, (0, 0, 0, 0)) := by decide +kernel
theorem f_158_116 : rfI 158 116 = some (.iload_n 3, (0, 0, 0, 0)) := by decide +kernel
theorem f_158_117 : rfI 158 117 = some (.ifCond .ne 6, (0, 0, 0, 0)) := by decide +kernel
theorem f_158_120 : rfI 158 120 = some (.bipush (-2), (0, 0, 0, 0)) := by decide +kernel
theorem f_158_122 : rfI 158 122 = some (.ireturn, (0, 0, 0, 0)) := by decide +kernel
theorem f_158_123 : rfI 158 123 = some (.iload_n 2, (0, 0, 0, 0)) := by decide +kernel
theorem f_158_124 : rfI 158 124 = some (.iconst 1, (0, 0, 0, 0)) := by decide +kernel
theorem f_158_125 : rfI 158 125 = some (.if_icmp .ne 29, (0, 0, 0, 0)) := by decide +kernel
theorem f_158_128 : rfI 158 128 = some (.iload_n 3, (0, 0, 0, 0)) := by decide +kernel
theorem f_158_129 : rfI 158 129 = some (.iconst 1, (0, 0, 0, 0)) := by decide +kernel
theorem f_158_130 : rfI 158 130 = some (.if_icmp .ne 24, (0, 0, 0, 0)) := by decide +kernel
theorem f_158_133 : rfI 158 133 = some (.iload 6, (0, 0, 0, 0)) := by decide +kernel
theorem f_158_135 : rfI 158 135 = some (.iload 7, (0, 0, 0, 0)) := by decide +kernel
theorem f_158_137 : rfI 158 137 = some (.if_icmp .ne 17, (0, 0, 0, 0)) := by decide +kernel
theorem f_158_140 : rfI 158 140 = some (.aload_n 0, (0, 0, 0, 0)) := by decide +kernel
theorem f_158_141 : rfI 158 141 = some (.getfield 19, (11, 1, 2, 0)) := by decide +kernel
theorem f_158_144 : rfI 158 144 = some (.iload 4, (0, 0, 0, 0)) := by decide +kernel
theorem f_158_146 : rfI 158 146 = some (.iload 5, (0, 0, 0, 0)) := by decide +kernel
theorem f_158_148 : rfI 158 148 = some (.invokevirtual 104, (112, 3, 11, 0)) := by decide +kernel
theorem f_158_151 : rfI 158 151 = some (.ifCond .ne 6, (0, 0, 0, 0)) := by decide +kernel
theorem f_158_154 : rfI 158 154 = some (.bipush (-3), (0, 0, 0, 0)) := by decide +kernel
theorem f_158_156 : rfI 158 156 = some (.ireturn, (0, 0, 0, 0)) := by decide +kernel
theorem f_158_157 : rfI 158 157 = some (.aload_n 0, (0, 0, 0, 0)) := by decide +kernel
theorem f_158_158 : rfI 158 158 = some (.getfield 19, (11, 1, 2, 0)) := by decide +kernel
theorem f_158_161 : rfI 158 161 = some (.iload 4, (0, 0, 0, 0)) := by decide +kernel
theorem f_158_163 : rfI 158 163 = some (.iload 5, (0, 0, 0, 0)) := by decide +kernel
theorem f_158_165 : rfI 158 165 = some (.invokevirtual 194, (116, 3, 11, 0)) := by decide +kernel
theorem f_158_168 : rfI 158 168 = some (.iload 6, (0, 0, 0, 0)) := by decide +kernel
theorem f_158_170 : rfI 158 170 = some (.iadd, (0, 0, 0, 0)) := by decide +kernel
theorem f_158_171 : rfI 158 171 = some (.istore 8, (0, 0, 0, 0)) := by decide +kernel
theorem f_158_173 : rfI 158 173 = some (.iload 8, (0, 0, 0, 0)) := by decide +kernel
theorem f_158_175 : rfI 158 175 = some (.ifCond .lt 11, (0, 0, 0, 0)) := by decide +kernel
theorem f_158_178 : rfI 158 178 = some (.iload 8, (0, 0, 0, 0)) := by decide +kernel
theorem f_158_180 : rfI 158 180 = some (.sipush 999, (0, 0, 0, 0)) := by decide +kernel
theorem f_158_183 : rfI 158 183 = some (.if_icmp .le 6, (0, 0, 0, 0)) := by decide +kernel
theorem f_158_186 : rfI 158 186 = some (.bipush (-3), (0, 0, 0, 0)) := by decide +kernel
theorem f_158_188 : rfI 158 188 = some (.ireturn, (0, 0, 0, 0)) := by decide +kernel
theorem f_158_189 : rfI 158 189 = some (.iload_n 1, (0, 0, 0, 0)) := by decide +kernel
theorem f_158_190 : rfI 158 190 = some (.ifCond .ne 8, (0, 0, 0, 0)) := by decide +kernel
theorem f_158_193 : rfI 158 193 = some (.iload 4, (0, 0, 0, 0)) := by decide +kernel
theorem f_158_195 : rfI 158 195 = some (.goto 15, (0, 0, 0, 0)) := by decide +kernel
theorem f_158_198 : rfI 158 198 = some (.iload_n 1, (0, 0, 0, 0)) := by decide +kernel
theorem f_158_199 : rfI 158 199 = some (.iconst 1, (0, 0, 0, 0)) := by decide +kernel
theorem f_158_200 : rfI 158 200 = some (.if_icmp .ne 8, (0, 0, 0, 0)) := by decide +kernel
theorem f_158_203 : rfI 158 203 = some (.iload 5, (0, 0, 0, 0)) := by decide +kernel
theorem f_158_205 : rfI 158 205 = some (.goto 5, (0, 0, 0, 0)) := by decide +kernel
theorem f_158_208 : rfI 158 208 = some (.iload 8, (0, 0, 0, 0)) := by decide +kernel
theorem f_158_210 : rfI 158 210 = some (.ireturn, (0, 0, 0, 0)) := by decide +kernel
theorem f_159_0 : rfI 159 0 = some (.iload_n 1, (0, 0, 0, 0)) := by decide +kernel
theorem f_159_1 : rfI 159 1 = some (.iconst 1, (0, 0, 0, 0)) := by decide +kernel
theorem f_159_2 : rfI 159 2 = some (.if_icmp .lt 20, (0, 0, 0, 0)) := by decide +kernel
theorem f_159_5 : rfI 159 5 = some (.iload_n 1, (0, 0, 0, 0)) := by decide +kernel
theorem f_159_6 : rfI 159 6 = some (.bipush 12, (0, 0, 0, 0)) := by decide +kernel
theorem f_159_8 : rfI 159 8 = some (.if_icmp .gt 14, (0, 0, 0, 0)) := by decide +kernel
theorem f_159_11 : rfI 159 11 = some (.iload_n 1, (0, 0, 0, 0)) := by decide +kernel
theorem f_159_12 : rfI 159 12 = some (.aload_n 0, (0, 0, 0, 0)) := by decide +kernel
theorem f_159_13 : rfI 159 13 = some (.getfield 10, (11, 0, 2, 0)) := by decide +kernel
theorem f_159_16 : rfI 159 16 = some (.getfield 127, (9, 1, 0, 0)) := by decide +kernel
theorem f_159_19 : rfI 159 19 = some (.if_icmp .le 5, (0, 0, 0, 0)) := by decide +kernel
theorem f_159_22 : rfI 159 22 = some (.iconst (-1), (0, 0, 0, 0)) := by decide +kernel
theorem f_159_23 : rfI 159 23 = some (.ireturn, (0, 0, 0, 0)) := by decide +kernel
theorem f_159_24 : rfI 159 24 = some (.iload_n 2, (0, 0, 0, 0)) := by decide +kernel
theorem f_159_25 : rfI 159 25 = some (.ifCond .lt 19, (0, 0, 0, 0)) := by decide +kernel
theorem f_159_28 : rfI 159 28 = some (.iload_n 2, (0, 0, 0, 0)) := by decide +kernel
theorem f_159_29 : rfI 159 29 = some (.sipush 3060, (0, 0, 0, 0)) := by decide +kernel
theorem f_159_32 : rfI 159 32 = some (.if_icmp .gt 12, (0, 0, 0, 0)) := by decide +kernel
theorem f_159_35 : rfI 159 35 = some (.iload_n 3, (0, 0, 0, 0)) := by decide +kernel
theorem f_159_36 : rfI 159 36 = some (.ifCond .eq 10, (0, 0, 0, 0)) := by decide +kernel
theorem f_159_39 : rfI 159 39 = some (.iload_n 3, (0, 0, 0, 0)) := by decide +kernel
theorem f_159_40 : rfI 159 40 = some (.iconst 1, (0, 0, 0, 0)) := by decide +kernel
theorem f_159_41 : rfI 159 41 = some (.if_icmp .eq 5, (0, 0, 0, 0)) := by decide +kernel
theorem f_159_44 : rfI 159 44 = some (.iconst (-1), (0, 0, 0, 0)) := by decide +kernel
theorem f_159_45 : rfI 159 45 = some (.ireturn, (0, 0, 0, 0)) := by decide +kernel
theorem f_159_46 : rfI 159 46 = some (.aload_n 0, (0, 0, 0, 0)) := by decide +kernel
theorem f_159_47 : rfI 159 47 = some (.iload_n 1, (0, 0, 0, 0)) := by decide +kernel
theorem f_159_48 : rfI 159 48 = some (.iload_n 2, (0, 0, 0, 0)) := by decide +kernel
theorem f_159_49 : rfI 159 49 = some (.invokevirtual 281, (160, 3, 11, 0)) := by decide +kernel
theorem f_159_52 : rfI 159 52 = some (.istore 4, (0, 0, 0, 0)) := by decide +kernel
theorem f_159_54 : rfI 159 54 = some (.aload_n 0, (0, 0, 0, 0)) := by decide +kernel
theorem f_159_55 : rfI 159 55 = some (.getfield 10, (11, 0, 2, 0)) := by decide +kernel
theorem f_159_58 : rfI 159 58 = some (.invokevirtual 135, (94, 1, 11, 0)) := by decide +kernel
theorem f_159_61 : rfI 159 61 = some (.iload 4, (0, 0, 0, 0)) := by decide +kernel
theorem f_159_63 : rfI 159 63 = some (.ifCond .ge 6, (0, 0, 0, 0)) := by decide +kernel
theorem f_159_66 : rfI 159 66 = some (.bipush (-2), (0, 0, 0, 0)) := by decide +kernel
theorem f_159_68 : rfI 159 68 = some (.ireturn, (0, 0, 0, 0)) := by decide +kernel
theorem f_159_69 : rfI 159 69 = some (.iload_n 3, (0, 0, 0, 0)) := by decide +kernel
theorem f_159_70 : rfI 159 70 = some (.ifCond .ne 11, (0, 0, 0, 0)) := by decide +kernel
theorem f_159_73 : rfI 159 73 = some (.iload 4, (0, 0, 0, 0)) := by decide +kernel
theorem f_159_75 : rfI 159 75 = some (.invokestatic 224, (287, 1, 10, 0)) := by decide +kernel
theorem f_159_78 : rfI 159 78 = some (.goto 5, (0, 0, 0, 0)) := by decide +kernel
theorem f_159_81 : rfI 159 81 = some (.iload 4, (0, 0, 0, 0)) := by decide +kernel
theorem f_159_83 : rfI 159 83 = some (.ireturn, (0, 0, 0, 0)) := by decide +kernel
theorem f_160_0 : rfI 160 0 = some (.iconst (-1), (0, 0, 0, 0)) := by decide +kernel
theorem f_160_1 : rfI 160 1 = some (.istore_n 3, (0, 0, 0, 0)) := by decide +kernel
theorem f_160_2 : rfI 160 2 = some (.iload_n 1, (0, 0, 0, 0)) := by decide +kernel
theorem f_160_3 : rfI 160 3 = some (.iconst 1, (0, 0, 0, 0)) := by decide +kernel
theorem f_160_4 : rfI 160 4 = some (.iadd, (0, 0, 0, 0)) := by decide +kernel
theorem f_160_5 : rfI 160 5 = some (.istore 4, (0, 0, 0, 0)) := by decide +kernel
theorem f_160_7 : rfI 160 7 = some (.iconst 0, (0, 0, 0, 0)) := by decide +kernel
theorem f_160_8 : rfI 160 8 = some (.istore 5, (0, 0, 0, 0)) := by decide +kernel
theorem f_160_10 : rfI 160 10 = some (.iload 5, (0, 0, 0, 0)) := by decide +kernel
theorem f_160_12 : rfI 160 12 = some (.iconst 1, (0, 0, 0, 0)) := by decide +kernel
theorem f_160_13 : rfI 160 13 = some (.iload_n 1, (0, 0, 0, 0)) := by decide +kernel
theorem f_160_14 : rfI 160 14 = some (.ishl, (0, 0, 0, 0)) := by decide +kernel
theorem f_160_15 : rfI 160 15 = some (.if_icmp .ge 41, (0, 0, 0, 0)) := by decide +kernel
theorem f_160_18 : rfI 160 18 = some (.iload 5, (0, 0, 0, 0)) := by decide +kernel
theorem f_160_20 : rfI 160 20 = some (.invokestatic 224, (287, 1, 10, 0)) := by decide +kernel
theorem f_160_23 : rfI 160 23 = some (.istore 6, (0, 0, 0, 0)) := by decide +kernel
theorem f_160_25 : rfI 160 25 = some (.iload 6, (0, 0, 0, 0)) := by decide +kernel
theorem f_160_27 : rfI 160 27 = some (.iload 4, (0, 0, 0, 0)) := by decide +kernel
theorem f_160_29 : rfI 160 29 = some (.if_icmp .ge 21, (0, 0, 0, 0)) := by decide +kernel
theorem f_160_32 : rfI 160 32 = some (.aload_n 0, (0, 0, 0, 0)) := by decide +kernel
theorem f_160_33 : rfI 160 33 = some (.iload_n 1, (0, 0, 0, 0)) := by decide +kernel
theorem f_160_34 : rfI 160 34 = some (.iload 5, (0, 0, 0, 0)) := by decide +kernel
theorem f_160_36 : rfI 160 36 = some (.invokevirtual 284, (161, 3, 11, 0)) := by decide +kernel
theorem f_160_39 : rfI 160 39 = some (.iload_n 2, (0, 0, 0, 0)) := by decide +kernel
theorem f_160_40 : rfI 160 40 = some (.if_icmp .ne 10, (0, 0, 0, 0)) := by decide +kernel
theorem f_160_43 : rfI 160 43 = some (.iload 5, (0, 0, 0, 0)) := by decide +kernel
theorem f_160_45 : rfI 160 45 = some (.istore_n 3, (0, 0, 0, 0)) := by decide +kernel
theorem f_160_46 : rfI 160 46 = some (.iload 6, (0, 0, 0, 0)) := by decide +kernel
theorem f_160_48 : rfI 160 48 = some (.istore 4, (0, 0, 0, 0)) := by decide +kernel
theorem f_160_50 : rfI 160 50 = some (.iinc 5 1, (0, 0, 0, 0)) := by decide +kernel
theorem f_160_53 : rfI 160 53 = some (.goto (-43), (0, 0, 0, 0)) := by decide +kernel
theorem f_160_56 : rfI 160 56 = some (.iload_n 3, (0, 0, 0, 0)) := by decide +kernel
theorem f_160_57 : rfI 160 57 = some (.ireturn, (0, 0, 0, 0)) := by decide +kernel
theorem f_161_0 : rfI 161 0 = some (.iconst 0, (0, 0, 0, 0)) := by decide +kernel
theorem f_161_1 : rfI 161 1 = some (.istore_n 3, (0, 0, 0, 0)) := by decide +kernel
theorem f_161_2 : rfI 161 2 = some (.iconst 0, (0, 0, 0, 0)) := by decide +kernel
theorem f_161_3 : rfI 161 3 = some (.istore 4, (0, 0, 0, 0)) := by decide +kernel
theorem f_161_5 : rfI 161 5 = some (.iload 4, (0, 0, 0, 0)) := by decide +kernel
theorem f_161_7 : rfI 161 7 = some (.iload_n 1, (0, 0, 0, 0)) := by decide +kernel
theorem f_161_8 : rfI 161 8 = some (.if_icmp .ge 30, (0, 0, 0, 0)) := by decide +kernel
theorem f_161_11 : rfI 161 11 = some (.iload_n 2, (0, 0, 0, 0)) := by decide +kernel
theorem f_161_12 : rfI 161 12 = some (.iconst 1, (0, 0, 0, 0)) := by decide +kernel
theorem f_161_13 : rfI 161 13 = some (.iload 4, (0, 0, 0, 0)) := by decide +kernel
theorem f_161_15 : rfI 161 15 = some (.ishl, (0, 0, 0, 0)) := by decide +kernel
theorem f_161_16 : rfI 161 16 = some (.iand, (0, 0, 0, 0)) := by decide +kernel
theorem f_161_17 : rfI 161 17 = some (.ifCond .eq 15, (0, 0, 0, 0)) := by decide +kernel
theorem f_161_20 : rfI 161 20 = some (.iload_n 3, (0, 0, 0, 0)) := by decide +kernel
theorem f_161_21 : rfI 161 21 = some (.aload_n 0, (0, 0, 0, 0)) := by decide +kernel
theorem f_161_22 : rfI 161 22 = some (.getfield 10, (11, 0, 2, 0)) := by decide +kernel
theorem f_161_25 : rfI 161 25 = some (.iload 4, (0, 0, 0, 0)) := by decide +kernel
theorem f_161_27 : rfI 161 27 = some (.invokevirtual 287, (95, 2, 11, 0)) := by decide +kernel
theorem f_161_30 : rfI 161 30 = some (.iadd, (0, 0, 0, 0)) := by decide +kernel
theorem f_161_31 : rfI 161 31 = some (.istore_n 3, (0, 0, 0, 0)) := by decide +kernel
theorem f_161_32 : rfI 161 32 = some (.iinc 4 1, (0, 0, 0, 0)) := by decide +kernel
theorem f_161_35 : rfI 161 35 = some (.goto (-30), (0, 0, 0, 0)) := by decide +kernel
theorem f_161_38 : rfI 161 38 = some (.iload_n 3, (0, 0, 0, 0)) := by decide +kernel
theorem f_161_39 : rfI 161 39 = some (.ireturn, (0, 0, 0, 0)) := by decide +kernel
theorem f_162_0 : rfI 162 0 = some (.iload_n 1, (0, 0, 0, 0)) := by decide +kernel
theorem f_162_1 : rfI 162 1 = some (.iload_n 2, (0, 0, 0, 0)) := by decide +kernel
theorem f_162_2 : rfI 162 2 = some (.invokestatic 290, (163, 2, 10, 0)) := by decide +kernel
theorem f_162_5 : rfI 162 5 = some (.ifCond .eq 15, (0, 0, 0, 0)) := by decide +kernel
theorem f_162_8 : rfI 162 8 = some (.iload_n 3, (0, 0, 0, 0)) := by decide +kernel
theorem f_162_9 : rfI 162 9 = some (.iconst 1, (0, 0, 0, 0)) := by decide +kernel
theorem f_162_10 : rfI 162 10 = some (.if_icmp .lt 10, (0, 0, 0, 0)) := by decide +kernel
theorem f_162_13 : rfI 162 13 = some (.iload_n 3, (0, 0, 0, 0)) := by decide +kernel
theorem f_162_14 : rfI 162 14 = some (.sipush 9999, (0, 0, 0, 0)) := by decide +kernel
theorem f_162_17 : rfI 162 17 = some (.if_icmp .le 5, (0, 0, 0, 0)) := by decide +kernel
theorem f_162_20 : rfI 162 20 = some (.iconst (-1), (0, 0, 0, 0)) := by decide +kernel
theorem f_162_21 : rfI 162 21 = some (.ireturn, (0, 0, 0, 0)) := by decide +kernel
theorem f_162_22 : rfI 162 22 = some (.iload_n 1, (0, 0, 0, 0)) := by decide +kernel
theorem f_162_23 : rfI 162 23 = some (.iload_n 2, (0, 0, 0, 0)) := by decide +kernel
theorem f_162_24 : rfI 162 24 = some (.iload_n 3, (0, 0, 0, 0)) := by decide +kernel
theorem f_162_25 : rfI 162 25 = some (.invokestatic 293, (164, 3, 10, 0)) := by decide +kernel
theorem f_162_28 : rfI 162 28 = some (.ireturn, (0, 0, 0, 0)) := by decide +kernel
theorem f_163_0 : rfI 163 0 = some (.iload_n 0, (0, 0, 0, 0)) := by decide +kernel
theorem f_163_1 : rfI 163 1 = some (.iconst 1, (0, 0, 0, 0)) := by decide +kernel
theorem f_163_2 : rfI 163 2 = some (.if_icmp .lt 24, (0, 0, 0, 0)) := by decide +kernel
theorem f_163_5 : rfI 163 5 = some (.iload_n 0, (0, 0, 0, 0)) := by decide +kernel
theorem f_163_6 : rfI 163 6 = some (.sipush 9999, (0, 0, 0, 0)) := by decide +kernel
theorem f_163_9 : rfI 163 9 = some (.if_icmp .gt 17, (0, 0, 0, 0)) := by decide +kernel
theorem f_163_12 : rfI 163 12 = some (.iload_n 1, (0, 0, 0, 0)) := by decide +kernel
theorem f_163_13 : rfI 163 13 = some (.ifCond .lt 13, (0, 0, 0, 0)) := by decide +kernel
theorem f_163_16 : rfI 163 16 = some (.iload_n 1, (0, 0, 0, 0)) := by decide +kernel
theorem f_163_17 : rfI 163 17 = some (.bipush 20, (0, 0, 0, 0)) := by decide +kernel
theorem f_163_19 : rfI 163 19 = some (.if_icmp .gt 7, (0, 0, 0, 0)) := by decide +kernel
theorem f_163_22 : rfI 163 22 = some (.iconst 1, (0, 0, 0, 0)) := by decide +kernel
theorem f_163_23 : rfI 163 23 = some (.goto 4, (0, 0, 0, 0)) := by decide +kernel
theorem f_163_26 : rfI 163 26 = some (.iconst 0, (0, 0, 0, 0)) := by decide +kernel
theorem f_163_27 : rfI 163 27 = some (.ireturn, (0, 0, 0, 0)) := by decide +kernel
theorem f_164_0 : rfI 164 0 = some (.iload_n 0, (0, 0, 0, 0)) := by decide +kernel
theorem f_164_1 : rfI 164 1 = some (.istore_n 3, (0, 0, 0, 0)) := by decide +kernel
theorem f_164_2 : rfI 164 2 = some (.iconst 1, (0, 0, 0, 0)) := by decide +kernel
theorem f_164_3 : rfI 164 3 = some (.istore 4, (0, 0, 0, 0)) := by decide +kernel
theorem f_164_5 : rfI 164 5 = some (.iload 4, (0, 0, 0, 0)) := by decide +kernel
theorem f_164_7 : rfI 164 7 = some (.sipush 600, (0, 0, 0, 0)) := by decide +kernel
theorem f_164_10 : rfI 164 10 = some (.if_icmp .gt 42, (0, 0, 0, 0)) := by decide +kernel
theorem f_164_13 : rfI 164 13 = some (.iload_n 3, (0, 0, 0, 0)) := by decide +kernel
theorem f_164_14 : rfI 164 14 = some (.istore 5, (0, 0, 0, 0)) := by decide +kernel
theorem f_164_16 : rfI 164 16 = some (.iload_n 3, (0, 0, 0, 0)) := by decide +kernel
theorem f_164_17 : rfI 164 17 = some (.iload_n 3, (0, 0, 0, 0)) := by decide +kernel
theorem f_164_18 : rfI 164 18 = some (.iload_n 1, (0, 0, 0, 0)) := by decide +kernel
theorem f_164_19 : rfI 164 19 = some (.imul, (0, 0, 0, 0)) := by decide +kernel
theorem f_164_20 : rfI 164 20 = some (.bipush 99, (0, 0, 0, 0)) := by decide +kernel
theorem f_164_22 : rfI 164 22 = some (.iadd, (0, 0, 0, 0)) := by decide +kernel
theorem f_164_23 : rfI 164 23 = some (.bipush 100, (0, 0, 0, 0)) := by decide +kernel
theorem f_164_25 : rfI 164 25 = some (.idiv, (0, 0, 0, 0)) := by decide +kernel
theorem f_164_26 : rfI 164 26 = some (.iadd, (0, 0, 0, 0)) := by decide +kernel
theorem f_164_27 : rfI 164 27 = some (.iload_n 2, (0, 0, 0, 0)) := by decide +kernel
theorem f_164_28 : rfI 164 28 = some (.isub, (0, 0, 0, 0)) := by decide +kernel
theorem f_164_29 : rfI 164 29 = some (.istore_n 3, (0, 0, 0, 0)) := by decide +kernel
theorem f_164_30 : rfI 164 30 = some (.iload_n 3, (0, 0, 0, 0)) := by decide +kernel
theorem f_164_31 : rfI 164 31 = some (.ifCond .gt 6, (0, 0, 0, 0)) := by decide +kernel
theorem f_164_34 : rfI 164 34 = some (.iload 4, (0, 0, 0, 0)) := by decide +kernel
theorem f_164_36 : rfI 164 36 = some (.ireturn, (0, 0, 0, 0)) := by decide +kernel
theorem f_164_37 : rfI 164 37 = some (.iload_n 3, (0, 0, 0, 0)) := by decide +kernel
theorem f_164_38 : rfI 164 38 = some (.iload 5, (0, 0, 0, 0)) := by decide +kernel
theorem f_164_40 : rfI 164 40 = some (.if_icmp .lt 6, (0, 0, 0, 0)) := by decide +kernel
theorem f_164_43 : rfI 164 43 = some (.bipush (-2), (0, 0, 0, 0)) := by decide +kernel
theorem f_164_45 : rfI 164 45 = some (.ireturn, (0, 0, 0, 0)) := by decide +kernel
theorem f_164_46 : rfI 164 46 = some (.iinc 4 1, (0, 0, 0, 0)) := by decide +kernel
theorem f_164_49 : rfI 164 49 = some (.goto (-44), (0, 0, 0, 0)) := by decide +kernel
theorem f_164_52 : rfI 164 52 = some (.bipush (-2), (0, 0, 0, 0)) := by decide +kernel
theorem f_164_54 : rfI 164 54 = some (.ireturn, (0, 0, 0, 0)) := by decide +kernel
theorem f_165_0 : rfI 165 0 = some (.iload_n 1, (0, 0, 0, 0)) := by decide +kernel
theorem f_165_1 : rfI 165 1 = some (.iload_n 2, (0, 0, 0, 0)) := by decide +kernel
theorem f_165_2 : rfI 165 2 = some (.invokestatic 290, (163, 2, 10, 0)) := by decide +kernel
theorem f_165_5 : rfI 165 5 = some (.ifCond .eq 14, (0, 0, 0, 0)) := by decide +kernel
theorem f_165_8 : rfI 165 8 = some (.iload_n 3, (0, 0, 0, 0)) := by decide +kernel
theorem f_165_9 : rfI 165 9 = some (.iconst 1, (0, 0, 0, 0)) := by decide +kernel
theorem f_165_10 : rfI 165 10 = some (.if_icmp .lt 9, (0, 0, 0, 0)) := by decide +kernel
theorem f_165_13 : rfI 165 13 = some (.iload_n 3, (0, 0, 0, 0)) := by decide +kernel
theorem f_165_14 : rfI 165 14 = some (.bipush 60, (0, 0, 0, 0)) := by decide +kernel
theorem f_165_16 : rfI 165 16 = some (.if_icmp .le 5, (0, 0, 0, 0)) := by decide +kernel
theorem f_165_19 : rfI 165 19 = some (.iconst (-1), (0, 0, 0, 0)) := by decide +kernel
theorem f_165_20 : rfI 165 20 = some (.ireturn, (0, 0, 0, 0)) := by decide +kernel
theorem f_165_21 : rfI 165 21 = some (.iconst 1, (0, 0, 0, 0)) := by decide +kernel
theorem f_165_22 : rfI 165 22 = some (.istore 4, (0, 0, 0, 0)) := by decide +kernel
theorem f_165_24 : rfI 165 24 = some (.iload_n 1, (0, 0, 0, 0)) := by decide +kernel
theorem f_165_25 : rfI 165 25 = some (.iload_n 1, (0, 0, 0, 0)) := by decide +kernel
theorem f_165_26 : rfI 165 26 = some (.iload_n 2, (0, 0, 0, 0)) := by decide +kernel
theorem f_165_27 : rfI 165 27 = some (.imul, (0, 0, 0, 0)) := by decide +kernel
theorem f_165_28 : rfI 165 28 = some (.bipush 99, (0, 0, 0, 0)) := by decide +kernel
theorem f_165_30 : rfI 165 30 = some (.iadd, (0, 0, 0, 0)) := by decide +kernel
theorem f_165_31 : rfI 165 31 = some (.bipush 100, (0, 0, 0, 0)) := by decide +kernel
theorem f_165_33 : rfI 165 33 = some (.idiv, (0, 0, 0, 0)) := by decide +kernel
theorem f_165_34 : rfI 165 34 = some (.iadd, (0, 0, 0, 0)) := by decide +kernel
theorem f_165_35 : rfI 165 35 = some (.istore 5, (0, 0, 0, 0)) := by decide +kernel
theorem f_165_37 : rfI 165 37 = some (.iload 4, (0, 0, 0, 0)) := by decide +kernel
theorem f_165_39 : rfI 165 39 = some (.iload 5, (0, 0, 0, 0)) := by decide +kernel
theorem f_165_41 : rfI 165 41 = some (.if_icmp .ge 49, (0, 0, 0, 0)) := by decide +kernel
theorem f_165_44 : rfI 165 44 = some (.iload 4, (0, 0, 0, 0)) := by decide +kernel
theorem f_165_46 : rfI 165 46 = some (.iload 5, (0, 0, 0, 0)) := by decide +kernel
theorem f_165_48 : rfI 165 48 = some (.iadd, (0, 0, 0, 0)) := by decide +kernel
theorem f_165_49 : rfI 165 49 = some (.iconst 2, (0, 0, 0, 0)) := by decide +kernel
theorem f_165_50 : rfI 165 50 = some (.idiv, (0, 0, 0, 0)) := by decide +kernel
theorem f_165_51 : rfI 165 51 = some (.istore 6, (0, 0, 0, 0)) := by decide +kernel
theorem f_165_53 : rfI 165 53 = some (.iload_n 1, (0, 0, 0, 0)) := by decide +kernel
theorem f_165_54 : rfI 165 54 = some (.iload_n 2, (0, 0, 0, 0)) := by decide +kernel
theorem f_165_55 : rfI 165 55 = some (.iload 6, (0, 0, 0, 0)) := by decide +kernel
theorem f_165_57 : rfI 165 57 = some (.invokestatic 293, (164, 3, 10, 0)) := by decide +kernel
theorem f_165_60 : rfI 165 60 = some (.istore 7, (0, 0, 0, 0)) := by decide +kernel
theorem f_165_62 : rfI 165 62 = some (.iload 7, (0, 0, 0, 0)) := by decide +kernel
theorem f_165_64 : rfI 165 64 = some (.iconst 1, (0, 0, 0, 0)) := by decide +kernel
theorem f_165_65 : rfI 165 65 = some (.if_icmp .lt 16, (0, 0, 0, 0)) := by decide +kernel
theorem f_165_68 : rfI 165 68 = some (.iload 7, (0, 0, 0, 0)) := by decide +kernel
theorem f_165_70 : rfI 165 70 = some (.iload_n 3, (0, 0, 0, 0)) := by decide +kernel
theorem f_165_71 : rfI 165 71 = some (.if_icmp .gt 10, (0, 0, 0, 0)) := by decide +kernel
theorem f_165_74 : rfI 165 74 = some (.iload 6, (0, 0, 0, 0)) := by decide +kernel
theorem f_165_76 : rfI 165 76 = some (.istore 5, (0, 0, 0, 0)) := by decide +kernel
theorem f_165_78 : rfI 165 78 = some (.goto 9, (0, 0, 0, 0)) := by decide +kernel
theorem f_165_81 : rfI 165 81 = some (.iload 6, (0, 0, 0, 0)) := by decide +kernel
theorem f_165_83 : rfI 165 83 = some (.iconst 1, (0, 0, 0, 0)) := by decide +kernel
theorem f_165_84 : rfI 165 84 = some (.iadd, (0, 0, 0, 0)) := by decide +kernel
theorem f_165_85 : rfI 165 85 = some (.istore 4, (0, 0, 0, 0)) := by decide +kernel
theorem f_165_87 : rfI 165 87 = some (.goto (-50), (0, 0, 0, 0)) := by decide +kernel
theorem f_165_90 : rfI 165 90 = some (.iload 4, (0, 0, 0, 0)) := by decide +kernel
theorem f_165_92 : rfI 165 92 = some (.ireturn, (0, 0, 0, 0)) := by decide +kernel
theorem f_166_0 : rfI 166 0 = some (.iload_n 1, (0, 0, 0, 0)) := by decide +kernel
theorem f_166_1 : rfI 166 1 = some (.ifCond .lt 31, (0, 0, 0, 0)) := by decide +kernel
theorem f_166_4 : rfI 166 4 = some (.iload_n 1, (0, 0, 0, 0)) := by decide +kernel
theorem f_166_5 : rfI 166 5 = some (.bipush 8, (0, 0, 0, 0)) := by decide +kernel
theorem f_166_7 : rfI 166 7 = some (.if_icmp .ge 25, (0, 0, 0, 0)) := by decide +kernel
theorem f_166_10 : rfI 166 10 = some (.iload_n 2, (0, 0, 0, 0)) := by decide +kernel
theorem f_166_11 : rfI 166 11 = some (.iconst 1, (0, 0, 0, 0)) := by decide +kernel
theorem f_166_12 : rfI 166 12 = some (.if_icmp .lt 20, (0, 0, 0, 0)) := by decide +kernel
theorem f_166_15 : rfI 166 15 = some (.iload_n 2, (0, 0, 0, 0)) := by decide +kernel
theorem f_166_16 : rfI 166 16 = some (.bipush 6, (0, 0, 0, 0)) := by decide +kernel
theorem f_166_18 : rfI 166 18 = some (.if_icmp .gt 14, (0, 0, 0, 0)) := by decide +kernel
theorem f_166_21 : rfI 166 21 = some (.iload_n 2, (0, 0, 0, 0)) := by decide +kernel
theorem f_166_22 : rfI 166 22 = some (.aload_n 0, (0, 0, 0, 0)) := by decide +kernel
theorem f_166_23 : rfI 166 23 = some (.getfield 10, (11, 0, 2, 0)) := by decide +kernel
theorem f_166_26 : rfI 166 26 = some (.getfield 127, (9, 1, 0, 0)) := by decide +kernel
theorem f_166_29 : rfI 166 29 = some (.if_icmp .le 5, (0, 0, 0, 0)) := by decide +kernel
theorem f_166_32 : rfI 166 32 = some (.iconst (-1), (0, 0, 0, 0)) := by decide +kernel
theorem f_166_33 : rfI 166 33 = some (.ireturn, (0, 0, 0, 0)) := by decide +kernel
theorem f_166_34 : rfI 166 34 = some (.aload_n 0, (0, 0, 0, 0)) := by decide +kernel
theorem f_166_35 : rfI 166 35 = some (.getfield 10, (11, 0, 2, 0)) := by decide +kernel
theorem f_166_38 : rfI 166 38 = some (.iload_n 2, (0, 0, 0, 0)) := by decide +kernel
theorem f_166_39 : rfI 166 39 = some (.invokevirtual 297, (97, 2, 11, 0)) := by decide +kernel
theorem f_166_42 : rfI 166 42 = some (.istore_n 3, (0, 0, 0, 0)) := by decide +kernel
theorem f_166_43 : rfI 166 43 = some (.iload_n 3, (0, 0, 0, 0)) := by decide +kernel
theorem f_166_44 : rfI 166 44 = some (.iload_n 2, (0, 0, 0, 0)) := by decide +kernel
theorem f_166_45 : rfI 166 45 = some (.if_icmp .ge 16, (0, 0, 0, 0)) := by decide +kernel
theorem f_166_48 : rfI 166 48 = some (.aload_n 0, (0, 0, 0, 0)) := by decide +kernel
theorem f_166_49 : rfI 166 49 = some (.getfield 10, (11, 0, 2, 0)) := by decide +kernel
theorem f_166_52 : rfI 166 52 = some (.invokevirtual 135, (94, 1, 11, 0)) := by decide +kernel
theorem f_166_55 : rfI 166 55 = some (.iconst 1, (0, 0, 0, 0)) := by decide +kernel
theorem f_166_56 : rfI 166 56 = some (.iload_n 3, (0, 0, 0, 0)) := by decide +kernel
theorem f_166_57 : rfI 166 57 = some (.invokestatic 300, (179, 2, 10, 0)) := by decide +kernel
theorem f_166_60 : rfI 166 60 = some (.ireturn, (0, 0, 0, 0)) := by decide +kernel
theorem f_166_61 : rfI 166 61 = some (.aload_n 0, (0, 0, 0, 0)) := by decide +kernel
theorem f_166_62 : rfI 166 62 = some (.getfield 81, (11, 11, 2, 0)) := by decide +kernel
theorem f_166_65 : rfI 166 65 = some (.iload_n 1, (0, 0, 0, 0)) := by decide +kernel
theorem f_166_66 : rfI 166 66 = some (.aload_n 0, (0, 0, 0, 0)) := by decide +kernel
theorem f_166_67 : rfI 166 67 = some (.getfield 10, (11, 0, 2, 0)) := by decide +kernel
theorem f_166_70 : rfI 166 70 = some (.iload_n 2, (0, 0, 0, 0)) := by decide +kernel
theorem f_166_71 : rfI 166 71 = some (.invokevirtual 303, (23, 4, 11, 0)) := by decide +kernel
theorem f_166_74 : rfI 166 74 = some (.aload_n 0, (0, 0, 0, 0)) := by decide +kernel
theorem f_166_75 : rfI 166 75 = some (.getfield 10, (11, 0, 2, 0)) := by decide +kernel
theorem f_166_78 : rfI 166 78 = some (.invokevirtual 135, (94, 1, 11, 0)) := by decide +kernel
theorem f_166_81 : rfI 166 81 = some (.iload_n 2, (0, 0, 0, 0)) := by decide +kernel
theorem f_166_82 : rfI 166 82 = some (.ireturn, (0, 0, 0, 0)) := by decide +kernel
theorem f_167_0 : rfI 167 0 = some (.iload_n 2, (0, 0, 0, 0)) := by decide +kernel
theorem f_167_1 : rfI 167 1 = some (.ifCond .lt 13, (0, 0, 0, 0)) := by decide +kernel
theorem f_167_4 : rfI 167 4 = some (.iload_n 2, (0, 0, 0, 0)) := by decide +kernel
theorem f_167_5 : rfI 167 5 = some (.bipush 60, (0, 0, 0, 0)) := by decide +kernel
theorem f_167_7 : rfI 167 7 = some (.if_icmp .ge 7, (0, 0, 0, 0)) := by decide +kernel
theorem f_167_10 : rfI 167 10 = some (.iconst 1, (0, 0, 0, 0)) := by decide +kernel
theorem f_167_11 : rfI 167 11 = some (.goto 4, (0, 0, 0, 0)) := by decide +kernel
theorem f_167_14 : rfI 167 14 = some (.iconst 0, (0, 0, 0, 0)) := by decide +kernel
theorem f_167_15 : rfI 167 15 = some (.istore_n 3, (0, 0, 0, 0)) := by decide +kernel
theorem f_167_16 : rfI 167 16 = some (.iload_n 1, (0, 0, 0, 0)) := by decide +kernel
theorem f_167_17 : rfI 167 17 = some (.iconst 1, (0, 0, 0, 0)) := by decide +kernel
theorem f_167_18 : rfI 167 18 = some (.if_icmp .lt 36, (0, 0, 0, 0)) := by decide +kernel
theorem f_167_21 : rfI 167 21 = some (.iload_n 1, (0, 0, 0, 0)) := by decide +kernel
theorem f_167_22 : rfI 167 22 = some (.bipush 60, (0, 0, 0, 0)) := by decide +kernel
theorem f_167_24 : rfI 167 24 = some (.if_icmp .gt 30, (0, 0, 0, 0)) := by decide +kernel
theorem f_167_27 : rfI 167 27 = some (.iload_n 1, (0, 0, 0, 0)) := by decide +kernel
theorem f_167_28 : rfI 167 28 = some (.aload_n 0, (0, 0, 0, 0)) := by decide +kernel
theorem f_167_29 : rfI 167 29 = some (.getfield 10, (11, 0, 2, 0)) := by decide +kernel
theorem f_167_32 : rfI 167 32 = some (.getfield 127, (9, 1, 0, 0)) := by decide +kernel
theorem f_167_35 : rfI 167 35 = some (.if_icmp .gt 19, (0, 0, 0, 0)) := by decide +kernel
theorem f_167_38 : rfI 167 38 = some (.iload_n 3, (0, 0, 0, 0)) := by decide +kernel
theorem f_167_39 : rfI 167 39 = some (.ifCond .ne 17, (0, 0, 0, 0)) := by decide +kernel
theorem f_167_42 : rfI 167 42 = some (.iload_n 2, (0, 0, 0, 0)) := by decide +kernel
theorem f_167_43 : rfI 167 43 = some (.bipush 100, (0, 0, 0, 0)) := by decide +kernel
theorem f_167_45 : rfI 167 45 = some (.if_icmp .eq 11, (0, 0, 0, 0)) := by decide +kernel
theorem f_167_48 : rfI 167 48 = some (.iload_n 2, (0, 0, 0, 0)) := by decide +kernel
theorem f_167_49 : rfI 167 49 = some (.bipush 101, (0, 0, 0, 0)) := by decide +kernel
theorem f_167_51 : rfI 167 51 = some (.if_icmp .eq 5, (0, 0, 0, 0)) := by decide +kernel
theorem f_167_54 : rfI 167 54 = some (.iconst (-1), (0, 0, 0, 0)) := by decide +kernel
theorem f_167_55 : rfI 167 55 = some (.ireturn, (0, 0, 0, 0)) := by decide +kernel
theorem f_167_56 : rfI 167 56 = some (.aload_n 0, (0, 0, 0, 0)) := by decide +kernel
theorem f_167_57 : rfI 167 57 = some (.iload_n 1, (0, 0, 0, 0)) := by decide +kernel
theorem f_167_58 : rfI 167 58 = some (.iload_n 2, (0, 0, 0, 0)) := by decide +kernel
theorem f_167_59 : rfI 167 59 = some (.invokevirtual 307, (168, 3, 11, 0)) := by decide +kernel
theorem f_167_62 : rfI 167 62 = some (.istore 4, (0, 0, 0, 0)) := by decide +kernel
theorem f_167_64 : rfI 167 64 = some (.aload_n 0, (0, 0, 0, 0)) := by decide +kernel
theorem f_167_65 : rfI 167 65 = some (.getfield 10, (11, 0, 2, 0)) := by decide +kernel
theorem f_167_68 : rfI 167 68 = some (.invokevirtual 135, (94, 1, 11, 0)) := by decide +kernel
theorem f_167_71 : rfI 167 71 = some (.iload 4, (0, 0, 0, 0)) := by decide +kernel
theorem f_167_73 : rfI 167 73 = some (.ireturn, (0, 0, 0, 0)) := by decide +kernel
theorem f_168_0 : rfI 168 0 = some (.aload_n 0, (0, 0, 0, 0)) := by decide +kernel
theorem f_168_1 : rfI 168 1 = some (.getfield 10, (11, 0, 2, 0)) := by decide +kernel
theorem f_168_4 : rfI 168 4 = some (.iload_n 1, (0, 0, 0, 0)) := by decide +kernel
theorem f_168_5 : rfI 168 5 = some (.invokevirtual 297, (97, 2, 11, 0)) := by decide +kernel
theorem f_168_8 : rfI 168 8 = some (.istore_n 3, (0, 0, 0, 0)) := by decide +kernel
theorem f_168_9 : rfI 168 9 = some (.iload_n 3, (0, 0, 0, 0)) := by decide +kernel
theorem f_168_10 : rfI 168 10 = some (.iload_n 1, (0, 0, 0, 0)) := by decide +kernel
theorem f_168_11 : rfI 168 11 = some (.if_icmp .ge 9, (0, 0, 0, 0)) := by decide +kernel
theorem f_168_14 : rfI 168 14 = some (.iconst 1, (0, 0, 0, 0)) := by decide +kernel
theorem f_168_15 : rfI 168 15 = some (.iload_n 3, (0, 0, 0, 0)) := by decide +kernel
theorem f_168_16 : rfI 168 16 = some (.invokestatic 300, (179, 2, 10, 0)) := by decide +kernel
theorem f_168_19 : rfI 168 19 = some (.ireturn, (0, 0, 0, 0)) := by decide +kernel
theorem f_168_20 : rfI 168 20 = some (.aload_n 0, (0, 0, 0, 0)) := by decide +kernel
theorem f_168_21 : rfI 168 21 = some (.getfield 81, (11, 11, 2, 0)) := by decide +kernel
theorem f_168_24 : rfI 168 24 = some (.aload_n 0, (0, 0, 0, 0)) := by decide +kernel
theorem f_168_25 : rfI 168 25 = some (.getfield 10, (11, 0, 2, 0)) := by decide +kernel
theorem f_168_28 : rfI 168 28 = some (.iload_n 1, (0, 0, 0, 0)) := by decide +kernel
theorem f_168_29 : rfI 168 29 = some (.invokevirtual 310, (27, 3, 11, 0)) := by decide +kernel
theorem f_168_32 : rfI 168 32 = some (.iload_n 2, (0, 0, 0, 0)) := by decide +kernel
theorem f_168_33 : rfI 168 33 = some (.bipush 100, (0, 0, 0, 0)) := by decide +kernel
theorem f_168_35 : rfI 168 35 = some (.if_icmp .ne 12, (0, 0, 0, 0)) := by decide +kernel
theorem f_168_38 : rfI 168 38 = some (.aload_n 0, (0, 0, 0, 0)) := by decide +kernel
theorem f_168_39 : rfI 168 39 = some (.getfield 81, (11, 11, 2, 0)) := by decide +kernel
theorem f_168_42 : rfI 168 42 = some (.iconst 0, (0, 0, 0, 0)) := by decide +kernel
theorem f_168_43 : rfI 168 43 = some (.invokevirtual 314, (29, 2, 11, 0)) := by decide +kernel
theorem f_168_46 : rfI 168 46 = some (.ireturn, (0, 0, 0, 0)) := by decide +kernel
theorem f_168_47 : rfI 168 47 = some (.aload_n 0, (0, 0, 0, 0)) := by decide +kernel
theorem f_168_48 : rfI 168 48 = some (.getfield 81, (11, 11, 2, 0)) := by decide +kernel
theorem f_168_51 : rfI 168 51 = some (.iconst 0, (0, 0, 0, 0)) := by decide +kernel
theorem f_168_52 : rfI 168 52 = some (.invokevirtual 317, (31, 2, 11, 0)) := by decide +kernel
theorem f_168_55 : rfI 168 55 = some (.istore 4, (0, 0, 0, 0)) := by decide +kernel
theorem f_168_57 : rfI 168 57 = some (.iload 4, (0, 0, 0, 0)) := by decide +kernel
theorem f_168_59 : rfI 168 59 = some (.ifCond .ge 6, (0, 0, 0, 0)) := by decide +kernel
theorem f_168_62 : rfI 168 62 = some (.bipush (-2), (0, 0, 0, 0)) := by decide +kernel
theorem f_168_64 : rfI 168 64 = some (.ireturn, (0, 0, 0, 0)) := by decide +kernel
theorem f_168_65 : rfI 168 65 = some (.iload_n 2, (0, 0, 0, 0)) := by decide +kernel
theorem f_168_66 : rfI 168 66 = some (.bipush 101, (0, 0, 0, 0)) := by decide +kernel
theorem f_168_68 : rfI 168 68 = some (.if_icmp .ne 6, (0, 0, 0, 0)) := by decide +kernel
theorem f_168_71 : rfI 168 71 = some (.iload 4, (0, 0, 0, 0)) := by decide +kernel
theorem f_168_73 : rfI 168 73 = some (.ireturn, (0, 0, 0, 0)) := by decide +kernel
theorem f_168_74 : rfI 168 74 = some (.iload_n 2, (0, 0, 0, 0)) := by decide +kernel
theorem f_168_75 : rfI 168 75 = some (.iload 4, (0, 0, 0, 0)) := by decide +kernel
theorem f_168_77 : rfI 168 77 = some (.if_icmp .ge 19, (0, 0, 0, 0)) := by decide +kernel
theorem f_168_80 : rfI 168 80 = some (.aload_n 0, (0, 0, 0, 0)) := by decide +kernel
theorem f_168_81 : rfI 168 81 = some (.getfield 81, (11, 11, 2, 0)) := by decide +kernel
theorem f_168_84 : rfI 168 84 = some (.aload_n 0, (0, 0, 0, 0)) := by decide +kernel
theorem f_168_85 : rfI 168 85 = some (.getfield 10, (11, 0, 2, 0)) := by decide +kernel
theorem f_168_88 : rfI 168 88 = some (.iload_n 1, (0, 0, 0, 0)) := by decide +kernel
theorem f_168_89 : rfI 168 89 = some (.iload_n 2, (0, 0, 0, 0)) := by decide +kernel
theorem f_168_90 : rfI 168 90 = some (.invokevirtual 320, (32, 4, 11, 0)) := by decide +kernel
theorem f_168_93 : rfI 168 93 = some (.goto 5, (0, 0, 0, 0)) := by decide +kernel
theorem f_168_96 : rfI 168 96 = some (.bipush (-4), (0, 0, 0, 0)) := by decide +kernel
theorem f_168_98 : rfI 168 98 = some (.ireturn, (0, 0, 0, 0)) := by decide +kernel
theorem f_169_0 : rfI 169 0 = some (.aload_n 0, (0, 0, 0, 0)) := by decide +kernel
theorem f_169_1 : rfI 169 1 = some (.getfield 81, (11, 11, 2, 0)) := by decide +kernel
theorem f_169_4 : rfI 169 4 = some (.invokevirtual 324, (34, 1, 11, 0)) := by decide +kernel
theorem f_169_7 : rfI 169 7 = some (.ifCond .eq 7, (0, 0, 0, 0)) := by decide +kernel
theorem f_169_10 : rfI 169 10 = some (.iconst 1, (0, 0, 0, 0)) := by decide +kernel
theorem f_169_11 : rfI 169 11 = some (.goto 4, (0, 0, 0, 0)) := by decide +kernel
theorem f_169_14 : rfI 169 14 = some (.iconst 0, (0, 0, 0, 0)) := by decide +kernel
theorem f_169_15 : rfI 169 15 = some (.ireturn, (0, 0, 0, 0)) := by decide +kernel
theorem f_170_0 : rfI 170 0 = some (.iload_n 1, (0, 0, 0, 0)) := by decide +kernel
theorem f_170_1 : rfI 170 1 = some (.iconst 2, (0, 0, 0, 0)) := by decide +kernel
theorem f_170_2 : rfI 170 2 = some (.if_icmp .lt 20, (0, 0, 0, 0)) := by decide +kernel
theorem f_170_5 : rfI 170 5 = some (.iload_n 1, (0, 0, 0, 0)) := by decide +kernel
theorem f_170_6 : rfI 170 6 = some (.bipush 8, (0, 0, 0, 0)) := by decide +kernel
theorem f_170_8 : rfI 170 8 = some (.if_icmp .gt 14, (0, 0, 0, 0)) := by decide +kernel
theorem f_170_11 : rfI 170 11 = some (.iload_n 1, (0, 0, 0, 0)) := by decide +kernel
theorem f_170_12 : rfI 170 12 = some (.aload_n 0, (0, 0, 0, 0)) := by decide +kernel
theorem f_170_13 : rfI 170 13 = some (.getfield 10, (11, 0, 2, 0)) := by decide +kernel
theorem f_170_16 : rfI 170 16 = some (.getfield 127, (9, 1, 0, 0)) := by decide +kernel
theorem f_170_19 : rfI 170 19 = some (.if_icmp .le 5, (0, 0, 0, 0)) := by decide +kernel
theorem f_170_22 : rfI 170 22 = some (.iconst (-1), (0, 0, 0, 0)) := by decide +kernel
theorem f_170_23 : rfI 170 23 = some (.ireturn, (0, 0, 0, 0)) := by decide +kernel
theorem f_170_24 : rfI 170 24 = some (.aload_n 0, (0, 0, 0, 0)) := by decide +kernel
theorem f_170_25 : rfI 170 25 = some (.getfield 10, (11, 0, 2, 0)) := by decide +kernel
theorem f_170_28 : rfI 170 28 = some (.iload_n 1, (0, 0, 0, 0)) := by decide +kernel
theorem f_170_29 : rfI 170 29 = some (.invokevirtual 327, (98, 2, 11, 0)) := by decide +kernel
theorem f_170_32 : rfI 170 32 = some (.ifCond .eq 8, (0, 0, 0, 0)) := by decide +kernel
theorem f_170_35 : rfI 170 35 = some (.bipush (-2), (0, 0, 0, 0)) := by decide +kernel
theorem f_170_37 : rfI 170 37 = some (.goto 15, (0, 0, 0, 0)) := by decide +kernel
theorem f_170_40 : rfI 170 40 = some (.aload_n 0, (0, 0, 0, 0)) := by decide +kernel
theorem f_170_41 : rfI 170 41 = some (.getfield 81, (11, 11, 2, 0)) := by decide +kernel
theorem f_170_44 : rfI 170 44 = some (.aload_n 0, (0, 0, 0, 0)) := by decide +kernel
theorem f_170_45 : rfI 170 45 = some (.getfield 10, (11, 0, 2, 0)) := by decide +kernel
theorem f_170_48 : rfI 170 48 = some (.iload_n 1, (0, 0, 0, 0)) := by decide +kernel
theorem f_170_49 : rfI 170 49 = some (.invokevirtual 330, (36, 3, 11, 0)) := by decide +kernel
theorem f_170_52 : rfI 170 52 = some (.istore_n 2, (0, 0, 0, 0)) := by decide +kernel
theorem f_170_53 : rfI 170 53 = some (.aload_n 0, (0, 0, 0, 0)) := by decide +kernel
theorem f_170_54 : rfI 170 54 = some (.getfield 10, (11, 0, 2, 0)) := by decide +kernel
theorem f_170_57 : rfI 170 57 = some (.invokevirtual 135, (94, 1, 11, 0)) := by decide +kernel
theorem f_170_60 : rfI 170 60 = some (.iload_n 2, (0, 0, 0, 0)) := by decide +kernel
theorem f_170_61 : rfI 170 61 = some (.ireturn, (0, 0, 0, 0)) := by decide +kernel
theorem f_171_0 : rfI 171 0 = some (.iload_n 1, (0, 0, 0, 0)) := by decide +kernel
theorem f_171_1 : rfI 171 1 = some (.iconst 2, (0, 0, 0, 0)) := by decide +kernel
theorem f_171_2 : rfI 171 2 = some (.if_icmp .lt 20, (0, 0, 0, 0)) := by decide +kernel
theorem f_171_5 : rfI 171 5 = some (.iload_n 1, (0, 0, 0, 0)) := by decide +kernel
theorem f_171_6 : rfI 171 6 = some (.bipush 8, (0, 0, 0, 0)) := by decide +kernel
theorem f_171_8 : rfI 171 8 = some (.if_icmp .gt 14, (0, 0, 0, 0)) := by decide +kernel
theorem f_171_11 : rfI 171 11 = some (.iload_n 1, (0, 0, 0, 0)) := by decide +kernel
theorem f_171_12 : rfI 171 12 = some (.aload_n 0, (0, 0, 0, 0)) := by decide +kernel
theorem f_171_13 : rfI 171 13 = some (.getfield 10, (11, 0, 2, 0)) := by decide +kernel
theorem f_171_16 : rfI 171 16 = some (.getfield 127, (9, 1, 0, 0)) := by decide +kernel
theorem f_171_19 : rfI 171 19 = some (.if_icmp .le 5, (0, 0, 0, 0)) := by decide +kernel
theorem f_171_22 : rfI 171 22 = some (.iconst (-1), (0, 0, 0, 0)) := by decide +kernel
theorem f_171_23 : rfI 171 23 = some (.ireturn, (0, 0, 0, 0)) := by decide +kernel
theorem f_171_24 : rfI 171 24 = some (.aload_n 0, (0, 0, 0, 0)) := by decide +kernel
theorem f_171_25 : rfI 171 25 = some (.getfield 10, (11, 0, 2, 0)) := by decide +kernel
theorem f_171_28 : rfI 171 28 = some (.iload_n 1, (0, 0, 0, 0)) := by decide +kernel
theorem f_171_29 : rfI 171 29 = some (.invokevirtual 327, (98, 2, 11, 0)) := by decide +kernel
theorem f_171_32 : rfI 171 32 = some (.ifCond .eq 8, (0, 0, 0, 0)) := by decide +kernel
theorem f_171_35 : rfI 171 35 = some (.bipush (-2), (0, 0, 0, 0)) := by decide +kernel
theorem f_171_37 : rfI 171 37 = some (.goto 15, (0, 0, 0, 0)) := by decide +kernel
theorem f_171_40 : rfI 171 40 = some (.aload_n 0, (0, 0, 0, 0)) := by decide +kernel
theorem f_171_41 : rfI 171 41 = some (.getfield 81, (11, 11, 2, 0)) := by decide +kernel
theorem f_171_44 : rfI 171 44 = some (.aload_n 0, (0, 0, 0, 0)) := by decide +kernel
theorem f_171_45 : rfI 171 45 = some (.getfield 10, (11, 0, 2, 0)) := by decide +kernel
theorem f_171_48 : rfI 171 48 = some (.iload_n 1, (0, 0, 0, 0)) := by decide +kernel
theorem f_171_49 : rfI 171 49 = some (.invokevirtual 333, (38, 3, 11, 0)) := by decide +kernel
theorem f_171_52 : rfI 171 52 = some (.istore_n 2, (0, 0, 0, 0)) := by decide +kernel
theorem f_171_53 : rfI 171 53 = some (.aload_n 0, (0, 0, 0, 0)) := by decide +kernel
theorem f_171_54 : rfI 171 54 = some (.getfield 10, (11, 0, 2, 0)) := by decide +kernel
theorem f_171_57 : rfI 171 57 = some (.invokevirtual 135, (94, 1, 11, 0)) := by decide +kernel
theorem f_171_60 : rfI 171 60 = some (.iload_n 2, (0, 0, 0, 0)) := by decide +kernel
theorem f_171_61 : rfI 171 61 = some (.ireturn, (0, 0, 0, 0)) := by decide +kernel
theorem f_172_0 : rfI 172 0 = some (.iload_n 1, (0, 0, 0, 0)) := by decide +kernel
theorem f_172_1 : rfI 172 1 = some (.ifCond .lt 10, (0, 0, 0, 0)) := by decide +kernel
theorem f_172_4 : rfI 172 4 = some (.iload_n 1, (0, 0, 0, 0)) := by decide +kernel
theorem f_172_5 : rfI 172 5 = some (.ldc_w 336, (4, 4, 4, 65535)) := by decide +kernel
theorem f_172_8 : rfI 172 8 = some (.if_icmp .le 5, (0, 0, 0, 0)) := by decide +kernel
theorem f_172_11 : rfI 172 11 = some (.iconst 0, (0, 0, 0, 0)) := by decide +kernel
theorem f_172_12 : rfI 172 12 = some (.ireturn, (0, 0, 0, 0)) := by decide +kernel
theorem f_172_13 : rfI 172 13 = some (.aload_n 0, (0, 0, 0, 0)) := by decide +kernel
theorem f_172_14 : rfI 172 14 = some (.getfield 19, (11, 1, 2, 0)) := by decide +kernel
theorem f_172_17 : rfI 172 17 = some (.iload_n 1, (0, 0, 0, 0)) := by decide +kernel
theorem f_172_18 : rfI 172 18 = some (.putfield 337, (10, 7, 0, 0)) := by decide +kernel
theorem f_172_21 : rfI 172 21 = some (.iconst 1, (0, 0, 0, 0)) := by decide +kernel
theorem f_172_22 : rfI 172 22 = some (.ireturn, (0, 0, 0, 0)) := by decide +kernel
theorem f_173_0 : rfI 173 0 = some (.aload_n 0, (0, 0, 0, 0)) := by decide +kernel
theorem f_173_1 : rfI 173 1 = some (.getfield 23, (11, 2, 2, 0)) := by decide +kernel
theorem f_173_4 : rfI 173 4 = some (.aload_n 0, (0, 0, 0, 0)) := by decide +kernel
theorem f_173_5 : rfI 173 5 = some (.getfield 19, (11, 1, 2, 0)) := by decide +kernel
theorem f_173_8 : rfI 173 8 = some (.invokevirtual 145, (108, 2, 11, 0)) := by decide +kernel
theorem f_173_11 : rfI 173 11 = some (.aload_n 0, (0, 0, 0, 0)) := by decide +kernel
theorem f_173_12 : rfI 173 12 = some (.iconst 1, (0, 0, 0, 0)) := by decide +kernel
theorem f_173_13 : rfI 173 13 = some (.putfield 92, (11, 13, 1, 0)) := by decide +kernel
theorem f_173_16 : rfI 173 16 = some (.aload_n 0, (0, 0, 0, 0)) := by decide +kernel
theorem f_173_17 : rfI 173 17 = some (.getfield 19, (11, 1, 2, 0)) := by decide +kernel
theorem f_173_20 : rfI 173 20 = some (.getfield 340, (10, 5, 0, 0)) := by decide +kernel
theorem f_173_23 : rfI 173 23 = some (.ireturn, (0, 0, 0, 0)) := by decide +kernel
theorem f_174_0 : rfI 174 0 = some (.aload_n 0, (0, 0, 0, 0)) := by decide +kernel
theorem f_174_1 : rfI 174 1 = some (.getfield 92, (11, 13, 1, 0)) := by decide +kernel
theorem f_174_4 : rfI 174 4 = some (.ifCond .ne 5, (0, 0, 0, 0)) := by decide +kernel
theorem f_174_7 : rfI 174 7 = some (.iconst 0, (0, 0, 0, 0)) := by decide +kernel
theorem f_174_8 : rfI 174 8 = some (.ireturn, (0, 0, 0, 0)) := by decide +kernel
theorem f_174_9 : rfI 174 9 = some (.aload_n 0, (0, 0, 0, 0)) := by decide +kernel
theorem f_174_10 : rfI 174 10 = some (.getfield 19, (11, 1, 2, 0)) := by decide +kernel
theorem f_174_13 : rfI 174 13 = some (.aload_n 0, (0, 0, 0, 0)) := by decide +kernel
theorem f_174_14 : rfI 174 14 = some (.getfield 23, (11, 2, 2, 0)) := by decide +kernel
theorem f_174_17 : rfI 174 17 = some (.invokevirtual 145, (108, 2, 11, 0)) := by decide +kernel
theorem f_174_20 : rfI 174 20 = some (.iconst 1, (0, 0, 0, 0)) := by decide +kernel
theorem f_174_21 : rfI 174 21 = some (.ireturn, (0, 0, 0, 0)) := by decide +kernel
theorem f_175_0 : rfI 175 0 = some (.iload_n 1, (0, 0, 0, 0)) := by decide +kernel
theorem f_175_1 : rfI 175 1 = some (.ifCond .lt 20, (0, 0, 0, 0)) := by decide +kernel
theorem f_175_4 : rfI 175 4 = some (.iload_n 1, (0, 0, 0, 0)) := by decide +kernel
theorem f_175_5 : rfI 175 5 = some (.bipush 8, (0, 0, 0, 0)) := by decide +kernel
theorem f_175_7 : rfI 175 7 = some (.if_icmp .gt 14, (0, 0, 0, 0)) := by decide +kernel
theorem f_175_10 : rfI 175 10 = some (.iload_n 1, (0, 0, 0, 0)) := by decide +kernel
theorem f_175_11 : rfI 175 11 = some (.aload_n 0, (0, 0, 0, 0)) := by decide +kernel
theorem f_175_12 : rfI 175 12 = some (.getfield 10, (11, 0, 2, 0)) := by decide +kernel
theorem f_175_15 : rfI 175 15 = some (.getfield 127, (9, 1, 0, 0)) := by decide +kernel
theorem f_175_18 : rfI 175 18 = some (.if_icmp .le 6, (0, 0, 0, 0)) := by decide +kernel
theorem f_175_21 : rfI 175 21 = some (.bipush (-2), (0, 0, 0, 0)) := by decide +kernel
theorem f_175_23 : rfI 175 23 = some (.ireturn, (0, 0, 0, 0)) := by decide +kernel
theorem f_175_24 : rfI 175 24 = some (.iconst (-1), (0, 0, 0, 0)) := by decide +kernel
theorem f_175_25 : rfI 175 25 = some (.istore_n 2, (0, 0, 0, 0)) := by decide +kernel
theorem f_175_26 : rfI 175 26 = some (.iload_n 1, (0, 0, 0, 0)) := by decide +kernel
theorem f_175_27 : rfI 175 27 = some (.iconst 1, (0, 0, 0, 0)) := by decide +kernel
theorem f_175_28 : rfI 175 28 = some (.isub, (0, 0, 0, 0)) := by decide +kernel
theorem f_175_29 : rfI 175 29 = some (.istore_n 3, (0, 0, 0, 0)) := by decide +kernel
theorem f_175_30 : rfI 175 30 = some (.iload_n 3, (0, 0, 0, 0)) := by decide +kernel
theorem f_175_31 : rfI 175 31 = some (.ifCond .lt 34, (0, 0, 0, 0)) := by decide +kernel
theorem f_175_34 : rfI 175 34 = some (.aload_n 0, (0, 0, 0, 0)) := by decide +kernel
theorem f_175_35 : rfI 175 35 = some (.getfield 19, (11, 1, 2, 0)) := by decide +kernel
theorem f_175_38 : rfI 175 38 = some (.iload_n 3, (0, 0, 0, 0)) := by decide +kernel
theorem f_175_39 : rfI 175 39 = some (.invokevirtual 171, (114, 2, 11, 0)) := by decide +kernel
theorem f_175_42 : rfI 175 42 = some (.sipush 256, (0, 0, 0, 0)) := by decide +kernel
theorem f_175_45 : rfI 175 45 = some (.irem, (0, 0, 0, 0)) := by decide +kernel
theorem f_175_46 : rfI 175 46 = some (.aload_n 0, (0, 0, 0, 0)) := by decide +kernel
theorem f_175_47 : rfI 175 47 = some (.getfield 10, (11, 0, 2, 0)) := by decide +kernel
theorem f_175_50 : rfI 175 50 = some (.iload_n 3, (0, 0, 0, 0)) := by decide +kernel
theorem f_175_51 : rfI 175 51 = some (.invokevirtual 287, (95, 2, 11, 0)) := by decide +kernel
theorem f_175_54 : rfI 175 54 = some (.if_icmp .eq 5, (0, 0, 0, 0)) := by decide +kernel
theorem f_175_57 : rfI 175 57 = some (.iload_n 3, (0, 0, 0, 0)) := by decide +kernel
theorem f_175_58 : rfI 175 58 = some (.istore_n 2, (0, 0, 0, 0)) := by decide +kernel
theorem f_175_59 : rfI 175 59 = some (.iinc 3 (-1), (0, 0, 0, 0)) := by decide +kernel
theorem f_175_62 : rfI 175 62 = some (.goto (-32), (0, 0, 0, 0)) := by decide +kernel
theorem f_175_65 : rfI 175 65 = some (.aload_n 0, (0, 0, 0, 0)) := by decide +kernel
theorem f_175_66 : rfI 175 66 = some (.getfield 10, (11, 0, 2, 0)) := by decide +kernel
theorem f_175_69 : rfI 175 69 = some (.invokevirtual 135, (94, 1, 11, 0)) := by decide +kernel
theorem f_175_72 : rfI 175 72 = some (.iload_n 2, (0, 0, 0, 0)) := by decide +kernel
theorem f_175_73 : rfI 175 73 = some (.ireturn, (0, 0, 0, 0)) := by decide +kernel
theorem f_176_0 : rfI 176 0 = some (.iload_n 1, (0, 0, 0, 0)) := by decide +kernel
theorem f_176_1 : rfI 176 1 = some (.tableswitch 123 0 8 #[51, 59, 67, 75, 83, 91, 99, 107, 115], (0, 0, 0, 0)) := by decide +kernel
theorem f_176_52 : rfI 176 52 = some (.aload_n 0, (0, 0, 0, 0)) := by decide +kernel
theorem f_176_53 : rfI 176 53 = some (.getfield 19, (11, 1, 2, 0)) := by decide +kernel
theorem f_176_56 : rfI 176 56 = some (.getfield 340, (10, 5, 0, 0)) := by decide +kernel
theorem f_176_59 : rfI 176 59 = some (.ireturn, (0, 0, 0, 0)) := by decide +kernel
theorem f_176_60 : rfI 176 60 = some (.aload_n 0, (0, 0, 0, 0)) := by decide +kernel
theorem f_176_61 : rfI 176 61 = some (.getfield 19, (11, 1, 2, 0)) := by decide +kernel
theorem f_176_64 : rfI 176 64 = some (.getfield 343, (10, 6, 0, 0)) := by decide +kernel
theorem f_176_67 : rfI 176 67 = some (.ireturn, (0, 0, 0, 0)) := by decide +kernel
theorem f_176_68 : rfI 176 68 = some (.aload_n 0, (0, 0, 0, 0)) := by decide +kernel
theorem f_176_69 : rfI 176 69 = some (.getfield 19, (11, 1, 2, 0)) := by decide +kernel
theorem f_176_72 : rfI 176 72 = some (.getfield 345, (10, 3, 0, 0)) := by decide +kernel
theorem f_176_75 : rfI 176 75 = some (.ireturn, (0, 0, 0, 0)) := by decide +kernel
theorem f_176_76 : rfI 176 76 = some (.aload_n 0, (0, 0, 0, 0)) := by decide +kernel
theorem f_176_77 : rfI 176 77 = some (.getfield 19, (11, 1, 2, 0)) := by decide +kernel
theorem f_176_80 : rfI 176 80 = some (.getfield 260, (10, 4, 0, 0)) := by decide +kernel
theorem f_176_83 : rfI 176 83 = some (.ireturn, (0, 0, 0, 0)) := by decide +kernel
theorem f_176_84 : rfI 176 84 = some (.aload_n 0, (0, 0, 0, 0)) := by decide +kernel
theorem f_176_85 : rfI 176 85 = some (.getfield 81, (11, 11, 2, 0)) := by decide +kernel
theorem f_176_88 : rfI 176 88 = some (.invokevirtual 348, (26, 1, 11, 0)) := by decide +kernel
theorem f_176_91 : rfI 176 91 = some (.ireturn, (0, 0, 0, 0)) := by decide +kernel
theorem f_176_92 : rfI 176 92 = some (.aload_n 0, (0, 0, 0, 0)) := by decide +kernel
theorem f_176_93 : rfI 176 93 = some (.getfield 88, (11, 12, 2, 0)) := by decide +kernel
theorem f_176_96 : rfI 176 96 = some (.getfield 350, (3, 5, 0, 0)) := by decide +kernel
theorem f_176_99 : rfI 176 99 = some (.ireturn, (0, 0, 0, 0)) := by decide +kernel
theorem f_176_100 : rfI 176 100 = some (.aload_n 0, (0, 0, 0, 0)) := by decide +kernel
theorem f_176_101 : rfI 176 101 = some (.getfield 10, (11, 0, 2, 0)) := by decide +kernel
theorem f_176_104 : rfI 176 104 = some (.getfield 127, (9, 1, 0, 0)) := by decide +kernel
theorem f_176_107 : rfI 176 107 = some (.ireturn, (0, 0, 0, 0)) := by decide +kernel
theorem f_176_108 : rfI 176 108 = some (.aload_n 0, (0, 0, 0, 0)) := by decide +kernel
theorem f_176_109 : rfI 176 109 = some (.getfield 19, (11, 1, 2, 0)) := by decide +kernel
theorem f_176_112 : rfI 176 112 = some (.getfield 337, (10, 7, 0, 0)) := by decide +kernel
theorem f_176_115 : rfI 176 115 = some (.ireturn, (0, 0, 0, 0)) := by decide +kernel
theorem f_176_116 : rfI 176 116 = some (.aload_n 0, (0, 0, 0, 0)) := by decide +kernel
theorem f_176_117 : rfI 176 117 = some (.getfield 19, (11, 1, 2, 0)) := by decide +kernel
theorem f_176_120 : rfI 176 120 = some (.invokevirtual 168, (125, 1, 11, 0)) := by decide +kernel
theorem f_176_123 : rfI 176 123 = some (.ireturn, (0, 0, 0, 0)) := by decide +kernel
theorem f_176_124 : rfI 176 124 = some (.aload_n 0, (0, 0, 0, 0)) := by decide +kernel
theorem f_176_125 : rfI 176 125 = some (.getfield 81, (11, 11, 2, 0)) := by decide +kernel
theorem f_176_128 : rfI 176 128 = some (.iload_n 1, (0, 0, 0, 0)) := by decide +kernel
theorem f_176_129 : rfI 176 129 = some (.bipush 10, (0, 0, 0, 0)) := by decide +kernel
theorem f_176_131 : rfI 176 131 = some (.isub, (0, 0, 0, 0)) := by decide +kernel
theorem f_176_132 : rfI 176 132 = some (.invokevirtual 353, (24, 2, 11, 0)) := by decide +kernel
theorem f_176_135 : rfI 176 135 = some (.istore_n 2, (0, 0, 0, 0)) := by decide +kernel
theorem f_176_136 : rfI 176 136 = some (.iload_n 2, (0, 0, 0, 0)) := by decide +kernel
theorem f_176_137 : rfI 176 137 = some (.ifCond .le 7, (0, 0, 0, 0)) := by decide +kernel
theorem f_176_140 : rfI 176 140 = some (.iload_n 2, (0, 0, 0, 0)) := by decide +kernel
theorem f_176_141 : rfI 176 141 = some (.goto 4, (0, 0, 0, 0)) := by decide +kernel
theorem f_176_144 : rfI 176 144 = some (.iconst (-1), (0, 0, 0, 0)) := by decide +kernel
theorem f_176_145 : rfI 176 145 = some (.ireturn, (0, 0, 0, 0)) := by decide +kernel
theorem f_177_0 : rfI 177 0 = some (.iload_n 0, (0, 0, 0, 0)) := by decide +kernel
theorem f_177_1 : rfI 177 1 = some (.ifCond .lt 13, (0, 0, 0, 0)) := by decide +kernel
theorem f_177_4 : rfI 177 4 = some (.iload_n 0, (0, 0, 0, 0)) := by decide +kernel
theorem f_177_5 : rfI 177 5 = some (.bipush 8, (0, 0, 0, 0)) := by decide +kernel
theorem f_177_7 : rfI 177 7 = some (.if_icmp .ge 7, (0, 0, 0, 0)) := by decide +kernel
theorem f_177_10 : rfI 177 10 = some (.iconst 1, (0, 0, 0, 0)) := by decide +kernel
theorem f_177_11 : rfI 177 11 = some (.goto 4, (0, 0, 0, 0)) := by decide +kernel
theorem f_177_14 : rfI 177 14 = some (.iconst 0, (0, 0, 0, 0)) := by decide +kernel
theorem f_177_15 : rfI 177 15 = some (.ireturn, (0, 0, 0, 0)) := by decide +kernel
theorem f_178_0 : rfI 178 0 = some (.iload_n 0, (0, 0, 0, 0)) := by decide +kernel
theorem f_178_1 : rfI 178 1 = some (.bipush 48, (0, 0, 0, 0)) := by decide +kernel
theorem f_178_3 : rfI 178 3 = some (.if_icmp .lt 13, (0, 0, 0, 0)) := by decide +kernel
theorem f_178_6 : rfI 178 6 = some (.iload_n 0, (0, 0, 0, 0)) := by decide +kernel
theorem f_178_7 : rfI 178 7 = some (.bipush 57, (0, 0, 0, 0)) := by decide +kernel
theorem f_178_9 : rfI 178 9 = some (.if_icmp .gt 7, (0, 0, 0, 0)) := by decide +kernel
theorem f_178_12 : rfI 178 12 = some (.iconst 1, (0, 0, 0, 0)) := by decide +kernel
theorem f_178_13 : rfI 178 13 = some (.goto 4, (0, 0, 0, 0)) := by decide +kernel
theorem f_178_16 : rfI 178 16 = some (.iconst 0, (0, 0, 0, 0)) := by decide +kernel
theorem f_178_17 : rfI 178 17 = some (.ireturn, (0, 0, 0, 0)) := by decide +kernel
theorem f_179_0 : rfI 179 0 = some (.sipush (-1000), (0, 0, 0, 0)) := by decide +kernel
theorem f_179_3 : rfI 179 3 = some (.iload_n 0, (0, 0, 0, 0)) := by decide +kernel
theorem f_179_4 : rfI 179 4 = some (.imul, (0, 0, 0, 0)) := by decide +kernel
theorem f_179_5 : rfI 179 5 = some (.iload_n 1, (0, 0, 0, 0)) := by decide +kernel
theorem f_179_6 : rfI 179 6 = some (.isub, (0, 0, 0, 0)) := by decide +kernel
theorem f_179_7 : rfI 179 7 = some (.ireturn, (0, 0, 0, 0)) := by decide +kernel
theorem f_181_0 : rfI 181 0 = some (.iload_n 0, (0, 0, 0, 0)) := by decide +kernel
theorem f_181_1 : rfI 181 1 = some (.iload_n 1, (0, 0, 0, 0)) := by decide +kernel
theorem f_181_2 : rfI 181 2 = some (.if_icmp .lt 12, (0, 0, 0, 0)) := by decide +kernel
theorem f_181_5 : rfI 181 5 = some (.iload_n 0, (0, 0, 0, 0)) := by decide +kernel
theorem f_181_6 : rfI 181 6 = some (.iload_n 2, (0, 0, 0, 0)) := by decide +kernel
theorem f_181_7 : rfI 181 7 = some (.if_icmp .gt 7, (0, 0, 0, 0)) := by decide +kernel
theorem f_181_10 : rfI 181 10 = some (.iconst 1, (0, 0, 0, 0)) := by decide +kernel
theorem f_181_11 : rfI 181 11 = some (.goto 4, (0, 0, 0, 0)) := by decide +kernel
theorem f_181_14 : rfI 181 14 = some (.iconst 0, (0, 0, 0, 0)) := by decide +kernel
theorem f_181_15 : rfI 181 15 = some (.ireturn, (0, 0, 0, 0)) := by decide +kernel
theorem f_182_0 : rfI 182 0 = some (.iload_n 0, (0, 0, 0, 0)) := by decide +kernel
theorem f_182_1 : rfI 182 1 = some (.iload_n 1, (0, 0, 0, 0)) := by decide +kernel
theorem f_182_2 : rfI 182 2 = some (.if_icmp .ge 7, (0, 0, 0, 0)) := by decide +kernel
theorem f_182_5 : rfI 182 5 = some (.iload_n 0, (0, 0, 0, 0)) := by decide +kernel
theorem f_182_6 : rfI 182 6 = some (.goto 4, (0, 0, 0, 0)) := by decide +kernel
theorem f_182_9 : rfI 182 9 = some (.iload_n 1, (0, 0, 0, 0)) := by decide +kernel
theorem f_182_10 : rfI 182 10 = some (.ireturn, (0, 0, 0, 0)) := by decide +kernel
theorem f_183_0 : rfI 183 0 = some (.iload_n 0, (0, 0, 0, 0)) := by decide +kernel
theorem f_183_1 : rfI 183 1 = some (.iload_n 1, (0, 0, 0, 0)) := by decide +kernel
theorem f_183_2 : rfI 183 2 = some (.if_icmp .le 7, (0, 0, 0, 0)) := by decide +kernel
theorem f_183_5 : rfI 183 5 = some (.iload_n 0, (0, 0, 0, 0)) := by decide +kernel
theorem f_183_6 : rfI 183 6 = some (.goto 4, (0, 0, 0, 0)) := by decide +kernel
theorem f_183_9 : rfI 183 9 = some (.iload_n 1, (0, 0, 0, 0)) := by decide +kernel
theorem f_183_10 : rfI 183 10 = some (.ireturn, (0, 0, 0, 0)) := by decide +kernel
theorem f_184_0 : rfI 184 0 = some (.iload_n 0, (0, 0, 0, 0)) := by decide +kernel
theorem f_184_1 : rfI 184 1 = some (.iload_n 1, (0, 0, 0, 0)) := by decide +kernel
theorem f_184_2 : rfI 184 2 = some (.ishr, (0, 0, 0, 0)) := by decide +kernel
theorem f_184_3 : rfI 184 3 = some (.iconst 1, (0, 0, 0, 0)) := by decide +kernel
theorem f_184_4 : rfI 184 4 = some (.iand, (0, 0, 0, 0)) := by decide +kernel
theorem f_184_5 : rfI 184 5 = some (.iconst 1, (0, 0, 0, 0)) := by decide +kernel
theorem f_184_6 : rfI 184 6 = some (.if_icmp .ne 7, (0, 0, 0, 0)) := by decide +kernel
theorem f_184_9 : rfI 184 9 = some (.iconst 1, (0, 0, 0, 0)) := by decide +kernel
theorem f_184_10 : rfI 184 10 = some (.goto 4, (0, 0, 0, 0)) := by decide +kernel
theorem f_184_13 : rfI 184 13 = some (.iconst 0, (0, 0, 0, 0)) := by decide +kernel
theorem f_184_14 : rfI 184 14 = some (.ireturn, (0, 0, 0, 0)) := by decide +kernel
theorem f_185_0 : rfI 185 0 = some (.iconst 0, (0, 0, 0, 0)) := by decide +kernel
theorem f_185_1 : rfI 185 1 = some (.istore_n 1, (0, 0, 0, 0)) := by decide +kernel
theorem f_185_2 : rfI 185 2 = some (.iconst 0, (0, 0, 0, 0)) := by decide +kernel
theorem f_185_3 : rfI 185 3 = some (.istore_n 2, (0, 0, 0, 0)) := by decide +kernel
theorem f_185_4 : rfI 185 4 = some (.iload_n 2, (0, 0, 0, 0)) := by decide +kernel
theorem f_185_5 : rfI 185 5 = some (.bipush 12, (0, 0, 0, 0)) := by decide +kernel
theorem f_185_7 : rfI 185 7 = some (.if_icmp .ge 17, (0, 0, 0, 0)) := by decide +kernel
theorem f_185_10 : rfI 185 10 = some (.iload_n 1, (0, 0, 0, 0)) := by decide +kernel
theorem f_185_11 : rfI 185 11 = some (.iload_n 0, (0, 0, 0, 0)) := by decide +kernel
theorem f_185_12 : rfI 185 12 = some (.iload_n 2, (0, 0, 0, 0)) := by decide +kernel
theorem f_185_13 : rfI 185 13 = some (.ishr, (0, 0, 0, 0)) := by decide +kernel
theorem f_185_14 : rfI 185 14 = some (.iconst 1, (0, 0, 0, 0)) := by decide +kernel
theorem f_185_15 : rfI 185 15 = some (.iand, (0, 0, 0, 0)) := by decide +kernel
theorem f_185_16 : rfI 185 16 = some (.iadd, (0, 0, 0, 0)) := by decide +kernel
theorem f_185_17 : rfI 185 17 = some (.istore_n 1, (0, 0, 0, 0)) := by decide +kernel
theorem f_185_18 : rfI 185 18 = some (.iinc 2 1, (0, 0, 0, 0)) := by decide +kernel
theorem f_185_21 : rfI 185 21 = some (.goto (-17), (0, 0, 0, 0)) := by decide +kernel
theorem f_185_24 : rfI 185 24 = some (.iload_n 1, (0, 0, 0, 0)) := by decide +kernel
theorem f_185_25 : rfI 185 25 = some (.ireturn, (0, 0, 0, 0)) := by decide +kernel
theorem f_186_0 : rfI 186 0 = some (.iconst 0, (0, 0, 0, 0)) := by decide +kernel
theorem f_186_1 : rfI 186 1 = some (.istore_n 2, (0, 0, 0, 0)) := by decide +kernel
theorem f_186_2 : rfI 186 2 = some (.iload_n 2, (0, 0, 0, 0)) := by decide +kernel
theorem f_186_3 : rfI 186 3 = some (.sipush 141, (0, 0, 0, 0)) := by decide +kernel
theorem f_186_6 : rfI 186 6 = some (.if_icmp .ge 15, (0, 0, 0, 0)) := by decide +kernel
theorem f_186_9 : rfI 186 9 = some (.aload_n 1, (0, 0, 0, 0)) := by decide +kernel
theorem f_186_10 : rfI 186 10 = some (.iload_n 2, (0, 0, 0, 0)) := by decide +kernel
theorem f_186_11 : rfI 186 11 = some (.aload_n 0, (0, 0, 0, 0)) := by decide +kernel
theorem f_186_12 : rfI 186 12 = some (.iload_n 2, (0, 0, 0, 0)) := by decide +kernel
theorem f_186_13 : rfI 186 13 = some (.iaload, (0, 0, 0, 0)) := by decide +kernel
theorem f_186_14 : rfI 186 14 = some (.iastore, (0, 0, 0, 0)) := by decide +kernel
theorem f_186_15 : rfI 186 15 = some (.iinc 2 1, (0, 0, 0, 0)) := by decide +kernel
theorem f_186_18 : rfI 186 18 = some (.goto (-16), (0, 0, 0, 0)) := by decide +kernel
theorem f_186_21 : rfI 186 21 = some (.return_, (0, 0, 0, 0)) := by decide +kernel
theorem f_187_0 : rfI 187 0 = some (.iload_n 1, (0, 0, 0, 0)) := by decide +kernel
theorem f_187_1 : rfI 187 1 = some (.iconst 0, (0, 0, 0, 0)) := by decide +kernel
theorem f_187_2 : rfI 187 2 = some (.bipush 7, (0, 0, 0, 0)) := by decide +kernel
theorem f_187_4 : rfI 187 4 = some (.invokestatic 116, (181, 3, 10, 0)) := by decide +kernel
theorem f_187_7 : rfI 187 7 = some (.ifCond .eq 22, (0, 0, 0, 0)) := by decide +kernel
theorem f_187_10 : rfI 187 10 = some (.aload_n 0, (0, 0, 0, 0)) := by decide +kernel
theorem f_187_11 : rfI 187 11 = some (.getfield 7, (12, 0, 2, 0)) := by decide +kernel
theorem f_187_14 : rfI 187 14 = some (.sipush 136, (0, 0, 0, 0)) := by decide +kernel
theorem f_187_17 : rfI 187 17 = some (.iaload, (0, 0, 0, 0)) := by decide +kernel
theorem f_187_18 : rfI 187 18 = some (.iload_n 1, (0, 0, 0, 0)) := by decide +kernel
theorem f_187_19 : rfI 187 19 = some (.invokestatic 120, (184, 2, 10, 0)) := by decide +kernel
theorem f_187_22 : rfI 187 22 = some (.ifCond .eq 7, (0, 0, 0, 0)) := by decide +kernel
theorem f_187_25 : rfI 187 25 = some (.iconst 1, (0, 0, 0, 0)) := by decide +kernel
theorem f_187_26 : rfI 187 26 = some (.goto 4, (0, 0, 0, 0)) := by decide +kernel
theorem f_187_29 : rfI 187 29 = some (.iconst 0, (0, 0, 0, 0)) := by decide +kernel
theorem f_187_30 : rfI 187 30 = some (.ireturn, (0, 0, 0, 0)) := by decide +kernel
theorem f_188_0 : rfI 188 0 = some (.aload_n 0, (0, 0, 0, 0)) := by decide +kernel
theorem f_188_1 : rfI 188 1 = some (.iload_n 1, (0, 0, 0, 0)) := by decide +kernel
theorem f_188_2 : rfI 188 2 = some (.invokevirtual 124, (187, 2, 11, 0)) := by decide +kernel
theorem f_188_5 : rfI 188 5 = some (.ifCond .eq 22, (0, 0, 0, 0)) := by decide +kernel
theorem f_188_8 : rfI 188 8 = some (.aload_n 0, (0, 0, 0, 0)) := by decide +kernel
theorem f_188_9 : rfI 188 9 = some (.getfield 7, (12, 0, 2, 0)) := by decide +kernel
theorem f_188_12 : rfI 188 12 = some (.sipush 137, (0, 0, 0, 0)) := by decide +kernel
theorem f_188_15 : rfI 188 15 = some (.iaload, (0, 0, 0, 0)) := by decide +kernel
theorem f_188_16 : rfI 188 16 = some (.iload_n 1, (0, 0, 0, 0)) := by decide +kernel
theorem f_188_17 : rfI 188 17 = some (.invokestatic 120, (184, 2, 10, 0)) := by decide +kernel
theorem f_188_20 : rfI 188 20 = some (.ifCond .ne 7, (0, 0, 0, 0)) := by decide +kernel
theorem f_188_23 : rfI 188 23 = some (.iconst 1, (0, 0, 0, 0)) := by decide +kernel
theorem f_188_24 : rfI 188 24 = some (.goto 4, (0, 0, 0, 0)) := by decide +kernel
theorem f_188_27 : rfI 188 27 = some (.iconst 0, (0, 0, 0, 0)) := by decide +kernel
theorem f_188_28 : rfI 188 28 = some (.ireturn, (0, 0, 0, 0)) := by decide +kernel
theorem f_189_0 : rfI 189 0 = some (.aload_n 0, (0, 0, 0, 0)) := by decide +kernel
theorem f_189_1 : rfI 189 1 = some (.iload_n 1, (0, 0, 0, 0)) := by decide +kernel
theorem f_189_2 : rfI 189 2 = some (.invokevirtual 128, (188, 2, 11, 0)) := by decide +kernel
theorem f_189_5 : rfI 189 5 = some (.ifCond .eq 20, (0, 0, 0, 0)) := by decide +kernel
theorem f_189_8 : rfI 189 8 = some (.aload_n 0, (0, 0, 0, 0)) := by decide +kernel
theorem f_189_9 : rfI 189 9 = some (.iload_n 2, (0, 0, 0, 0)) := by decide +kernel
theorem f_189_10 : rfI 189 10 = some (.invokevirtual 128, (188, 2, 11, 0)) := by decide +kernel
theorem f_189_13 : rfI 189 13 = some (.ifCond .eq 12, (0, 0, 0, 0)) := by decide +kernel
theorem f_189_16 : rfI 189 16 = some (.iload_n 1, (0, 0, 0, 0)) := by decide +kernel
theorem f_189_17 : rfI 189 17 = some (.iload_n 2, (0, 0, 0, 0)) := by decide +kernel
theorem f_189_18 : rfI 189 18 = some (.if_icmp .eq 7, (0, 0, 0, 0)) := by decide +kernel
theorem f_189_21 : rfI 189 21 = some (.iconst 1, (0, 0, 0, 0)) := by decide +kernel
theorem f_189_22 : rfI 189 22 = some (.goto 4, (0, 0, 0, 0)) := by decide +kernel
theorem f_189_25 : rfI 189 25 = some (.iconst 0, (0, 0, 0, 0)) := by decide +kernel
theorem f_189_26 : rfI 189 26 = some (.ireturn, (0, 0, 0, 0)) := by decide +kernel
theorem f_190_0 : rfI 190 0 = some (.bipush 8, (0, 0, 0, 0)) := by decide +kernel
theorem f_190_2 : rfI 190 2 = some (.bipush 8, (0, 0, 0, 0)) := by decide +kernel
theorem f_190_4 : rfI 190 4 = some (.iload_n 0, (0, 0, 0, 0)) := by decide +kernel
theorem f_190_5 : rfI 190 5 = some (.imul, (0, 0, 0, 0)) := by decide +kernel
theorem f_190_6 : rfI 190 6 = some (.iadd, (0, 0, 0, 0)) := by decide +kernel
theorem f_190_7 : rfI 190 7 = some (.iload_n 1, (0, 0, 0, 0)) := by decide +kernel
theorem f_190_8 : rfI 190 8 = some (.iadd, (0, 0, 0, 0)) := by decide +kernel
theorem f_190_9 : rfI 190 9 = some (.ireturn, (0, 0, 0, 0)) := by decide +kernel
theorem f_191_0 : rfI 191 0 = some (.bipush 72, (0, 0, 0, 0)) := by decide +kernel
theorem f_191_2 : rfI 191 2 = some (.bipush 8, (0, 0, 0, 0)) := by decide +kernel
theorem f_191_4 : rfI 191 4 = some (.iload_n 0, (0, 0, 0, 0)) := by decide +kernel
theorem f_191_5 : rfI 191 5 = some (.imul, (0, 0, 0, 0)) := by decide +kernel
theorem f_191_6 : rfI 191 6 = some (.iadd, (0, 0, 0, 0)) := by decide +kernel
theorem f_191_7 : rfI 191 7 = some (.iload_n 1, (0, 0, 0, 0)) := by decide +kernel
theorem f_191_8 : rfI 191 8 = some (.iadd, (0, 0, 0, 0)) := by decide +kernel
theorem f_191_9 : rfI 191 9 = some (.ireturn, (0, 0, 0, 0)) := by decide +kernel
theorem f_192_0 : rfI 192 0 = some (.iconst 0, (0, 0, 0, 0)) := by decide +kernel
theorem f_192_1 : rfI 192 1 = some (.istore_n 2, (0, 0, 0, 0)) := by decide +kernel
theorem f_192_2 : rfI 192 2 = some (.iconst 0, (0, 0, 0, 0)) := by decide +kernel
theorem f_192_3 : rfI 192 3 = some (.istore_n 3, (0, 0, 0, 0)) := by decide +kernel
theorem f_192_4 : rfI 192 4 = some (.iload_n 3, (0, 0, 0, 0)) := by decide +kernel
theorem f_192_5 : rfI 192 5 = some (.bipush 8, (0, 0, 0, 0)) := by decide +kernel
theorem f_192_7 : rfI 192 7 = some (.if_icmp .ge 22, (0, 0, 0, 0)) := by decide +kernel
theorem f_192_10 : rfI 192 10 = some (.iload_n 2, (0, 0, 0, 0)) := by decide +kernel
theorem f_192_11 : rfI 192 11 = some (.aload_n 0, (0, 0, 0, 0)) := by decide +kernel
theorem f_192_12 : rfI 192 12 = some (.getfield 7, (12, 0, 2, 0)) := by decide +kernel
theorem f_192_15 : rfI 192 15 = some (.iload_n 1, (0, 0, 0, 0)) := by decide +kernel
theorem f_192_16 : rfI 192 16 = some (.iload_n 3, (0, 0, 0, 0)) := by decide +kernel
theorem f_192_17 : rfI 192 17 = some (.invokestatic 131, (190, 2, 10, 0)) := by decide +kernel
theorem f_192_20 : rfI 192 20 = some (.iaload, (0, 0, 0, 0)) := by decide +kernel
theorem f_192_21 : rfI 192 21 = some (.iadd, (0, 0, 0, 0)) := by decide +kernel
theorem f_192_22 : rfI 192 22 = some (.istore_n 2, (0, 0, 0, 0)) := by decide +kernel
theorem f_192_23 : rfI 192 23 = some (.iinc 3 1, (0, 0, 0, 0)) := by decide +kernel
theorem f_192_26 : rfI 192 26 = some (.goto (-22), (0, 0, 0, 0)) := by decide +kernel
theorem f_192_29 : rfI 192 29 = some (.iload_n 2, (0, 0, 0, 0)) := by decide +kernel
theorem f_192_30 : rfI 192 30 = some (.ireturn, (0, 0, 0, 0)) := by decide +kernel
theorem f_193_0 : rfI 193 0 = some (.iconst 0, (0, 0, 0, 0)) := by decide +kernel
theorem f_193_1 : rfI 193 1 = some (.istore_n 2, (0, 0, 0, 0)) := by decide +kernel
theorem f_193_2 : rfI 193 2 = some (.iconst 0, (0, 0, 0, 0)) := by decide +kernel
theorem f_193_3 : rfI 193 3 = some (.istore_n 3, (0, 0, 0, 0)) := by decide +kernel
theorem f_193_4 : rfI 193 4 = some (.iload_n 3, (0, 0, 0, 0)) := by decide +kernel
theorem f_193_5 : rfI 193 5 = some (.bipush 8, (0, 0, 0, 0)) := by decide +kernel
theorem f_193_7 : rfI 193 7 = some (.if_icmp .ge 22, (0, 0, 0, 0)) := by decide +kernel
theorem f_193_10 : rfI 193 10 = some (.iload_n 2, (0, 0, 0, 0)) := by decide +kernel
theorem f_193_11 : rfI 193 11 = some (.aload_n 0, (0, 0, 0, 0)) := by decide +kernel
theorem f_193_12 : rfI 193 12 = some (.getfield 7, (12, 0, 2, 0)) := by decide +kernel
theorem f_193_15 : rfI 193 15 = some (.iload_n 3, (0, 0, 0, 0)) := by decide +kernel
theorem f_193_16 : rfI 193 16 = some (.iload_n 1, (0, 0, 0, 0)) := by decide +kernel
theorem f_193_17 : rfI 193 17 = some (.invokestatic 131, (190, 2, 10, 0)) := by decide +kernel
theorem f_193_20 : rfI 193 20 = some (.iaload, (0, 0, 0, 0)) := by decide +kernel
theorem f_193_21 : rfI 193 21 = some (.iadd, (0, 0, 0, 0)) := by decide +kernel
theorem f_193_22 : rfI 193 22 = some (.istore_n 2, (0, 0, 0, 0)) := by decide +kernel
theorem f_193_23 : rfI 193 23 = some (.iinc 3 1, (0, 0, 0, 0)) := by decide +kernel
theorem f_193_26 : rfI 193 26 = some (.goto (-22), (0, 0, 0, 0)) := by decide +kernel
theorem f_193_29 : rfI 193 29 = some (.iload_n 2, (0, 0, 0, 0)) := by decide +kernel
theorem f_193_30 : rfI 193 30 = some (.ireturn, (0, 0, 0, 0)) := by decide +kernel
theorem f_194_0 : rfI 194 0 = some (.iconst 0, (0, 0, 0, 0)) := by decide +kernel
theorem f_194_1 : rfI 194 1 = some (.istore_n 1, (0, 0, 0, 0)) := by decide +kernel
theorem f_194_2 : rfI 194 2 = some (.iconst 0, (0, 0, 0, 0)) := by decide +kernel
theorem f_194_3 : rfI 194 3 = some (.istore_n 2, (0, 0, 0, 0)) := by decide +kernel
theorem f_194_4 : rfI 194 4 = some (.iload_n 2, (0, 0, 0, 0)) := by decide +kernel
theorem f_194_5 : rfI 194 5 = some (.bipush 8, (0, 0, 0, 0)) := by decide +kernel
theorem f_194_7 : rfI 194 7 = some (.if_icmp .ge 17, (0, 0, 0, 0)) := by decide +kernel
theorem f_194_10 : rfI 194 10 = some (.iload_n 1, (0, 0, 0, 0)) := by decide +kernel
theorem f_194_11 : rfI 194 11 = some (.aload_n 0, (0, 0, 0, 0)) := by decide +kernel
theorem f_194_12 : rfI 194 12 = some (.iload_n 2, (0, 0, 0, 0)) := by decide +kernel
theorem f_194_13 : rfI 194 13 = some (.invokevirtual 135, (192, 2, 11, 0)) := by decide +kernel
theorem f_194_16 : rfI 194 16 = some (.iadd, (0, 0, 0, 0)) := by decide +kernel
theorem f_194_17 : rfI 194 17 = some (.istore_n 1, (0, 0, 0, 0)) := by decide +kernel
theorem f_194_18 : rfI 194 18 = some (.iinc 2 1, (0, 0, 0, 0)) := by decide +kernel
theorem f_194_21 : rfI 194 21 = some (.goto (-17), (0, 0, 0, 0)) := by decide +kernel
theorem f_194_24 : rfI 194 24 = some (.iload_n 1, (0, 0, 0, 0)) := by decide +kernel
theorem f_194_25 : rfI 194 25 = some (.ireturn, (0, 0, 0, 0)) := by decide +kernel
theorem f_195_0 : rfI 195 0 = some (.aload_n 0, (0, 0, 0, 0)) := by decide +kernel
theorem f_195_1 : rfI 195 1 = some (.getfield 7, (12, 0, 2, 0)) := by decide +kernel
theorem f_195_4 : rfI 195 4 = some (.iconst 0, (0, 0, 0, 0)) := by decide +kernel
theorem f_195_5 : rfI 195 5 = some (.iload_n 1, (0, 0, 0, 0)) := by decide +kernel
theorem f_195_6 : rfI 195 6 = some (.iadd, (0, 0, 0, 0)) := by decide +kernel
theorem f_195_7 : rfI 195 7 = some (.iaload, (0, 0, 0, 0)) := by decide +kernel
theorem f_195_8 : rfI 195 8 = some (.aload_n 0, (0, 0, 0, 0)) := by decide +kernel
theorem f_195_9 : rfI 195 9 = some (.iload_n 1, (0, 0, 0, 0)) := by decide +kernel
theorem f_195_10 : rfI 195 10 = some (.invokevirtual 139, (193, 2, 11, 0)) := by decide +kernel
theorem f_195_13 : rfI 195 13 = some (.iadd, (0, 0, 0, 0)) := by decide +kernel
theorem f_195_14 : rfI 195 14 = some (.aload_n 0, (0, 0, 0, 0)) := by decide +kernel
theorem f_195_15 : rfI 195 15 = some (.iload_n 1, (0, 0, 0, 0)) := by decide +kernel
theorem f_195_16 : rfI 195 16 = some (.invokevirtual 135, (192, 2, 11, 0)) := by decide +kernel
theorem f_195_19 : rfI 195 19 = some (.isub, (0, 0, 0, 0)) := by decide +kernel
theorem f_195_20 : rfI 195 20 = some (.ireturn, (0, 0, 0, 0)) := by decide +kernel
theorem f_196_0 : rfI 196 0 = some (.iload_n 1, (0, 0, 0, 0)) := by decide +kernel
theorem f_196_1 : rfI 196 1 = some (.iconst 0, (0, 0, 0, 0)) := by decide +kernel
theorem f_196_2 : rfI 196 2 = some (.bipush 7, (0, 0, 0, 0)) := by decide +kernel
theorem f_196_4 : rfI 196 4 = some (.invokestatic 116, (181, 3, 10, 0)) := by decide +kernel
theorem f_196_7 : rfI 196 7 = some (.ifCond .eq 14, (0, 0, 0, 0)) := by decide +kernel
theorem f_196_10 : rfI 196 10 = some (.iload_n 2, (0, 0, 0, 0)) := by decide +kernel
theorem f_196_11 : rfI 196 11 = some (.iconst 0, (0, 0, 0, 0)) := by decide +kernel
theorem f_196_12 : rfI 196 12 = some (.sipush 9999, (0, 0, 0, 0)) := by decide +kernel
theorem f_196_15 : rfI 196 15 = some (.invokestatic 116, (181, 3, 10, 0)) := by decide +kernel
theorem f_196_18 : rfI 196 18 = some (.ifCond .ne 5, (0, 0, 0, 0)) := by decide +kernel
theorem f_196_21 : rfI 196 21 = some (.iconst 0, (0, 0, 0, 0)) := by decide +kernel
theorem f_196_22 : rfI 196 22 = some (.ireturn, (0, 0, 0, 0)) := by decide +kernel
theorem f_196_23 : rfI 196 23 = some (.aload_n 0, (0, 0, 0, 0)) := by decide +kernel
theorem f_196_24 : rfI 196 24 = some (.getfield 7, (12, 0, 2, 0)) := by decide +kernel
theorem f_196_27 : rfI 196 27 = some (.sipush 136, (0, 0, 0, 0)) := by decide +kernel
theorem f_196_30 : rfI 196 30 = some (.aload_n 0, (0, 0, 0, 0)) := by decide +kernel
theorem f_196_31 : rfI 196 31 = some (.getfield 7, (12, 0, 2, 0)) := by decide +kernel
theorem f_196_34 : rfI 196 34 = some (.sipush 136, (0, 0, 0, 0)) := by decide +kernel
theorem f_196_37 : rfI 196 37 = some (.iaload, (0, 0, 0, 0)) := by decide +kernel
theorem f_196_38 : rfI 196 38 = some (.iconst 1, (0, 0, 0, 0)) := by decide +kernel
theorem f_196_39 : rfI 196 39 = some (.iload_n 1, (0, 0, 0, 0)) := by decide +kernel
theorem f_196_40 : rfI 196 40 = some (.ishl, (0, 0, 0, 0)) := by decide +kernel
theorem f_196_41 : rfI 196 41 = some (.ior, (0, 0, 0, 0)) := by decide +kernel
theorem f_196_42 : rfI 196 42 = some (.iastore, (0, 0, 0, 0)) := by decide +kernel
theorem f_196_43 : rfI 196 43 = some (.aload_n 0, (0, 0, 0, 0)) := by decide +kernel
theorem f_196_44 : rfI 196 44 = some (.getfield 7, (12, 0, 2, 0)) := by decide +kernel
theorem f_196_47 : rfI 196 47 = some (.sipush 137, (0, 0, 0, 0)) := by decide +kernel
theorem f_196_50 : rfI 196 50 = some (.aload_n 0, (0, 0, 0, 0)) := by decide +kernel
theorem f_196_51 : rfI 196 51 = some (.getfield 7, (12, 0, 2, 0)) := by decide +kernel
theorem f_196_54 : rfI 196 54 = some (.sipush 137, (0, 0, 0, 0)) := by decide +kernel
theorem f_196_57 : rfI 196 57 = some (.iaload, (0, 0, 0, 0)) := by decide +kernel
theorem f_196_58 : rfI 196 58 = some (.iconst 1, (0, 0, 0, 0)) := by decide +kernel
theorem f_196_59 : rfI 196 59 = some (.iload_n 1, (0, 0, 0, 0)) := by decide +kernel
theorem f_196_60 : rfI 196 60 = some (.ishl, (0, 0, 0, 0)) := by decide +kernel
theorem f_196_61 : rfI 196 61 = some (.iconst (-1), (0, 0, 0, 0)) := by decide +kernel
theorem f_196_62 : rfI 196 62 = some (.ixor, (0, 0, 0, 0)) := by decide +kernel
theorem f_196_63 : rfI 196 63 = some (.iand, (0, 0, 0, 0)) := by decide +kernel
theorem f_196_64 : rfI 196 64 = some (.iastore, (0, 0, 0, 0)) := by decide +kernel
theorem f_196_65 : rfI 196 65 = some (.aload_n 0, (0, 0, 0, 0)) := by decide +kernel
theorem f_196_66 : rfI 196 66 = some (.getfield 7, (12, 0, 2, 0)) := by decide +kernel
theorem f_196_69 : rfI 196 69 = some (.iconst 0, (0, 0, 0, 0)) := by decide +kernel
theorem f_196_70 : rfI 196 70 = some (.iload_n 1, (0, 0, 0, 0)) := by decide +kernel
theorem f_196_71 : rfI 196 71 = some (.iadd, (0, 0, 0, 0)) := by decide +kernel
theorem f_196_72 : rfI 196 72 = some (.iload_n 2, (0, 0, 0, 0)) := by decide +kernel
theorem f_196_73 : rfI 196 73 = some (.iastore, (0, 0, 0, 0)) := by decide +kernel
theorem f_196_74 : rfI 196 74 = some (.iconst 1, (0, 0, 0, 0)) := by decide +kernel
theorem f_196_75 : rfI 196 75 = some (.ireturn, (0, 0, 0, 0)) := by decide +kernel
theorem f_197_0 : rfI 197 0 = some (.aload_n 0, (0, 0, 0, 0)) := by decide +kernel
theorem f_197_1 : rfI 197 1 = some (.iload_n 1, (0, 0, 0, 0)) := by decide +kernel
theorem f_197_2 : rfI 197 2 = some (.iload_n 2, (0, 0, 0, 0)) := by decide +kernel
theorem f_197_3 : rfI 197 3 = some (.invokevirtual 142, (189, 3, 11, 0)) := by decide +kernel
theorem f_197_6 : rfI 197 6 = some (.ifCond .eq 14, (0, 0, 0, 0)) := by decide +kernel
theorem f_197_9 : rfI 197 9 = some (.iload_n 3, (0, 0, 0, 0)) := by decide +kernel
theorem f_197_10 : rfI 197 10 = some (.iconst 0, (0, 0, 0, 0)) := by decide +kernel
theorem f_197_11 : rfI 197 11 = some (.sipush 999, (0, 0, 0, 0)) := by decide +kernel
theorem f_197_14 : rfI 197 14 = some (.invokestatic 116, (181, 3, 10, 0)) := by decide +kernel
theorem f_197_17 : rfI 197 17 = some (.ifCond .ne 5, (0, 0, 0, 0)) := by decide +kernel
theorem f_197_20 : rfI 197 20 = some (.iconst 0, (0, 0, 0, 0)) := by decide +kernel
theorem f_197_21 : rfI 197 21 = some (.ireturn, (0, 0, 0, 0)) := by decide +kernel
theorem f_197_22 : rfI 197 22 = some (.aload_n 0, (0, 0, 0, 0)) := by decide +kernel
theorem f_197_23 : rfI 197 23 = some (.getfield 7, (12, 0, 2, 0)) := by decide +kernel
theorem f_197_26 : rfI 197 26 = some (.iload_n 1, (0, 0, 0, 0)) := by decide +kernel
theorem f_197_27 : rfI 197 27 = some (.iload_n 2, (0, 0, 0, 0)) := by decide +kernel
theorem f_197_28 : rfI 197 28 = some (.invokestatic 131, (190, 2, 10, 0)) := by decide +kernel
theorem f_197_31 : rfI 197 31 = some (.iload_n 3, (0, 0, 0, 0)) := by decide +kernel
theorem f_197_32 : rfI 197 32 = some (.iastore, (0, 0, 0, 0)) := by decide +kernel
theorem f_197_33 : rfI 197 33 = some (.iconst 1, (0, 0, 0, 0)) := by decide +kernel
theorem f_197_34 : rfI 197 34 = some (.ireturn, (0, 0, 0, 0)) := by decide +kernel
theorem f_198_0 : rfI 198 0 = some (.aload_n 0, (0, 0, 0, 0)) := by decide +kernel
theorem f_198_1 : rfI 198 1 = some (.iload_n 1, (0, 0, 0, 0)) := by decide +kernel
theorem f_198_2 : rfI 198 2 = some (.iload_n 2, (0, 0, 0, 0)) := by decide +kernel
theorem f_198_3 : rfI 198 3 = some (.invokevirtual 142, (189, 3, 11, 0)) := by decide +kernel
theorem f_198_6 : rfI 198 6 = some (.ifCond .eq 13, (0, 0, 0, 0)) := by decide +kernel
theorem f_198_9 : rfI 198 9 = some (.iload_n 3, (0, 0, 0, 0)) := by decide +kernel
theorem f_198_10 : rfI 198 10 = some (.iconst 0, (0, 0, 0, 0)) := by decide +kernel
theorem f_198_11 : rfI 198 11 = some (.bipush 100, (0, 0, 0, 0)) := by decide +kernel
theorem f_198_13 : rfI 198 13 = some (.invokestatic 116, (181, 3, 10, 0)) := by decide +kernel
theorem f_198_16 : rfI 198 16 = some (.ifCond .ne 5, (0, 0, 0, 0)) := by decide +kernel
theorem f_198_19 : rfI 198 19 = some (.iconst 0, (0, 0, 0, 0)) := by decide +kernel
theorem f_198_20 : rfI 198 20 = some (.ireturn, (0, 0, 0, 0)) := by decide +kernel
theorem f_198_21 : rfI 198 21 = some (.iload_n 3, (0, 0, 0, 0)) := by decide +kernel
theorem f_198_22 : rfI 198 22 = some (.istore 4, (0, 0, 0, 0)) := by decide +kernel
theorem f_198_24 : rfI 198 24 = some (.iconst 0, (0, 0, 0, 0)) := by decide +kernel
theorem f_198_25 : rfI 198 25 = some (.istore 5, (0, 0, 0, 0)) := by decide +kernel
theorem f_198_27 : rfI 198 27 = some (.iload 5, (0, 0, 0, 0)) := by decide +kernel
theorem f_198_29 : rfI 198 29 = some (.bipush 8, (0, 0, 0, 0)) := by decide +kernel
theorem f_198_31 : rfI 198 31 = some (.if_icmp .ge 35, (0, 0, 0, 0)) := by decide +kernel
