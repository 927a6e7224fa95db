theorem f_256_18 : rfI 256 18 = some (.iconst 2, (0, 0, 0, 0)) := by decide +kernel
theorem f_256_19 : rfI 256 19 = some (.aload_n 0, (0, 0, 0, 0)) := by decide +kernel
theorem f_256_20 : rfI 256 20 = some (.getfield 7, (12, 0, 2, 0)) := by decide +kernel
theorem f_256_23 : rfI 256 23 = some (.iload_n 2, (0, 0, 0, 0)) := by decide +kernel
theorem f_256_24 : rfI 256 24 = some (.iload_n 3, (0, 0, 0, 0)) := by decide +kernel
theorem f_256_25 : rfI 256 25 = some (.invokestatic 131, (190, 2, 10, 0)) := by decide +kernel
theorem f_256_28 : rfI 256 28 = some (.iaload, (0, 0, 0, 0)) := by decide +kernel
theorem f_256_29 : rfI 256 29 = some (.aload_n 0, (0, 0, 0, 0)) := by decide +kernel
theorem f_256_30 : rfI 256 30 = some (.getfield 7, (12, 0, 2, 0)) := by decide +kernel
theorem f_256_33 : rfI 256 33 = some (.iload_n 3, (0, 0, 0, 0)) := by decide +kernel
theorem f_256_34 : rfI 256 34 = some (.iload_n 2, (0, 0, 0, 0)) := by decide +kernel
theorem f_256_35 : rfI 256 35 = some (.invokestatic 131, (190, 2, 10, 0)) := by decide +kernel
theorem f_256_38 : rfI 256 38 = some (.iaload, (0, 0, 0, 0)) := by decide +kernel
theorem f_256_39 : rfI 256 39 = some (.invokestatic 293, (182, 2, 10, 0)) := by decide +kernel
theorem f_256_42 : rfI 256 42 = some (.imul, (0, 0, 0, 0)) := by decide +kernel
theorem f_256_43 : rfI 256 43 = some (.iadd, (0, 0, 0, 0)) := by decide +kernel
theorem f_256_44 : rfI 256 44 = some (.istore_n 1, (0, 0, 0, 0)) := by decide +kernel
theorem f_256_45 : rfI 256 45 = some (.iinc 3 1, (0, 0, 0, 0)) := by decide +kernel
theorem f_256_48 : rfI 256 48 = some (.goto (-36), (0, 0, 0, 0)) := by decide +kernel
theorem f_256_51 : rfI 256 51 = some (.iinc 2 1, (0, 0, 0, 0)) := by decide +kernel
theorem f_256_54 : rfI 256 54 = some (.goto (-50), (0, 0, 0, 0)) := by decide +kernel
theorem f_256_57 : rfI 256 57 = some (.iload_n 1, (0, 0, 0, 0)) := by decide +kernel
theorem f_256_58 : rfI 256 58 = some (.ireturn, (0, 0, 0, 0)) := by decide +kernel
theorem f_257_0 : rfI 257 0 = some (.iconst 0, (0, 0, 0, 0)) := by decide +kernel
theorem f_257_1 : rfI 257 1 = some (.istore_n 2, (0, 0, 0, 0)) := by decide +kernel
theorem f_257_2 : rfI 257 2 = some (.iload_n 2, (0, 0, 0, 0)) := by decide +kernel
theorem f_257_3 : rfI 257 3 = some (.bipush 8, (0, 0, 0, 0)) := by decide +kernel
theorem f_257_5 : rfI 257 5 = some (.if_icmp .ge 74, (0, 0, 0, 0)) := by decide +kernel
theorem f_257_8 : rfI 257 8 = some (.aload_n 0, (0, 0, 0, 0)) := by decide +kernel
theorem f_257_9 : rfI 257 9 = some (.getfield 83, (12, 38, 2, 0)) := by decide +kernel
theorem f_257_12 : rfI 257 12 = some (.iload_n 2, (0, 0, 0, 0)) := by decide +kernel
theorem f_257_13 : rfI 257 13 = some (.iconst 0, (0, 0, 0, 0)) := by decide +kernel
theorem f_257_14 : rfI 257 14 = some (.iastore, (0, 0, 0, 0)) := by decide +kernel
theorem f_257_15 : rfI 257 15 = some (.iconst 0, (0, 0, 0, 0)) := by decide +kernel
theorem f_257_16 : rfI 257 16 = some (.istore_n 3, (0, 0, 0, 0)) := by decide +kernel
theorem f_257_17 : rfI 257 17 = some (.iload_n 3, (0, 0, 0, 0)) := by decide +kernel
theorem f_257_18 : rfI 257 18 = some (.bipush 8, (0, 0, 0, 0)) := by decide +kernel
theorem f_257_20 : rfI 257 20 = some (.if_icmp .ge 53, (0, 0, 0, 0)) := by decide +kernel
theorem f_257_23 : rfI 257 23 = some (.aload_n 0, (0, 0, 0, 0)) := by decide +kernel
theorem f_257_24 : rfI 257 24 = some (.getfield 80, (12, 37, 2, 0)) := by decide +kernel
theorem f_257_27 : rfI 257 27 = some (.iload_n 3, (0, 0, 0, 0)) := by decide +kernel
theorem f_257_28 : rfI 257 28 = some (.iaload, (0, 0, 0, 0)) := by decide +kernel
theorem f_257_29 : rfI 257 29 = some (.aload_n 0, (0, 0, 0, 0)) := by decide +kernel
theorem f_257_30 : rfI 257 30 = some (.getfield 7, (12, 0, 2, 0)) := by decide +kernel
theorem f_257_33 : rfI 257 33 = some (.iload_n 3, (0, 0, 0, 0)) := by decide +kernel
theorem f_257_34 : rfI 257 34 = some (.iload_n 2, (0, 0, 0, 0)) := by decide +kernel
theorem f_257_35 : rfI 257 35 = some (.invokestatic 131, (190, 2, 10, 0)) := by decide +kernel
theorem f_257_38 : rfI 257 38 = some (.iaload, (0, 0, 0, 0)) := by decide +kernel
theorem f_257_39 : rfI 257 39 = some (.invokestatic 293, (182, 2, 10, 0)) := by decide +kernel
theorem f_257_42 : rfI 257 42 = some (.istore 4, (0, 0, 0, 0)) := by decide +kernel
theorem f_257_44 : rfI 257 44 = some (.iload 4, (0, 0, 0, 0)) := by decide +kernel
theorem f_257_46 : rfI 257 46 = some (.iload_n 1, (0, 0, 0, 0)) := by decide +kernel
theorem f_257_47 : rfI 257 47 = some (.if_icmp .lt 20, (0, 0, 0, 0)) := by decide +kernel
theorem f_257_50 : rfI 257 50 = some (.aload_n 0, (0, 0, 0, 0)) := by decide +kernel
theorem f_257_51 : rfI 257 51 = some (.getfield 83, (12, 38, 2, 0)) := by decide +kernel
theorem f_257_54 : rfI 257 54 = some (.iload_n 2, (0, 0, 0, 0)) := by decide +kernel
theorem f_257_55 : rfI 257 55 = some (.aload_n 0, (0, 0, 0, 0)) := by decide +kernel
theorem f_257_56 : rfI 257 56 = some (.getfield 83, (12, 38, 2, 0)) := by decide +kernel
theorem f_257_59 : rfI 257 59 = some (.iload_n 2, (0, 0, 0, 0)) := by decide +kernel
theorem f_257_60 : rfI 257 60 = some (.iaload, (0, 0, 0, 0)) := by decide +kernel
theorem f_257_61 : rfI 257 61 = some (.iload 4, (0, 0, 0, 0)) := by decide +kernel
theorem f_257_63 : rfI 257 63 = some (.invokestatic 333, (183, 2, 10, 0)) := by decide +kernel
theorem f_257_66 : rfI 257 66 = some (.iastore, (0, 0, 0, 0)) := by decide +kernel
theorem f_257_67 : rfI 257 67 = some (.iinc 3 1, (0, 0, 0, 0)) := by decide +kernel
theorem f_257_70 : rfI 257 70 = some (.goto (-53), (0, 0, 0, 0)) := by decide +kernel
theorem f_257_73 : rfI 257 73 = some (.iinc 2 1, (0, 0, 0, 0)) := by decide +kernel
theorem f_257_76 : rfI 257 76 = some (.goto (-74), (0, 0, 0, 0)) := by decide +kernel
theorem f_257_79 : rfI 257 79 = some (.iconst 0, (0, 0, 0, 0)) := by decide +kernel
theorem f_257_80 : rfI 257 80 = some (.istore_n 2, (0, 0, 0, 0)) := by decide +kernel
theorem f_257_81 : rfI 257 81 = some (.iload_n 2, (0, 0, 0, 0)) := by decide +kernel
theorem f_257_82 : rfI 257 82 = some (.bipush 8, (0, 0, 0, 0)) := by decide +kernel
theorem f_257_84 : rfI 257 84 = some (.if_icmp .ge 21, (0, 0, 0, 0)) := by decide +kernel
theorem f_257_87 : rfI 257 87 = some (.aload_n 0, (0, 0, 0, 0)) := by decide +kernel
theorem f_257_88 : rfI 257 88 = some (.getfield 80, (12, 37, 2, 0)) := by decide +kernel
theorem f_257_91 : rfI 257 91 = some (.iload_n 2, (0, 0, 0, 0)) := by decide +kernel
theorem f_257_92 : rfI 257 92 = some (.aload_n 0, (0, 0, 0, 0)) := by decide +kernel
theorem f_257_93 : rfI 257 93 = some (.getfield 83, (12, 38, 2, 0)) := by decide +kernel
theorem f_257_96 : rfI 257 96 = some (.iload_n 2, (0, 0, 0, 0)) := by decide +kernel
theorem f_257_97 : rfI 257 97 = some (.iaload, (0, 0, 0, 0)) := by decide +kernel
theorem f_257_98 : rfI 257 98 = some (.iastore, (0, 0, 0, 0)) := by decide +kernel
theorem f_257_99 : rfI 257 99 = some (.iinc 2 1, (0, 0, 0, 0)) := by decide +kernel
theorem f_257_102 : rfI 257 102 = some (.goto (-21), (0, 0, 0, 0)) := by decide +kernel
theorem f_257_105 : rfI 257 105 = some (.return_, (0, 0, 0, 0)) := by decide +kernel
theorem f_258_0 : rfI 258 0 = some (.iconst 0, (0, 0, 0, 0)) := by decide +kernel
theorem f_258_1 : rfI 258 1 = some (.istore_n 2, (0, 0, 0, 0)) := by decide +kernel
theorem f_258_2 : rfI 258 2 = some (.iload_n 2, (0, 0, 0, 0)) := by decide +kernel
theorem f_258_3 : rfI 258 3 = some (.bipush 8, (0, 0, 0, 0)) := by decide +kernel
theorem f_258_5 : rfI 258 5 = some (.if_icmp .ge 27, (0, 0, 0, 0)) := by decide +kernel
theorem f_258_8 : rfI 258 8 = some (.aload_n 0, (0, 0, 0, 0)) := by decide +kernel
theorem f_258_9 : rfI 258 9 = some (.getfield 80, (12, 37, 2, 0)) := by decide +kernel
theorem f_258_12 : rfI 258 12 = some (.iload_n 2, (0, 0, 0, 0)) := by decide +kernel
theorem f_258_13 : rfI 258 13 = some (.iload_n 2, (0, 0, 0, 0)) := by decide +kernel
theorem f_258_14 : rfI 258 14 = some (.iload_n 1, (0, 0, 0, 0)) := by decide +kernel
theorem f_258_15 : rfI 258 15 = some (.if_icmp .ne 9, (0, 0, 0, 0)) := by decide +kernel
theorem f_258_18 : rfI 258 18 = some (.ldc_w 345, (4, 4, 4, 100000000)) := by decide +kernel
theorem f_258_21 : rfI 258 21 = some (.goto 4, (0, 0, 0, 0)) := by decide +kernel
theorem f_258_24 : rfI 258 24 = some (.iconst 0, (0, 0, 0, 0)) := by decide +kernel
theorem f_258_25 : rfI 258 25 = some (.iastore, (0, 0, 0, 0)) := by decide +kernel
theorem f_258_26 : rfI 258 26 = some (.iinc 2 1, (0, 0, 0, 0)) := by decide +kernel
theorem f_258_29 : rfI 258 29 = some (.goto (-27), (0, 0, 0, 0)) := by decide +kernel
theorem f_258_32 : rfI 258 32 = some (.return_, (0, 0, 0, 0)) := by decide +kernel
theorem f_259_0 : rfI 259 0 = some (.aload_n 0, (0, 0, 0, 0)) := by decide +kernel
theorem f_259_1 : rfI 259 1 = some (.iload_n 1, (0, 0, 0, 0)) := by decide +kernel
theorem f_259_2 : rfI 259 2 = some (.invokevirtual 124, (187, 2, 11, 0)) := by decide +kernel
theorem f_259_5 : rfI 259 5 = some (.ifCond .eq 12, (0, 0, 0, 0)) := by decide +kernel
theorem f_259_8 : rfI 259 8 = some (.iload_n 2, (0, 0, 0, 0)) := by decide +kernel
theorem f_259_9 : rfI 259 9 = some (.iconst 0, (0, 0, 0, 0)) := by decide +kernel
theorem f_259_10 : rfI 259 10 = some (.iconst 1, (0, 0, 0, 0)) := by decide +kernel
theorem f_259_11 : rfI 259 11 = some (.invokestatic 116, (181, 3, 10, 0)) := by decide +kernel
theorem f_259_14 : rfI 259 14 = some (.ifCond .ne 5, (0, 0, 0, 0)) := by decide +kernel
theorem f_259_17 : rfI 259 17 = some (.iconst (-1), (0, 0, 0, 0)) := by decide +kernel
theorem f_259_18 : rfI 259 18 = some (.ireturn, (0, 0, 0, 0)) := by decide +kernel
theorem f_259_19 : rfI 259 19 = some (.aload_n 0, (0, 0, 0, 0)) := by decide +kernel
theorem f_259_20 : rfI 259 20 = some (.iload_n 1, (0, 0, 0, 0)) := by decide +kernel
theorem f_259_21 : rfI 259 21 = some (.invokevirtual 346, (258, 2, 11, 0)) := by decide +kernel
theorem f_259_24 : rfI 259 24 = some (.iconst 1, (0, 0, 0, 0)) := by decide +kernel
theorem f_259_25 : rfI 259 25 = some (.istore_n 3, (0, 0, 0, 0)) := by decide +kernel
theorem f_259_26 : rfI 259 26 = some (.iload_n 3, (0, 0, 0, 0)) := by decide +kernel
theorem f_259_27 : rfI 259 27 = some (.bipush 8, (0, 0, 0, 0)) := by decide +kernel
theorem f_259_29 : rfI 259 29 = some (.if_icmp .gt 38, (0, 0, 0, 0)) := by decide +kernel
theorem f_259_32 : rfI 259 32 = some (.aload_n 0, (0, 0, 0, 0)) := by decide +kernel
theorem f_259_33 : rfI 259 33 = some (.iconst 1, (0, 0, 0, 0)) := by decide +kernel
theorem f_259_34 : rfI 259 34 = some (.invokevirtual 349, (257, 2, 11, 0)) := by decide +kernel
theorem f_259_37 : rfI 259 37 = some (.aload_n 0, (0, 0, 0, 0)) := by decide +kernel
theorem f_259_38 : rfI 259 38 = some (.getfield 80, (12, 37, 2, 0)) := by decide +kernel
theorem f_259_41 : rfI 259 41 = some (.iload_n 1, (0, 0, 0, 0)) := by decide +kernel
theorem f_259_42 : rfI 259 42 = some (.iaload, (0, 0, 0, 0)) := by decide +kernel
theorem f_259_43 : rfI 259 43 = some (.ifCond .le 18, (0, 0, 0, 0)) := by decide +kernel
theorem f_259_46 : rfI 259 46 = some (.iload_n 2, (0, 0, 0, 0)) := by decide +kernel
theorem f_259_47 : rfI 259 47 = some (.ifCond .ne 7, (0, 0, 0, 0)) := by decide +kernel
theorem f_259_50 : rfI 259 50 = some (.iload_n 3, (0, 0, 0, 0)) := by decide +kernel
theorem f_259_51 : rfI 259 51 = some (.goto 9, (0, 0, 0, 0)) := by decide +kernel
theorem f_259_54 : rfI 259 54 = some (.aload_n 0, (0, 0, 0, 0)) := by decide +kernel
theorem f_259_55 : rfI 259 55 = some (.getfield 80, (12, 37, 2, 0)) := by decide +kernel
theorem f_259_58 : rfI 259 58 = some (.iload_n 1, (0, 0, 0, 0)) := by decide +kernel
theorem f_259_59 : rfI 259 59 = some (.iaload, (0, 0, 0, 0)) := by decide +kernel
theorem f_259_60 : rfI 259 60 = some (.ireturn, (0, 0, 0, 0)) := by decide +kernel
theorem f_259_61 : rfI 259 61 = some (.iinc 3 1, (0, 0, 0, 0)) := by decide +kernel
theorem f_259_64 : rfI 259 64 = some (.goto (-38), (0, 0, 0, 0)) := by decide +kernel
theorem f_259_67 : rfI 259 67 = some (.bipush (-2), (0, 0, 0, 0)) := by decide +kernel
theorem f_259_69 : rfI 259 69 = some (.ireturn, (0, 0, 0, 0)) := by decide +kernel
theorem f_260_0 : rfI 260 0 = some (.aload_n 0, (0, 0, 0, 0)) := by decide +kernel
theorem f_260_1 : rfI 260 1 = some (.iload_n 1, (0, 0, 0, 0)) := by decide +kernel
theorem f_260_2 : rfI 260 2 = some (.invokevirtual 124, (187, 2, 11, 0)) := by decide +kernel
theorem f_260_5 : rfI 260 5 = some (.ifCond .eq 25, (0, 0, 0, 0)) := by decide +kernel
theorem f_260_8 : rfI 260 8 = some (.aload_n 0, (0, 0, 0, 0)) := by decide +kernel
theorem f_260_9 : rfI 260 9 = some (.iload_n 2, (0, 0, 0, 0)) := by decide +kernel
theorem f_260_10 : rfI 260 10 = some (.invokevirtual 124, (187, 2, 11, 0)) := by decide +kernel
theorem f_260_13 : rfI 260 13 = some (.ifCond .eq 17, (0, 0, 0, 0)) := by decide +kernel
theorem f_260_16 : rfI 260 16 = some (.iload_n 1, (0, 0, 0, 0)) := by decide +kernel
theorem f_260_17 : rfI 260 17 = some (.iload_n 2, (0, 0, 0, 0)) := by decide +kernel
theorem f_260_18 : rfI 260 18 = some (.if_icmp .eq 12, (0, 0, 0, 0)) := by decide +kernel
theorem f_260_21 : rfI 260 21 = some (.iload_n 3, (0, 0, 0, 0)) := by decide +kernel
theorem f_260_22 : rfI 260 22 = some (.iconst 0, (0, 0, 0, 0)) := by decide +kernel
theorem f_260_23 : rfI 260 23 = some (.iconst 1, (0, 0, 0, 0)) := by decide +kernel
theorem f_260_24 : rfI 260 24 = some (.invokestatic 116, (181, 3, 10, 0)) := by decide +kernel
theorem f_260_27 : rfI 260 27 = some (.ifCond .ne 5, (0, 0, 0, 0)) := by decide +kernel
theorem f_260_30 : rfI 260 30 = some (.iconst (-1), (0, 0, 0, 0)) := by decide +kernel
theorem f_260_31 : rfI 260 31 = some (.ireturn, (0, 0, 0, 0)) := by decide +kernel
theorem f_260_32 : rfI 260 32 = some (.iconst 0, (0, 0, 0, 0)) := by decide +kernel
theorem f_260_33 : rfI 260 33 = some (.istore 4, (0, 0, 0, 0)) := by decide +kernel
theorem f_260_35 : rfI 260 35 = some (.iconst 0, (0, 0, 0, 0)) := by decide +kernel
theorem f_260_36 : rfI 260 36 = some (.istore 5, (0, 0, 0, 0)) := by decide +kernel
theorem f_260_38 : rfI 260 38 = some (.aload_n 0, (0, 0, 0, 0)) := by decide +kernel
theorem f_260_39 : rfI 260 39 = some (.iload_n 1, (0, 0, 0, 0)) := by decide +kernel
theorem f_260_40 : rfI 260 40 = some (.invokevirtual 346, (258, 2, 11, 0)) := by decide +kernel
theorem f_260_43 : rfI 260 43 = some (.iconst 1, (0, 0, 0, 0)) := by decide +kernel
theorem f_260_44 : rfI 260 44 = some (.istore 6, (0, 0, 0, 0)) := by decide +kernel
theorem f_260_46 : rfI 260 46 = some (.iload 6, (0, 0, 0, 0)) := by decide +kernel
theorem f_260_48 : rfI 260 48 = some (.bipush 8, (0, 0, 0, 0)) := by decide +kernel
theorem f_260_50 : rfI 260 50 = some (.if_icmp .ge 40, (0, 0, 0, 0)) := by decide +kernel
theorem f_260_53 : rfI 260 53 = some (.aload_n 0, (0, 0, 0, 0)) := by decide +kernel
theorem f_260_54 : rfI 260 54 = some (.iconst 1, (0, 0, 0, 0)) := by decide +kernel
theorem f_260_55 : rfI 260 55 = some (.invokevirtual 349, (257, 2, 11, 0)) := by decide +kernel
theorem f_260_58 : rfI 260 58 = some (.aload_n 0, (0, 0, 0, 0)) := by decide +kernel
theorem f_260_59 : rfI 260 59 = some (.getfield 80, (12, 37, 2, 0)) := by decide +kernel
theorem f_260_62 : rfI 260 62 = some (.iload_n 2, (0, 0, 0, 0)) := by decide +kernel
theorem f_260_63 : rfI 260 63 = some (.iaload, (0, 0, 0, 0)) := by decide +kernel
theorem f_260_64 : rfI 260 64 = some (.iload 4, (0, 0, 0, 0)) := by decide +kernel
theorem f_260_66 : rfI 260 66 = some (.if_icmp .gt 6, (0, 0, 0, 0)) := by decide +kernel
theorem f_260_69 : rfI 260 69 = some (.goto 15, (0, 0, 0, 0)) := by decide +kernel
theorem f_260_72 : rfI 260 72 = some (.aload_n 0, (0, 0, 0, 0)) := by decide +kernel
theorem f_260_73 : rfI 260 73 = some (.getfield 80, (12, 37, 2, 0)) := by decide +kernel
theorem f_260_76 : rfI 260 76 = some (.iload_n 2, (0, 0, 0, 0)) := by decide +kernel
theorem f_260_77 : rfI 260 77 = some (.iaload, (0, 0, 0, 0)) := by decide +kernel
theorem f_260_78 : rfI 260 78 = some (.istore 4, (0, 0, 0, 0)) := by decide +kernel
theorem f_260_80 : rfI 260 80 = some (.iload 6, (0, 0, 0, 0)) := by decide +kernel
theorem f_260_82 : rfI 260 82 = some (.istore 5, (0, 0, 0, 0)) := by decide +kernel
theorem f_260_84 : rfI 260 84 = some (.iinc 6 1, (0, 0, 0, 0)) := by decide +kernel
theorem f_260_87 : rfI 260 87 = some (.goto (-41), (0, 0, 0, 0)) := by decide +kernel
theorem f_260_90 : rfI 260 90 = some (.iload 4, (0, 0, 0, 0)) := by decide +kernel
theorem f_260_92 : rfI 260 92 = some (.ifCond .ne 8, (0, 0, 0, 0)) := by decide +kernel
theorem f_260_95 : rfI 260 95 = some (.bipush (-2), (0, 0, 0, 0)) := by decide +kernel
theorem f_260_97 : rfI 260 97 = some (.goto 14, (0, 0, 0, 0)) := by decide +kernel
theorem f_260_100 : rfI 260 100 = some (.iload_n 3, (0, 0, 0, 0)) := by decide +kernel
theorem f_260_101 : rfI 260 101 = some (.ifCond .ne 8, (0, 0, 0, 0)) := by decide +kernel
theorem f_260_104 : rfI 260 104 = some (.iload 4, (0, 0, 0, 0)) := by decide +kernel
theorem f_260_106 : rfI 260 106 = some (.goto 5, (0, 0, 0, 0)) := by decide +kernel
theorem f_260_109 : rfI 260 109 = some (.iload 5, (0, 0, 0, 0)) := by decide +kernel
theorem f_260_111 : rfI 260 111 = some (.ireturn, (0, 0, 0, 0)) := by decide +kernel
theorem f_261_0 : rfI 261 0 = some (.iload_n 1, (0, 0, 0, 0)) := by decide +kernel
theorem f_261_1 : rfI 261 1 = some (.iconst 1, (0, 0, 0, 0)) := by decide +kernel
theorem f_261_2 : rfI 261 2 = some (.sipush 255, (0, 0, 0, 0)) := by decide +kernel
theorem f_261_5 : rfI 261 5 = some (.invokestatic 116, (181, 3, 10, 0)) := by decide +kernel
theorem f_261_8 : rfI 261 8 = some (.ifCond .eq 25, (0, 0, 0, 0)) := by decide +kernel
theorem f_261_11 : rfI 261 11 = some (.iload_n 1, (0, 0, 0, 0)) := by decide +kernel
theorem f_261_12 : rfI 261 12 = some (.invokestatic 342, (185, 1, 10, 0)) := by decide +kernel
theorem f_261_15 : rfI 261 15 = some (.iconst 2, (0, 0, 0, 0)) := by decide +kernel
theorem f_261_16 : rfI 261 16 = some (.bipush 8, (0, 0, 0, 0)) := by decide +kernel
theorem f_261_18 : rfI 261 18 = some (.invokestatic 116, (181, 3, 10, 0)) := by decide +kernel
theorem f_261_21 : rfI 261 21 = some (.ifCond .eq 12, (0, 0, 0, 0)) := by decide +kernel
theorem f_261_24 : rfI 261 24 = some (.iload_n 2, (0, 0, 0, 0)) := by decide +kernel
theorem f_261_25 : rfI 261 25 = some (.iconst 0, (0, 0, 0, 0)) := by decide +kernel
theorem f_261_26 : rfI 261 26 = some (.iconst 1, (0, 0, 0, 0)) := by decide +kernel
theorem f_261_27 : rfI 261 27 = some (.invokestatic 116, (181, 3, 10, 0)) := by decide +kernel
theorem f_261_30 : rfI 261 30 = some (.ifCond .ne 5, (0, 0, 0, 0)) := by decide +kernel
theorem f_261_33 : rfI 261 33 = some (.iconst (-1), (0, 0, 0, 0)) := by decide +kernel
theorem f_261_34 : rfI 261 34 = some (.ireturn, (0, 0, 0, 0)) := by decide +kernel
theorem f_261_35 : rfI 261 35 = some (.iconst 0, (0, 0, 0, 0)) := by decide +kernel
theorem f_261_36 : rfI 261 36 = some (.istore_n 3, (0, 0, 0, 0)) := by decide +kernel
theorem f_261_37 : rfI 261 37 = some (.iload_n 3, (0, 0, 0, 0)) := by decide +kernel
theorem f_261_38 : rfI 261 38 = some (.bipush 8, (0, 0, 0, 0)) := by decide +kernel
theorem f_261_40 : rfI 261 40 = some (.if_icmp .ge 27, (0, 0, 0, 0)) := by decide +kernel
theorem f_261_43 : rfI 261 43 = some (.iload_n 1, (0, 0, 0, 0)) := by decide +kernel
theorem f_261_44 : rfI 261 44 = some (.iload_n 3, (0, 0, 0, 0)) := by decide +kernel
theorem f_261_45 : rfI 261 45 = some (.invokestatic 120, (184, 2, 10, 0)) := by decide +kernel
theorem f_261_48 : rfI 261 48 = some (.ifCond .eq 13, (0, 0, 0, 0)) := by decide +kernel
theorem f_261_51 : rfI 261 51 = some (.aload_n 0, (0, 0, 0, 0)) := by decide +kernel
theorem f_261_52 : rfI 261 52 = some (.iload_n 3, (0, 0, 0, 0)) := by decide +kernel
theorem f_261_53 : rfI 261 53 = some (.invokevirtual 128, (188, 2, 11, 0)) := by decide +kernel
theorem f_261_56 : rfI 261 56 = some (.ifCond .ne 5, (0, 0, 0, 0)) := by decide +kernel
theorem f_261_59 : rfI 261 59 = some (.iconst (-1), (0, 0, 0, 0)) := by decide +kernel
theorem f_261_60 : rfI 261 60 = some (.ireturn, (0, 0, 0, 0)) := by decide +kernel
theorem f_261_61 : rfI 261 61 = some (.iinc 3 1, (0, 0, 0, 0)) := by decide +kernel
theorem f_261_64 : rfI 261 64 = some (.goto (-27), (0, 0, 0, 0)) := by decide +kernel
theorem f_261_67 : rfI 261 67 = some (.aload_n 0, (0, 0, 0, 0)) := by decide +kernel
theorem f_261_68 : rfI 261 68 = some (.getfield 86, (12, 39, 2, 0)) := by decide +kernel
theorem f_261_71 : rfI 261 71 = some (.iconst 0, (0, 0, 0, 0)) := by decide +kernel
theorem f_261_72 : rfI 261 72 = some (.iconst 0, (0, 0, 0, 0)) := by decide +kernel
theorem f_261_73 : rfI 261 73 = some (.iastore, (0, 0, 0, 0)) := by decide +kernel
theorem f_261_74 : rfI 261 74 = some (.iconst 1, (0, 0, 0, 0)) := by decide +kernel
theorem f_261_75 : rfI 261 75 = some (.istore_n 3, (0, 0, 0, 0)) := by decide +kernel
theorem f_261_76 : rfI 261 76 = some (.iload_n 3, (0, 0, 0, 0)) := by decide +kernel
theorem f_261_77 : rfI 261 77 = some (.sipush 256, (0, 0, 0, 0)) := by decide +kernel
theorem f_261_80 : rfI 261 80 = some (.if_icmp .ge 159, (0, 0, 0, 0)) := by decide +kernel
theorem f_261_83 : rfI 261 83 = some (.iconst 0, (0, 0, 0, 0)) := by decide +kernel
theorem f_261_84 : rfI 261 84 = some (.istore 4, (0, 0, 0, 0)) := by decide +kernel
theorem f_261_86 : rfI 261 86 = some (.iload_n 3, (0, 0, 0, 0)) := by decide +kernel
theorem f_261_87 : rfI 261 87 = some (.iload 4, (0, 0, 0, 0)) := by decide +kernel
theorem f_261_89 : rfI 261 89 = some (.invokestatic 120, (184, 2, 10, 0)) := by decide +kernel
theorem f_261_92 : rfI 261 92 = some (.ifCond .ne 12, (0, 0, 0, 0)) := by decide +kernel
theorem f_261_95 : rfI 261 95 = some (.iload 4, (0, 0, 0, 0)) := by decide +kernel
theorem f_261_97 : rfI 261 97 = some (.iconst 1, (0, 0, 0, 0)) := by decide +kernel
theorem f_261_98 : rfI 261 98 = some (.iadd, (0, 0, 0, 0)) := by decide +kernel
theorem f_261_99 : rfI 261 99 = some (.istore 4, (0, 0, 0, 0)) := by decide +kernel
theorem f_261_101 : rfI 261 101 = some (.goto (-15), (0, 0, 0, 0)) := by decide +kernel
theorem f_261_104 : rfI 261 104 = some (.iload_n 3, (0, 0, 0, 0)) := by decide +kernel
theorem f_261_105 : rfI 261 105 = some (.iconst 1, (0, 0, 0, 0)) := by decide +kernel
theorem f_261_106 : rfI 261 106 = some (.iload 4, (0, 0, 0, 0)) := by decide +kernel
theorem f_261_108 : rfI 261 108 = some (.ishl, (0, 0, 0, 0)) := by decide +kernel
theorem f_261_109 : rfI 261 109 = some (.iconst (-1), (0, 0, 0, 0)) := by decide +kernel
theorem f_261_110 : rfI 261 110 = some (.ixor, (0, 0, 0, 0)) := by decide +kernel
theorem f_261_111 : rfI 261 111 = some (.iand, (0, 0, 0, 0)) := by decide +kernel
theorem f_261_112 : rfI 261 112 = some (.istore 5, (0, 0, 0, 0)) := by decide +kernel
theorem f_261_114 : rfI 261 114 = some (.aload_n 0, (0, 0, 0, 0)) := by decide +kernel
theorem f_261_115 : rfI 261 115 = some (.getfield 86, (12, 39, 2, 0)) := by decide +kernel
theorem f_261_118 : rfI 261 118 = some (.iload_n 3, (0, 0, 0, 0)) := by decide +kernel
theorem f_261_119 : rfI 261 119 = some (.aload_n 0, (0, 0, 0, 0)) := by decide +kernel
theorem f_261_120 : rfI 261 120 = some (.getfield 86, (12, 39, 2, 0)) := by decide +kernel
theorem f_261_123 : rfI 261 123 = some (.iload 5, (0, 0, 0, 0)) := by decide +kernel
theorem f_261_125 : rfI 261 125 = some (.iaload, (0, 0, 0, 0)) := by decide +kernel
theorem f_261_126 : rfI 261 126 = some (.aload_n 0, (0, 0, 0, 0)) := by decide +kernel
theorem f_261_127 : rfI 261 127 = some (.iload 4, (0, 0, 0, 0)) := by decide +kernel
theorem f_261_129 : rfI 261 129 = some (.invokevirtual 320, (195, 2, 11, 0)) := by decide +kernel
theorem f_261_132 : rfI 261 132 = some (.ifCond .ge 8, (0, 0, 0, 0)) := by decide +kernel
theorem f_261_135 : rfI 261 135 = some (.bipush 10, (0, 0, 0, 0)) := by decide +kernel
theorem f_261_137 : rfI 261 137 = some (.goto 4, (0, 0, 0, 0)) := by decide +kernel
theorem f_261_140 : rfI 261 140 = some (.iconst 0, (0, 0, 0, 0)) := by decide +kernel
theorem f_261_141 : rfI 261 141 = some (.iadd, (0, 0, 0, 0)) := by decide +kernel
theorem f_261_142 : rfI 261 142 = some (.iastore, (0, 0, 0, 0)) := by decide +kernel
theorem f_261_143 : rfI 261 143 = some (.iload 4, (0, 0, 0, 0)) := by decide +kernel
theorem f_261_145 : rfI 261 145 = some (.iconst 1, (0, 0, 0, 0)) := by decide +kernel
theorem f_261_146 : rfI 261 146 = some (.iadd, (0, 0, 0, 0)) := by decide +kernel
theorem f_261_147 : rfI 261 147 = some (.istore 6, (0, 0, 0, 0)) := by decide +kernel
theorem f_261_149 : rfI 261 149 = some (.iload 6, (0, 0, 0, 0)) := by decide +kernel
theorem f_261_151 : rfI 261 151 = some (.bipush 8, (0, 0, 0, 0)) := by decide +kernel
theorem f_261_153 : rfI 261 153 = some (.if_icmp .ge 80, (0, 0, 0, 0)) := by decide +kernel
theorem f_261_156 : rfI 261 156 = some (.iload 5, (0, 0, 0, 0)) := by decide +kernel
theorem f_261_158 : rfI 261 158 = some (.iload 6, (0, 0, 0, 0)) := by decide +kernel
theorem f_261_160 : rfI 261 160 = some (.invokestatic 120, (184, 2, 10, 0)) := by decide +kernel
theorem f_261_163 : rfI 261 163 = some (.ifCond .ne 6, (0, 0, 0, 0)) := by decide +kernel
theorem f_261_166 : rfI 261 166 = some (.goto 61, (0, 0, 0, 0)) := by decide +kernel
theorem f_261_169 : rfI 261 169 = some (.aload_n 0, (0, 0, 0, 0)) := by decide +kernel
theorem f_261_170 : rfI 261 170 = some (.getfield 86, (12, 39, 2, 0)) := by decide +kernel
theorem f_261_173 : rfI 261 173 = some (.iload 5, (0, 0, 0, 0)) := by decide +kernel
theorem f_261_175 : rfI 261 175 = some (.iconst 1, (0, 0, 0, 0)) := by decide +kernel
theorem f_261_176 : rfI 261 176 = some (.iload 6, (0, 0, 0, 0)) := by decide +kernel
theorem f_261_178 : rfI 261 178 = some (.ishl, (0, 0, 0, 0)) := by decide +kernel
theorem f_261_179 : rfI 261 179 = some (.iconst (-1), (0, 0, 0, 0)) := by decide +kernel
theorem f_261_180 : rfI 261 180 = some (.ixor, (0, 0, 0, 0)) := by decide +kernel
theorem f_261_181 : rfI 261 181 = some (.iand, (0, 0, 0, 0)) := by decide +kernel
theorem f_261_182 : rfI 261 182 = some (.iaload, (0, 0, 0, 0)) := by decide +kernel
theorem f_261_183 : rfI 261 183 = some (.iconst 1, (0, 0, 0, 0)) := by decide +kernel
theorem f_261_184 : rfI 261 184 = some (.iadd, (0, 0, 0, 0)) := by decide +kernel
theorem f_261_185 : rfI 261 185 = some (.aload_n 0, (0, 0, 0, 0)) := by decide +kernel
theorem f_261_186 : rfI 261 186 = some (.iload 4, (0, 0, 0, 0)) := by decide +kernel
theorem f_261_188 : rfI 261 188 = some (.invokevirtual 320, (195, 2, 11, 0)) := by decide +kernel
theorem f_261_191 : rfI 261 191 = some (.aload_n 0, (0, 0, 0, 0)) := by decide +kernel
theorem f_261_192 : rfI 261 192 = some (.iload 6, (0, 0, 0, 0)) := by decide +kernel
theorem f_261_194 : rfI 261 194 = some (.invokevirtual 320, (195, 2, 11, 0)) := by decide +kernel
theorem f_261_197 : rfI 261 197 = some (.iadd, (0, 0, 0, 0)) := by decide +kernel
theorem f_261_198 : rfI 261 198 = some (.ifCond .ge 8, (0, 0, 0, 0)) := by decide +kernel
theorem f_261_201 : rfI 261 201 = some (.bipush 10, (0, 0, 0, 0)) := by decide +kernel
theorem f_261_203 : rfI 261 203 = some (.goto 4, (0, 0, 0, 0)) := by decide +kernel
theorem f_261_206 : rfI 261 206 = some (.iconst 0, (0, 0, 0, 0)) := by decide +kernel
theorem f_261_207 : rfI 261 207 = some (.iadd, (0, 0, 0, 0)) := by decide +kernel
theorem f_261_208 : rfI 261 208 = some (.istore 7, (0, 0, 0, 0)) := by decide +kernel
theorem f_261_210 : rfI 261 210 = some (.aload_n 0, (0, 0, 0, 0)) := by decide +kernel
theorem f_261_211 : rfI 261 211 = some (.getfield 86, (12, 39, 2, 0)) := by decide +kernel
theorem f_261_214 : rfI 261 214 = some (.iload_n 3, (0, 0, 0, 0)) := by decide +kernel
theorem f_261_215 : rfI 261 215 = some (.aload_n 0, (0, 0, 0, 0)) := by decide +kernel
theorem f_261_216 : rfI 261 216 = some (.getfield 86, (12, 39, 2, 0)) := by decide +kernel
theorem f_261_219 : rfI 261 219 = some (.iload_n 3, (0, 0, 0, 0)) := by decide +kernel
theorem f_261_220 : rfI 261 220 = some (.iaload, (0, 0, 0, 0)) := by decide +kernel
theorem f_261_221 : rfI 261 221 = some (.iload 7, (0, 0, 0, 0)) := by decide +kernel
theorem f_261_223 : rfI 261 223 = some (.invokestatic 293, (182, 2, 10, 0)) := by decide +kernel
theorem f_261_226 : rfI 261 226 = some (.iastore, (0, 0, 0, 0)) := by decide +kernel
theorem f_261_227 : rfI 261 227 = some (.iinc 6 1, (0, 0, 0, 0)) := by decide +kernel
theorem f_261_230 : rfI 261 230 = some (.goto (-81), (0, 0, 0, 0)) := by decide +kernel
theorem f_261_233 : rfI 261 233 = some (.iinc 3 1, (0, 0, 0, 0)) := by decide +kernel
theorem f_261_236 : rfI 261 236 = some (.goto (-160), (0, 0, 0, 0)) := by decide +kernel
theorem f_261_239 : rfI 261 239 = some (.iload_n 2, (0, 0, 0, 0)) := by decide +kernel
theorem f_261_240 : rfI 261 240 = some (.ifCond .ne 15, (0, 0, 0, 0)) := by decide +kernel
theorem f_261_243 : rfI 261 243 = some (.aload_n 0, (0, 0, 0, 0)) := by decide +kernel
theorem f_261_244 : rfI 261 244 = some (.getfield 86, (12, 39, 2, 0)) := by decide +kernel
theorem f_261_247 : rfI 261 247 = some (.iload_n 1, (0, 0, 0, 0)) := by decide +kernel
theorem f_261_248 : rfI 261 248 = some (.iaload, (0, 0, 0, 0)) := by decide +kernel
theorem f_261_249 : rfI 261 249 = some (.bipush 10, (0, 0, 0, 0)) := by decide +kernel
theorem f_261_251 : rfI 261 251 = some (.idiv, (0, 0, 0, 0)) := by decide +kernel
theorem f_261_252 : rfI 261 252 = some (.goto 12, (0, 0, 0, 0)) := by decide +kernel
theorem f_261_255 : rfI 261 255 = some (.aload_n 0, (0, 0, 0, 0)) := by decide +kernel
theorem f_261_256 : rfI 261 256 = some (.getfield 86, (12, 39, 2, 0)) := by decide +kernel
theorem f_261_259 : rfI 261 259 = some (.iload_n 1, (0, 0, 0, 0)) := by decide +kernel
theorem f_261_260 : rfI 261 260 = some (.iaload, (0, 0, 0, 0)) := by decide +kernel
theorem f_261_261 : rfI 261 261 = some (.bipush 10, (0, 0, 0, 0)) := by decide +kernel
theorem f_261_263 : rfI 261 263 = some (.irem, (0, 0, 0, 0)) := by decide +kernel
theorem f_261_264 : rfI 261 264 = some (.ireturn, (0, 0, 0, 0)) := by decide +kernel
theorem f_262_0 : rfI 262 0 = some (.iconst 1, (0, 0, 0, 0)) := by decide +kernel
theorem f_262_1 : rfI 262 1 = some (.istore_n 1, (0, 0, 0, 0)) := by decide +kernel
theorem f_262_2 : rfI 262 2 = some (.iload_n 1, (0, 0, 0, 0)) := by decide +kernel
theorem f_262_3 : rfI 262 3 = some (.sipush 256, (0, 0, 0, 0)) := by decide +kernel
theorem f_262_6 : rfI 262 6 = some (.if_icmp .ge 122, (0, 0, 0, 0)) := by decide +kernel
theorem f_262_9 : rfI 262 9 = some (.aload_n 0, (0, 0, 0, 0)) := by decide +kernel
theorem f_262_10 : rfI 262 10 = some (.getfield 89, (12, 40, 2, 0)) := by decide +kernel
theorem f_262_13 : rfI 262 13 = some (.iload_n 1, (0, 0, 0, 0)) := by decide +kernel
theorem f_262_14 : rfI 262 14 = some (.iconst 0, (0, 0, 0, 0)) := by decide +kernel
theorem f_262_15 : rfI 262 15 = some (.iastore, (0, 0, 0, 0)) := by decide +kernel
theorem f_262_16 : rfI 262 16 = some (.aload_n 0, (0, 0, 0, 0)) := by decide +kernel
theorem f_262_17 : rfI 262 17 = some (.getfield 92, (12, 41, 2, 0)) := by decide +kernel
theorem f_262_20 : rfI 262 20 = some (.iload_n 1, (0, 0, 0, 0)) := by decide +kernel
theorem f_262_21 : rfI 262 21 = some (.iconst 0, (0, 0, 0, 0)) := by decide +kernel
theorem f_262_22 : rfI 262 22 = some (.iastore, (0, 0, 0, 0)) := by decide +kernel
theorem f_262_23 : rfI 262 23 = some (.iconst 0, (0, 0, 0, 0)) := by decide +kernel
theorem f_262_24 : rfI 262 24 = some (.istore_n 2, (0, 0, 0, 0)) := by decide +kernel
theorem f_262_25 : rfI 262 25 = some (.iload_n 2, (0, 0, 0, 0)) := by decide +kernel
theorem f_262_26 : rfI 262 26 = some (.bipush 8, (0, 0, 0, 0)) := by decide +kernel
theorem f_262_28 : rfI 262 28 = some (.if_icmp .ge 71, (0, 0, 0, 0)) := by decide +kernel
theorem f_262_31 : rfI 262 31 = some (.iload_n 1, (0, 0, 0, 0)) := by decide +kernel
theorem f_262_32 : rfI 262 32 = some (.iload_n 2, (0, 0, 0, 0)) := by decide +kernel
theorem f_262_33 : rfI 262 33 = some (.invokestatic 120, (184, 2, 10, 0)) := by decide +kernel
theorem f_262_36 : rfI 262 36 = some (.ifCond .ne 6, (0, 0, 0, 0)) := by decide +kernel
theorem f_262_39 : rfI 262 39 = some (.goto 54, (0, 0, 0, 0)) := by decide +kernel
theorem f_262_42 : rfI 262 42 = some (.aload_n 0, (0, 0, 0, 0)) := by decide +kernel
theorem f_262_43 : rfI 262 43 = some (.getfield 89, (12, 40, 2, 0)) := by decide +kernel
theorem f_262_46 : rfI 262 46 = some (.iload_n 1, (0, 0, 0, 0)) := by decide +kernel
theorem f_262_47 : rfI 262 47 = some (.aload_n 0, (0, 0, 0, 0)) := by decide +kernel
theorem f_262_48 : rfI 262 48 = some (.getfield 89, (12, 40, 2, 0)) := by decide +kernel
theorem f_262_51 : rfI 262 51 = some (.iload_n 1, (0, 0, 0, 0)) := by decide +kernel
theorem f_262_52 : rfI 262 52 = some (.iaload, (0, 0, 0, 0)) := by decide +kernel
theorem f_262_53 : rfI 262 53 = some (.aload_n 0, (0, 0, 0, 0)) := by decide +kernel
theorem f_262_54 : rfI 262 54 = some (.iload_n 2, (0, 0, 0, 0)) := by decide +kernel
theorem f_262_55 : rfI 262 55 = some (.invokevirtual 139, (193, 2, 11, 0)) := by decide +kernel
theorem f_262_58 : rfI 262 58 = some (.iadd, (0, 0, 0, 0)) := by decide +kernel
theorem f_262_59 : rfI 262 59 = some (.aload_n 0, (0, 0, 0, 0)) := by decide +kernel
theorem f_262_60 : rfI 262 60 = some (.iload_n 2, (0, 0, 0, 0)) := by decide +kernel
theorem f_262_61 : rfI 262 61 = some (.invokevirtual 135, (192, 2, 11, 0)) := by decide +kernel
theorem f_262_64 : rfI 262 64 = some (.isub, (0, 0, 0, 0)) := by decide +kernel
theorem f_262_65 : rfI 262 65 = some (.iastore, (0, 0, 0, 0)) := by decide +kernel
theorem f_262_66 : rfI 262 66 = some (.aload_n 0, (0, 0, 0, 0)) := by decide +kernel
theorem f_262_67 : rfI 262 67 = some (.getfield 92, (12, 41, 2, 0)) := by decide +kernel
theorem f_262_70 : rfI 262 70 = some (.iload_n 1, (0, 0, 0, 0)) := by decide +kernel
theorem f_262_71 : rfI 262 71 = some (.aload_n 0, (0, 0, 0, 0)) := by decide +kernel
theorem f_262_72 : rfI 262 72 = some (.getfield 92, (12, 41, 2, 0)) := by decide +kernel
theorem f_262_75 : rfI 262 75 = some (.iload_n 1, (0, 0, 0, 0)) := by decide +kernel
theorem f_262_76 : rfI 262 76 = some (.iaload, (0, 0, 0, 0)) := by decide +kernel
theorem f_262_77 : rfI 262 77 = some (.aload_n 0, (0, 0, 0, 0)) := by decide +kernel
theorem f_262_78 : rfI 262 78 = some (.getfield 92, (12, 41, 2, 0)) := by decide +kernel
theorem f_262_81 : rfI 262 81 = some (.iload_n 1, (0, 0, 0, 0)) := by decide +kernel
theorem f_262_82 : rfI 262 82 = some (.iconst 1, (0, 0, 0, 0)) := by decide +kernel
theorem f_262_83 : rfI 262 83 = some (.iload_n 2, (0, 0, 0, 0)) := by decide +kernel
theorem f_262_84 : rfI 262 84 = some (.ishl, (0, 0, 0, 0)) := by decide +kernel
theorem f_262_85 : rfI 262 85 = some (.iconst (-1), (0, 0, 0, 0)) := by decide +kernel
theorem f_262_86 : rfI 262 86 = some (.ixor, (0, 0, 0, 0)) := by decide +kernel
theorem f_262_87 : rfI 262 87 = some (.iand, (0, 0, 0, 0)) := by decide +kernel
theorem f_262_88 : rfI 262 88 = some (.iaload, (0, 0, 0, 0)) := by decide +kernel
theorem f_262_89 : rfI 262 89 = some (.invokestatic 333, (183, 2, 10, 0)) := by decide +kernel
theorem f_262_92 : rfI 262 92 = some (.iastore, (0, 0, 0, 0)) := by decide +kernel
theorem f_262_93 : rfI 262 93 = some (.iinc 2 1, (0, 0, 0, 0)) := by decide +kernel
theorem f_262_96 : rfI 262 96 = some (.goto (-71), (0, 0, 0, 0)) := by decide +kernel
theorem f_262_99 : rfI 262 99 = some (.aload_n 0, (0, 0, 0, 0)) := by decide +kernel
theorem f_262_100 : rfI 262 100 = some (.getfield 89, (12, 40, 2, 0)) := by decide +kernel
theorem f_262_103 : rfI 262 103 = some (.iload_n 1, (0, 0, 0, 0)) := by decide +kernel
theorem f_262_104 : rfI 262 104 = some (.iaload, (0, 0, 0, 0)) := by decide +kernel
theorem f_262_105 : rfI 262 105 = some (.ifCond .ne 17, (0, 0, 0, 0)) := by decide +kernel
theorem f_262_108 : rfI 262 108 = some (.aload_n 0, (0, 0, 0, 0)) := by decide +kernel
theorem f_262_109 : rfI 262 109 = some (.getfield 92, (12, 41, 2, 0)) := by decide +kernel
theorem f_262_112 : rfI 262 112 = some (.iload_n 1, (0, 0, 0, 0)) := by decide +kernel
theorem f_262_113 : rfI 262 113 = some (.aload_n 0, (0, 0, 0, 0)) := by decide +kernel
theorem f_262_114 : rfI 262 114 = some (.getfield 92, (12, 41, 2, 0)) := by decide +kernel
theorem f_262_117 : rfI 262 117 = some (.iload_n 1, (0, 0, 0, 0)) := by decide +kernel
theorem f_262_118 : rfI 262 118 = some (.iaload, (0, 0, 0, 0)) := by decide +kernel
theorem f_262_119 : rfI 262 119 = some (.iconst 1, (0, 0, 0, 0)) := by decide +kernel
theorem f_262_120 : rfI 262 120 = some (.iadd, (0, 0, 0, 0)) := by decide +kernel
theorem f_262_121 : rfI 262 121 = some (.iastore, (0, 0, 0, 0)) := by decide +kernel
theorem f_262_122 : rfI 262 122 = some (.iinc 1 1, (0, 0, 0, 0)) := by decide +kernel
theorem f_262_125 : rfI 262 125 = some (.goto (-123), (0, 0, 0, 0)) := by decide +kernel
theorem f_262_128 : rfI 262 128 = some (.return_, (0, 0, 0, 0)) := by decide +kernel
theorem f_263_0 : rfI 263 0 = some (.iload_n 1, (0, 0, 0, 0)) := by decide +kernel
theorem f_263_1 : rfI 263 1 = some (.iconst 0, (0, 0, 0, 0)) := by decide +kernel
theorem f_263_2 : rfI 263 2 = some (.iconst 1, (0, 0, 0, 0)) := by decide +kernel
theorem f_263_3 : rfI 263 3 = some (.invokestatic 116, (181, 3, 10, 0)) := by decide +kernel
theorem f_263_6 : rfI 263 6 = some (.ifCond .ne 5, (0, 0, 0, 0)) := by decide +kernel
theorem f_263_9 : rfI 263 9 = some (.iconst (-1), (0, 0, 0, 0)) := by decide +kernel
theorem f_263_10 : rfI 263 10 = some (.ireturn, (0, 0, 0, 0)) := by decide +kernel
theorem f_263_11 : rfI 263 11 = some (.iconst 0, (0, 0, 0, 0)) := by decide +kernel
theorem f_263_12 : rfI 263 12 = some (.istore_n 2, (0, 0, 0, 0)) := by decide +kernel
theorem f_263_13 : rfI 263 13 = some (.iconst 0, (0, 0, 0, 0)) := by decide +kernel
theorem f_263_14 : rfI 263 14 = some (.istore_n 3, (0, 0, 0, 0)) := by decide +kernel
theorem f_263_15 : rfI 263 15 = some (.iload_n 3, (0, 0, 0, 0)) := by decide +kernel
theorem f_263_16 : rfI 263 16 = some (.bipush 8, (0, 0, 0, 0)) := by decide +kernel
theorem f_263_18 : rfI 263 18 = some (.if_icmp .ge 36, (0, 0, 0, 0)) := by decide +kernel
theorem f_263_21 : rfI 263 21 = some (.aload_n 0, (0, 0, 0, 0)) := by decide +kernel
theorem f_263_22 : rfI 263 22 = some (.iload_n 3, (0, 0, 0, 0)) := by decide +kernel
theorem f_263_23 : rfI 263 23 = some (.invokevirtual 128, (188, 2, 11, 0)) := by decide +kernel
theorem f_263_26 : rfI 263 26 = some (.ifCond .eq 22, (0, 0, 0, 0)) := by decide +kernel
theorem f_263_29 : rfI 263 29 = some (.aload_n 0, (0, 0, 0, 0)) := by decide +kernel
theorem f_263_30 : rfI 263 30 = some (.iload_n 3, (0, 0, 0, 0)) := by decide +kernel
theorem f_263_31 : rfI 263 31 = some (.invokevirtual 139, (193, 2, 11, 0)) := by decide +kernel
theorem f_263_34 : rfI 263 34 = some (.aload_n 0, (0, 0, 0, 0)) := by decide +kernel
theorem f_263_35 : rfI 263 35 = some (.iload_n 3, (0, 0, 0, 0)) := by decide +kernel
theorem f_263_36 : rfI 263 36 = some (.invokevirtual 135, (192, 2, 11, 0)) := by decide +kernel
theorem f_263_39 : rfI 263 39 = some (.if_icmp .eq 9, (0, 0, 0, 0)) := by decide +kernel
theorem f_263_42 : rfI 263 42 = some (.iload_n 2, (0, 0, 0, 0)) := by decide +kernel
theorem f_263_43 : rfI 263 43 = some (.iconst 1, (0, 0, 0, 0)) := by decide +kernel
theorem f_263_44 : rfI 263 44 = some (.iload_n 3, (0, 0, 0, 0)) := by decide +kernel
theorem f_263_45 : rfI 263 45 = some (.ishl, (0, 0, 0, 0)) := by decide +kernel
theorem f_263_46 : rfI 263 46 = some (.ior, (0, 0, 0, 0)) := by decide +kernel
theorem f_263_47 : rfI 263 47 = some (.istore_n 2, (0, 0, 0, 0)) := by decide +kernel
theorem f_263_48 : rfI 263 48 = some (.iinc 3 1, (0, 0, 0, 0)) := by decide +kernel
theorem f_263_51 : rfI 263 51 = some (.goto (-36), (0, 0, 0, 0)) := by decide +kernel
theorem f_263_54 : rfI 263 54 = some (.aload_n 0, (0, 0, 0, 0)) := by decide +kernel
theorem f_263_55 : rfI 263 55 = some (.invokevirtual 352, (262, 1, 11, 0)) := by decide +kernel
theorem f_263_58 : rfI 263 58 = some (.iload_n 1, (0, 0, 0, 0)) := by decide +kernel
theorem f_263_59 : rfI 263 59 = some (.iconst 1, (0, 0, 0, 0)) := by decide +kernel
theorem f_263_60 : rfI 263 60 = some (.if_icmp .ne 12, (0, 0, 0, 0)) := by decide +kernel
theorem f_263_63 : rfI 263 63 = some (.aload_n 0, (0, 0, 0, 0)) := by decide +kernel
theorem f_263_64 : rfI 263 64 = some (.getfield 92, (12, 41, 2, 0)) := by decide +kernel
theorem f_263_67 : rfI 263 67 = some (.iload_n 2, (0, 0, 0, 0)) := by decide +kernel
theorem f_263_68 : rfI 263 68 = some (.iaload, (0, 0, 0, 0)) := by decide +kernel
theorem f_263_69 : rfI 263 69 = some (.goto 14, (0, 0, 0, 0)) := by decide +kernel
theorem f_263_72 : rfI 263 72 = some (.iload_n 2, (0, 0, 0, 0)) := by decide +kernel
theorem f_263_73 : rfI 263 73 = some (.invokestatic 342, (185, 1, 10, 0)) := by decide +kernel
theorem f_263_76 : rfI 263 76 = some (.aload_n 0, (0, 0, 0, 0)) := by decide +kernel
theorem f_263_77 : rfI 263 77 = some (.getfield 92, (12, 41, 2, 0)) := by decide +kernel
theorem f_263_80 : rfI 263 80 = some (.iload_n 2, (0, 0, 0, 0)) := by decide +kernel
theorem f_263_81 : rfI 263 81 = some (.iaload, (0, 0, 0, 0)) := by decide +kernel
theorem f_263_82 : rfI 263 82 = some (.isub, (0, 0, 0, 0)) := by decide +kernel
theorem f_263_83 : rfI 263 83 = some (.ireturn, (0, 0, 0, 0)) := by decide +kernel
theorem f_264_0 : rfI 264 0 = some (.aload_n 0, (0, 0, 0, 0)) := by decide +kernel
theorem f_264_1 : rfI 264 1 = some (.iload_n 1, (0, 0, 0, 0)) := by decide +kernel
theorem f_264_2 : rfI 264 2 = some (.iload_n 2, (0, 0, 0, 0)) := by decide +kernel
theorem f_264_3 : rfI 264 3 = some (.invokevirtual 142, (189, 3, 11, 0)) := by decide +kernel
theorem f_264_6 : rfI 264 6 = some (.ifCond .ne 5, (0, 0, 0, 0)) := by decide +kernel
theorem f_264_9 : rfI 264 9 = some (.iconst 0, (0, 0, 0, 0)) := by decide +kernel
theorem f_264_10 : rfI 264 10 = some (.ireturn, (0, 0, 0, 0)) := by decide +kernel
theorem f_264_11 : rfI 264 11 = some (.aload_n 0, (0, 0, 0, 0)) := by decide +kernel
theorem f_264_12 : rfI 264 12 = some (.getfield 7, (12, 0, 2, 0)) := by decide +kernel
theorem f_264_15 : rfI 264 15 = some (.iconst 0, (0, 0, 0, 0)) := by decide +kernel
theorem f_264_16 : rfI 264 16 = some (.iload_n 1, (0, 0, 0, 0)) := by decide +kernel
theorem f_264_17 : rfI 264 17 = some (.iadd, (0, 0, 0, 0)) := by decide +kernel
theorem f_264_18 : rfI 264 18 = some (.sipush 9999, (0, 0, 0, 0)) := by decide +kernel
theorem f_264_21 : rfI 264 21 = some (.aload_n 0, (0, 0, 0, 0)) := by decide +kernel
theorem f_264_22 : rfI 264 22 = some (.getfield 7, (12, 0, 2, 0)) := by decide +kernel
theorem f_264_25 : rfI 264 25 = some (.iconst 0, (0, 0, 0, 0)) := by decide +kernel
theorem f_264_26 : rfI 264 26 = some (.iload_n 1, (0, 0, 0, 0)) := by decide +kernel
theorem f_264_27 : rfI 264 27 = some (.iadd, (0, 0, 0, 0)) := by decide +kernel
theorem f_264_28 : rfI 264 28 = some (.iaload, (0, 0, 0, 0)) := by decide +kernel
theorem f_264_29 : rfI 264 29 = some (.aload_n 0, (0, 0, 0, 0)) := by decide +kernel
theorem f_264_30 : rfI 264 30 = some (.getfield 7, (12, 0, 2, 0)) := by decide +kernel
theorem f_264_33 : rfI 264 33 = some (.iconst 0, (0, 0, 0, 0)) := by decide +kernel
theorem f_264_34 : rfI 264 34 = some (.iload_n 2, (0, 0, 0, 0)) := by decide +kernel
theorem f_264_35 : rfI 264 35 = some (.iadd, (0, 0, 0, 0)) := by decide +kernel
theorem f_264_36 : rfI 264 36 = some (.iaload, (0, 0, 0, 0)) := by decide +kernel
theorem f_264_37 : rfI 264 37 = some (.iadd, (0, 0, 0, 0)) := by decide +kernel
theorem f_264_38 : rfI 264 38 = some (.invokestatic 293, (182, 2, 10, 0)) := by decide +kernel
theorem f_264_41 : rfI 264 41 = some (.iastore, (0, 0, 0, 0)) := by decide +kernel
theorem f_264_42 : rfI 264 42 = some (.iconst 0, (0, 0, 0, 0)) := by decide +kernel
theorem f_264_43 : rfI 264 43 = some (.istore_n 3, (0, 0, 0, 0)) := by decide +kernel
theorem f_264_44 : rfI 264 44 = some (.iload_n 3, (0, 0, 0, 0)) := by decide +kernel
theorem f_264_45 : rfI 264 45 = some (.bipush 8, (0, 0, 0, 0)) := by decide +kernel
theorem f_264_47 : rfI 264 47 = some (.if_icmp .ge 127, (0, 0, 0, 0)) := by decide +kernel
theorem f_264_50 : rfI 264 50 = some (.iload_n 3, (0, 0, 0, 0)) := by decide +kernel
theorem f_264_51 : rfI 264 51 = some (.iload_n 1, (0, 0, 0, 0)) := by decide +kernel
theorem f_264_52 : rfI 264 52 = some (.if_icmp .eq 116, (0, 0, 0, 0)) := by decide +kernel
theorem f_264_55 : rfI 264 55 = some (.iload_n 3, (0, 0, 0, 0)) := by decide +kernel
theorem f_264_56 : rfI 264 56 = some (.iload_n 2, (0, 0, 0, 0)) := by decide +kernel
theorem f_264_57 : rfI 264 57 = some (.if_icmp .ne 6, (0, 0, 0, 0)) := by decide +kernel
theorem f_264_60 : rfI 264 60 = some (.goto 108, (0, 0, 0, 0)) := by decide +kernel
theorem f_264_63 : rfI 264 63 = some (.aload_n 0, (0, 0, 0, 0)) := by decide +kernel
theorem f_264_64 : rfI 264 64 = some (.getfield 7, (12, 0, 2, 0)) := by decide +kernel
theorem f_264_67 : rfI 264 67 = some (.iload_n 1, (0, 0, 0, 0)) := by decide +kernel
theorem f_264_68 : rfI 264 68 = some (.iload_n 3, (0, 0, 0, 0)) := by decide +kernel
theorem f_264_69 : rfI 264 69 = some (.invokestatic 131, (190, 2, 10, 0)) := by decide +kernel
theorem f_264_72 : rfI 264 72 = some (.sipush 999, (0, 0, 0, 0)) := by decide +kernel
theorem f_264_75 : rfI 264 75 = some (.aload_n 0, (0, 0, 0, 0)) := by decide +kernel
theorem f_264_76 : rfI 264 76 = some (.getfield 7, (12, 0, 2, 0)) := by decide +kernel
theorem f_264_79 : rfI 264 79 = some (.iload_n 1, (0, 0, 0, 0)) := by decide +kernel
theorem f_264_80 : rfI 264 80 = some (.iload_n 3, (0, 0, 0, 0)) := by decide +kernel
theorem f_264_81 : rfI 264 81 = some (.invokestatic 131, (190, 2, 10, 0)) := by decide +kernel
theorem f_264_84 : rfI 264 84 = some (.iaload, (0, 0, 0, 0)) := by decide +kernel
theorem f_264_85 : rfI 264 85 = some (.aload_n 0, (0, 0, 0, 0)) := by decide +kernel
theorem f_264_86 : rfI 264 86 = some (.getfield 7, (12, 0, 2, 0)) := by decide +kernel
theorem f_264_89 : rfI 264 89 = some (.iload_n 2, (0, 0, 0, 0)) := by decide +kernel
theorem f_264_90 : rfI 264 90 = some (.iload_n 3, (0, 0, 0, 0)) := by decide +kernel
theorem f_264_91 : rfI 264 91 = some (.invokestatic 131, (190, 2, 10, 0)) := by decide +kernel
theorem f_264_94 : rfI 264 94 = some (.iaload, (0, 0, 0, 0)) := by decide +kernel
theorem f_264_95 : rfI 264 95 = some (.iadd, (0, 0, 0, 0)) := by decide +kernel
theorem f_264_96 : rfI 264 96 = some (.invokestatic 293, (182, 2, 10, 0)) := by decide +kernel
theorem f_264_99 : rfI 264 99 = some (.iastore, (0, 0, 0, 0)) := by decide +kernel
theorem f_264_100 : rfI 264 100 = some (.aload_n 0, (0, 0, 0, 0)) := by decide +kernel
theorem f_264_101 : rfI 264 101 = some (.getfield 7, (12, 0, 2, 0)) := by decide +kernel
theorem f_264_104 : rfI 264 104 = some (.iload_n 3, (0, 0, 0, 0)) := by decide +kernel
theorem f_264_105 : rfI 264 105 = some (.iload_n 1, (0, 0, 0, 0)) := by decide +kernel
theorem f_264_106 : rfI 264 106 = some (.invokestatic 131, (190, 2, 10, 0)) := by decide +kernel
theorem f_264_109 : rfI 264 109 = some (.sipush 999, (0, 0, 0, 0)) := by decide +kernel
theorem f_264_112 : rfI 264 112 = some (.aload_n 0, (0, 0, 0, 0)) := by decide +kernel
theorem f_264_113 : rfI 264 113 = some (.getfield 7, (12, 0, 2, 0)) := by decide +kernel
theorem f_264_116 : rfI 264 116 = some (.iload_n 3, (0, 0, 0, 0)) := by decide +kernel
theorem f_264_117 : rfI 264 117 = some (.iload_n 1, (0, 0, 0, 0)) := by decide +kernel
theorem f_264_118 : rfI 264 118 = some (.invokestatic 131, (190, 2, 10, 0)) := by decide +kernel
theorem f_264_121 : rfI 264 121 = some (.iaload, (0, 0, 0, 0)) := by decide +kernel
theorem f_264_122 : rfI 264 122 = some (.aload_n 0, (0, 0, 0, 0)) := by decide +kernel
theorem f_264_123 : rfI 264 123 = some (.getfield 7, (12, 0, 2, 0)) := by decide +kernel
theorem f_264_126 : rfI 264 126 = some (.iload_n 3, (0, 0, 0, 0)) := by decide +kernel
theorem f_264_127 : rfI 264 127 = some (.iload_n 2, (0, 0, 0, 0)) := by decide +kernel
theorem f_264_128 : rfI 264 128 = some (.invokestatic 131, (190, 2, 10, 0)) := by decide +kernel
theorem f_264_131 : rfI 264 131 = some (.iaload, (0, 0, 0, 0)) := by decide +kernel
theorem f_264_132 : rfI 264 132 = some (.iadd, (0, 0, 0, 0)) := by decide +kernel
theorem f_264_133 : rfI 264 133 = some (.invokestatic 293, (182, 2, 10, 0)) := by decide +kernel
theorem f_264_136 : rfI 264 136 = some (.iastore, (0, 0, 0, 0)) := by decide +kernel
theorem f_264_137 : rfI 264 137 = some (.aload_n 0, (0, 0, 0, 0)) := by decide +kernel
theorem f_264_138 : rfI 264 138 = some (.getfield 7, (12, 0, 2, 0)) := by decide +kernel
theorem f_264_141 : rfI 264 141 = some (.iload_n 1, (0, 0, 0, 0)) := by decide +kernel
theorem f_264_142 : rfI 264 142 = some (.iload_n 3, (0, 0, 0, 0)) := by decide +kernel
theorem f_264_143 : rfI 264 143 = some (.invokestatic 145, (191, 2, 10, 0)) := by decide +kernel
theorem f_264_146 : rfI 264 146 = some (.aload_n 0, (0, 0, 0, 0)) := by decide +kernel
theorem f_264_147 : rfI 264 147 = some (.getfield 7, (12, 0, 2, 0)) := by decide +kernel
theorem f_264_150 : rfI 264 150 = some (.iload_n 1, (0, 0, 0, 0)) := by decide +kernel
theorem f_264_151 : rfI 264 151 = some (.iload_n 3, (0, 0, 0, 0)) := by decide +kernel
theorem f_264_152 : rfI 264 152 = some (.invokestatic 145, (191, 2, 10, 0)) := by decide +kernel
theorem f_264_155 : rfI 264 155 = some (.iaload, (0, 0, 0, 0)) := by decide +kernel
theorem f_264_156 : rfI 264 156 = some (.aload_n 0, (0, 0, 0, 0)) := by decide +kernel
theorem f_264_157 : rfI 264 157 = some (.getfield 7, (12, 0, 2, 0)) := by decide +kernel
theorem f_264_160 : rfI 264 160 = some (.iload_n 2, (0, 0, 0, 0)) := by decide +kernel
theorem f_264_161 : rfI 264 161 = some (.iload_n 3, (0, 0, 0, 0)) := by decide +kernel
theorem f_264_162 : rfI 264 162 = some (.invokestatic 145, (191, 2, 10, 0)) := by decide +kernel
theorem f_264_165 : rfI 264 165 = some (.iaload, (0, 0, 0, 0)) := by decide +kernel
theorem f_264_166 : rfI 264 166 = some (.iadd, (0, 0, 0, 0)) := by decide +kernel
theorem f_264_167 : rfI 264 167 = some (.iastore, (0, 0, 0, 0)) := by decide +kernel
theorem f_264_168 : rfI 264 168 = some (.iinc 3 1, (0, 0, 0, 0)) := by decide +kernel
theorem f_264_171 : rfI 264 171 = some (.goto (-127), (0, 0, 0, 0)) := by decide +kernel
theorem f_264_174 : rfI 264 174 = some (.aload_n 0, (0, 0, 0, 0)) := by decide +kernel
theorem f_264_175 : rfI 264 175 = some (.iload_n 2, (0, 0, 0, 0)) := by decide +kernel
theorem f_264_176 : rfI 264 176 = some (.invokevirtual 277, (234, 2, 11, 0)) := by decide +kernel
theorem f_264_179 : rfI 264 179 = some (.iconst 1, (0, 0, 0, 0)) := by decide +kernel
theorem f_264_180 : rfI 264 180 = some (.ireturn, (0, 0, 0, 0)) := by decide +kernel
theorem f_265_0 : rfI 265 0 = some (.sipush 256, (0, 0, 0, 0)) := by decide +kernel
theorem f_265_3 : rfI 265 3 = some (.aload_n 0, (0, 0, 0, 0)) := by decide +kernel
theorem f_265_4 : rfI 265 4 = some (.iload_n 1, (0, 0, 0, 0)) := by decide +kernel
theorem f_265_5 : rfI 265 5 = some (.invokevirtual 355, (201, 2, 11, 0)) := by decide +kernel
theorem f_265_8 : rfI 265 8 = some (.imul, (0, 0, 0, 0)) := by decide +kernel
theorem f_265_9 : rfI 265 9 = some (.aload_n 0, (0, 0, 0, 0)) := by decide +kernel
theorem f_265_10 : rfI 265 10 = some (.iload_n 1, (0, 0, 0, 0)) := by decide +kernel
theorem f_265_11 : rfI 265 11 = some (.iconst 1, (0, 0, 0, 0)) := by decide +kernel
theorem f_265_12 : rfI 265 12 = some (.iadd, (0, 0, 0, 0)) := by decide +kernel
theorem f_265_13 : rfI 265 13 = some (.invokevirtual 355, (201, 2, 11, 0)) := by decide +kernel
theorem f_265_16 : rfI 265 16 = some (.iadd, (0, 0, 0, 0)) := by decide +kernel
theorem f_265_17 : rfI 265 17 = some (.ireturn, (0, 0, 0, 0)) := by decide +kernel
theorem f_266_0 : rfI 266 0 = some (.iload_n 1, (0, 0, 0, 0)) := by decide +kernel
theorem f_266_1 : rfI 266 1 = some (.iconst 0, (0, 0, 0, 0)) := by decide +kernel
theorem f_266_2 : rfI 266 2 = some (.iconst 2, (0, 0, 0, 0)) := by decide +kernel
theorem f_266_3 : rfI 266 3 = some (.invokestatic 116, (181, 3, 10, 0)) := by decide +kernel
theorem f_266_6 : rfI 266 6 = some (.ifCond .eq 12, (0, 0, 0, 0)) := by decide +kernel
theorem f_266_9 : rfI 266 9 = some (.aload_n 0, (0, 0, 0, 0)) := by decide +kernel
theorem f_266_10 : rfI 266 10 = some (.getfield 148, (12, 4, 0, 0)) := by decide +kernel
theorem f_266_13 : rfI 266 13 = some (.bipush 32, (0, 0, 0, 0)) := by decide +kernel
theorem f_266_15 : rfI 266 15 = some (.if_icmp .ge 5, (0, 0, 0, 0)) := by decide +kernel
theorem f_266_18 : rfI 266 18 = some (.iconst (-1), (0, 0, 0, 0)) := by decide +kernel
theorem f_266_19 : rfI 266 19 = some (.ireturn, (0, 0, 0, 0)) := by decide +kernel
theorem f_266_20 : rfI 266 20 = some (.aload_n 0, (0, 0, 0, 0)) := by decide +kernel
theorem f_266_21 : rfI 266 21 = some (.iconst 0, (0, 0, 0, 0)) := by decide +kernel
theorem f_266_22 : rfI 266 22 = some (.putfield 148, (12, 4, 0, 0)) := by decide +kernel
theorem f_266_25 : rfI 266 25 = some (.iconst (-1), (0, 0, 0, 0)) := by decide +kernel
theorem f_266_26 : rfI 266 26 = some (.istore_n 2, (0, 0, 0, 0)) := by decide +kernel
theorem f_266_27 : rfI 266 27 = some (.iconst (-1), (0, 0, 0, 0)) := by decide +kernel
theorem f_266_28 : rfI 266 28 = some (.istore_n 3, (0, 0, 0, 0)) := by decide +kernel
theorem f_266_29 : rfI 266 29 = some (.iconst 0, (0, 0, 0, 0)) := by decide +kernel
theorem f_266_30 : rfI 266 30 = some (.istore 4, (0, 0, 0, 0)) := by decide +kernel
theorem f_266_32 : rfI 266 32 = some (.iconst 0, (0, 0, 0, 0)) := by decide +kernel
theorem f_266_33 : rfI 266 33 = some (.istore 5, (0, 0, 0, 0)) := by decide +kernel
theorem f_266_35 : rfI 266 35 = some (.iload 5, (0, 0, 0, 0)) := by decide +kernel
theorem f_266_37 : rfI 266 37 = some (.bipush 8, (0, 0, 0, 0)) := by decide +kernel
theorem f_266_39 : rfI 266 39 = some (.if_icmp .ge 63, (0, 0, 0, 0)) := by decide +kernel
theorem f_266_42 : rfI 266 42 = some (.aload_n 0, (0, 0, 0, 0)) := by decide +kernel
theorem f_266_43 : rfI 266 43 = some (.iconst 4, (0, 0, 0, 0)) := by decide +kernel
theorem f_266_44 : rfI 266 44 = some (.iload 5, (0, 0, 0, 0)) := by decide +kernel
theorem f_266_46 : rfI 266 46 = some (.imul, (0, 0, 0, 0)) := by decide +kernel
theorem f_266_47 : rfI 266 47 = some (.invokevirtual 358, (265, 2, 11, 0)) := by decide +kernel
theorem f_266_50 : rfI 266 50 = some (.aload_n 0, (0, 0, 0, 0)) := by decide +kernel
theorem f_266_51 : rfI 266 51 = some (.iload 5, (0, 0, 0, 0)) := by decide +kernel
theorem f_266_53 : rfI 266 53 = some (.invokevirtual 135, (192, 2, 11, 0)) := by decide +kernel
theorem f_266_56 : rfI 266 56 = some (.if_icmp .eq 12, (0, 0, 0, 0)) := by decide +kernel
theorem f_266_59 : rfI 266 59 = some (.iload 5, (0, 0, 0, 0)) := by decide +kernel
theorem f_266_61 : rfI 266 61 = some (.istore_n 2, (0, 0, 0, 0)) := by decide +kernel
theorem f_266_62 : rfI 266 62 = some (.iload 4, (0, 0, 0, 0)) := by decide +kernel
theorem f_266_64 : rfI 266 64 = some (.iconst 1, (0, 0, 0, 0)) := by decide +kernel
theorem f_266_65 : rfI 266 65 = some (.iadd, (0, 0, 0, 0)) := by decide +kernel
theorem f_266_66 : rfI 266 66 = some (.istore 4, (0, 0, 0, 0)) := by decide +kernel
theorem f_266_68 : rfI 266 68 = some (.aload_n 0, (0, 0, 0, 0)) := by decide +kernel
theorem f_266_69 : rfI 266 69 = some (.iconst 4, (0, 0, 0, 0)) := by decide +kernel
theorem f_266_70 : rfI 266 70 = some (.iload 5, (0, 0, 0, 0)) := by decide +kernel
theorem f_266_72 : rfI 266 72 = some (.imul, (0, 0, 0, 0)) := by decide +kernel
theorem f_266_73 : rfI 266 73 = some (.iconst 2, (0, 0, 0, 0)) := by decide +kernel
theorem f_266_74 : rfI 266 74 = some (.iadd, (0, 0, 0, 0)) := by decide +kernel
theorem f_266_75 : rfI 266 75 = some (.invokevirtual 358, (265, 2, 11, 0)) := by decide +kernel
theorem f_266_78 : rfI 266 78 = some (.aload_n 0, (0, 0, 0, 0)) := by decide +kernel
theorem f_266_79 : rfI 266 79 = some (.iload 5, (0, 0, 0, 0)) := by decide +kernel
theorem f_266_81 : rfI 266 81 = some (.invokevirtual 139, (193, 2, 11, 0)) := by decide +kernel
theorem f_266_84 : rfI 266 84 = some (.if_icmp .eq 12, (0, 0, 0, 0)) := by decide +kernel
theorem f_266_87 : rfI 266 87 = some (.iload 5, (0, 0, 0, 0)) := by decide +kernel
theorem f_266_89 : rfI 266 89 = some (.istore_n 3, (0, 0, 0, 0)) := by decide +kernel
theorem f_266_90 : rfI 266 90 = some (.iload 4, (0, 0, 0, 0)) := by decide +kernel
theorem f_266_92 : rfI 266 92 = some (.iconst 1, (0, 0, 0, 0)) := by decide +kernel
theorem f_266_93 : rfI 266 93 = some (.iadd, (0, 0, 0, 0)) := by decide +kernel
theorem f_266_94 : rfI 266 94 = some (.istore 4, (0, 0, 0, 0)) := by decide +kernel
theorem f_266_96 : rfI 266 96 = some (.iinc 5 1, (0, 0, 0, 0)) := by decide +kernel
theorem f_266_99 : rfI 266 99 = some (.goto (-64), (0, 0, 0, 0)) := by decide +kernel
theorem f_266_102 : rfI 266 102 = some (.iload 4, (0, 0, 0, 0)) := by decide +kernel
theorem f_266_104 : rfI 266 104 = some (.ifCond .ne 6, (0, 0, 0, 0)) := by decide +kernel
theorem f_266_107 : rfI 266 107 = some (.bipush (-2), (0, 0, 0, 0)) := by decide +kernel
theorem f_266_109 : rfI 266 109 = some (.ireturn, (0, 0, 0, 0)) := by decide +kernel
theorem f_266_110 : rfI 266 110 = some (.iload 4, (0, 0, 0, 0)) := by decide +kernel
theorem f_266_112 : rfI 266 112 = some (.iconst 2, (0, 0, 0, 0)) := by decide +kernel
theorem f_266_113 : rfI 266 113 = some (.if_icmp .ne 12, (0, 0, 0, 0)) := by decide +kernel
theorem f_266_116 : rfI 266 116 = some (.aload_n 0, (0, 0, 0, 0)) := by decide +kernel
theorem f_266_117 : rfI 266 117 = some (.iload_n 2, (0, 0, 0, 0)) := by decide +kernel
theorem f_266_118 : rfI 266 118 = some (.iload_n 3, (0, 0, 0, 0)) := by decide +kernel
theorem f_266_119 : rfI 266 119 = some (.invokevirtual 142, (189, 3, 11, 0)) := by decide +kernel
theorem f_266_122 : rfI 266 122 = some (.ifCond .ne 6, (0, 0, 0, 0)) := by decide +kernel
theorem f_266_125 : rfI 266 125 = some (.bipush (-3), (0, 0, 0, 0)) := by decide +kernel
theorem f_266_127 : rfI 266 127 = some (.ireturn, (0, 0, 0, 0)) := by decide +kernel
theorem f_266_128 : rfI 266 128 = some (.aload_n 0, (0, 0, 0, 0)) := by decide +kernel
theorem f_266_129 : rfI 266 129 = some (.iconst 4, (0, 0, 0, 0)) := by decide +kernel
theorem f_266_130 : rfI 266 130 = some (.iload_n 2, (0, 0, 0, 0)) := by decide +kernel
theorem f_266_131 : rfI 266 131 = some (.imul, (0, 0, 0, 0)) := by decide +kernel
theorem f_266_132 : rfI 266 132 = some (.invokevirtual 358, (265, 2, 11, 0)) := by decide +kernel
theorem f_266_135 : rfI 266 135 = some (.aload_n 0, (0, 0, 0, 0)) := by decide +kernel
theorem f_266_136 : rfI 266 136 = some (.iload_n 2, (0, 0, 0, 0)) := by decide +kernel
theorem f_266_137 : rfI 266 137 = some (.invokevirtual 135, (192, 2, 11, 0)) := by decide +kernel
theorem f_266_140 : rfI 266 140 = some (.isub, (0, 0, 0, 0)) := by decide +kernel
theorem f_266_141 : rfI 266 141 = some (.istore 5, (0, 0, 0, 0)) := by decide +kernel
theorem f_266_143 : rfI 266 143 = some (.aload_n 0, (0, 0, 0, 0)) := by decide +kernel
theorem f_266_144 : rfI 266 144 = some (.getfield 7, (12, 0, 2, 0)) := by decide +kernel
theorem f_266_147 : rfI 266 147 = some (.iload_n 2, (0, 0, 0, 0)) := by decide +kernel
theorem f_266_148 : rfI 266 148 = some (.iload_n 3, (0, 0, 0, 0)) := by decide +kernel
theorem f_266_149 : rfI 266 149 = some (.invokestatic 131, (190, 2, 10, 0)) := by decide +kernel
theorem f_266_152 : rfI 266 152 = some (.iaload, (0, 0, 0, 0)) := by decide +kernel
theorem f_266_153 : rfI 266 153 = some (.iload 5, (0, 0, 0, 0)) := by decide +kernel
theorem f_266_155 : rfI 266 155 = some (.iadd, (0, 0, 0, 0)) := by decide +kernel
theorem f_266_156 : rfI 266 156 = some (.istore 6, (0, 0, 0, 0)) := by decide +kernel
theorem f_266_158 : rfI 266 158 = some (.aload_n 0, (0, 0, 0, 0)) := by decide +kernel
theorem f_266_159 : rfI 266 159 = some (.iconst 4, (0, 0, 0, 0)) := by decide +kernel
theorem f_266_160 : rfI 266 160 = some (.iload_n 3, (0, 0, 0, 0)) := by decide +kernel
theorem f_266_161 : rfI 266 161 = some (.imul, (0, 0, 0, 0)) := by decide +kernel
theorem f_266_162 : rfI 266 162 = some (.iconst 2, (0, 0, 0, 0)) := by decide +kernel
theorem f_266_163 : rfI 266 163 = some (.iadd, (0, 0, 0, 0)) := by decide +kernel
theorem f_266_164 : rfI 266 164 = some (.invokevirtual 358, (265, 2, 11, 0)) := by decide +kernel
theorem f_266_167 : rfI 266 167 = some (.aload_n 0, (0, 0, 0, 0)) := by decide +kernel
theorem f_266_168 : rfI 266 168 = some (.iload_n 3, (0, 0, 0, 0)) := by decide +kernel
theorem f_266_169 : rfI 266 169 = some (.invokevirtual 139, (193, 2, 11, 0)) := by decide +kernel
theorem f_266_172 : rfI 266 172 = some (.isub, (0, 0, 0, 0)) := by decide +kernel
theorem f_266_173 : rfI 266 173 = some (.iload 5, (0, 0, 0, 0)) := by decide +kernel
theorem f_266_175 : rfI 266 175 = some (.if_icmp .ne 15, (0, 0, 0, 0)) := by decide +kernel
theorem f_266_178 : rfI 266 178 = some (.iload 6, (0, 0, 0, 0)) := by decide +kernel
theorem f_266_180 : rfI 266 180 = some (.iconst 0, (0, 0, 0, 0)) := by decide +kernel
theorem f_266_181 : rfI 266 181 = some (.sipush 999, (0, 0, 0, 0)) := by decide +kernel
theorem f_266_184 : rfI 266 184 = some (.invokestatic 116, (181, 3, 10, 0)) := by decide +kernel
theorem f_266_187 : rfI 266 187 = some (.ifCond .ne 6, (0, 0, 0, 0)) := by decide +kernel
theorem f_266_190 : rfI 266 190 = some (.bipush (-3), (0, 0, 0, 0)) := by decide +kernel
theorem f_266_192 : rfI 266 192 = some (.ireturn, (0, 0, 0, 0)) := by decide +kernel
theorem f_266_193 : rfI 266 193 = some (.iload_n 1, (0, 0, 0, 0)) := by decide +kernel
theorem f_266_194 : rfI 266 194 = some (.ifCond .ne 7, (0, 0, 0, 0)) := by decide +kernel
theorem f_266_197 : rfI 266 197 = some (.iload_n 2, (0, 0, 0, 0)) := by decide +kernel
theorem f_266_198 : rfI 266 198 = some (.goto 14, (0, 0, 0, 0)) := by decide +kernel
theorem f_266_201 : rfI 266 201 = some (.iload_n 1, (0, 0, 0, 0)) := by decide +kernel
theorem f_266_202 : rfI 266 202 = some (.iconst 1, (0, 0, 0, 0)) := by decide +kernel
theorem f_266_203 : rfI 266 203 = some (.if_icmp .ne 7, (0, 0, 0, 0)) := by decide +kernel
theorem f_266_206 : rfI 266 206 = some (.iload_n 3, (0, 0, 0, 0)) := by decide +kernel
theorem f_266_207 : rfI 266 207 = some (.goto 5, (0, 0, 0, 0)) := by decide +kernel
theorem f_266_210 : rfI 266 210 = some (.iload 6, (0, 0, 0, 0)) := by decide +kernel
theorem f_266_212 : rfI 266 212 = some (.ireturn, (0, 0, 0, 0)) := by decide +kernel
theorem f_267_0 : rfI 267 0 = some (.iload_n 1, (0, 0, 0, 0)) := by decide +kernel
theorem f_267_1 : rfI 267 1 = some (.iconst 1, (0, 0, 0, 0)) := by decide +kernel
theorem f_267_2 : rfI 267 2 = some (.bipush 12, (0, 0, 0, 0)) := by decide +kernel
theorem f_267_4 : rfI 267 4 = some (.invokestatic 116, (181, 3, 10, 0)) := by decide +kernel
theorem f_267_7 : rfI 267 7 = some (.ifCond .eq 31, (0, 0, 0, 0)) := by decide +kernel
theorem f_267_10 : rfI 267 10 = some (.iload_n 2, (0, 0, 0, 0)) := by decide +kernel
theorem f_267_11 : rfI 267 11 = some (.iconst 0, (0, 0, 0, 0)) := by decide +kernel
theorem f_267_12 : rfI 267 12 = some (.sipush 3060, (0, 0, 0, 0)) := by decide +kernel
theorem f_267_15 : rfI 267 15 = some (.invokestatic 116, (181, 3, 10, 0)) := by decide +kernel
theorem f_267_18 : rfI 267 18 = some (.ifCond .eq 20, (0, 0, 0, 0)) := by decide +kernel
theorem f_267_21 : rfI 267 21 = some (.iload_n 3, (0, 0, 0, 0)) := by decide +kernel
theorem f_267_22 : rfI 267 22 = some (.iconst 0, (0, 0, 0, 0)) := by decide +kernel
theorem f_267_23 : rfI 267 23 = some (.iconst 1, (0, 0, 0, 0)) := by decide +kernel
theorem f_267_24 : rfI 267 24 = some (.invokestatic 116, (181, 3, 10, 0)) := by decide +kernel
theorem f_267_27 : rfI 267 27 = some (.ifCond .eq 11, (0, 0, 0, 0)) := by decide +kernel
theorem f_267_30 : rfI 267 30 = some (.iload_n 1, (0, 0, 0, 0)) := by decide +kernel
theorem f_267_31 : rfI 267 31 = some (.aload_n 0, (0, 0, 0, 0)) := by decide +kernel
theorem f_267_32 : rfI 267 32 = some (.getfield 148, (12, 4, 0, 0)) := by decide +kernel
theorem f_267_35 : rfI 267 35 = some (.if_icmp .le 5, (0, 0, 0, 0)) := by decide +kernel
theorem f_267_38 : rfI 267 38 = some (.iconst (-1), (0, 0, 0, 0)) := by decide +kernel
theorem f_267_39 : rfI 267 39 = some (.ireturn, (0, 0, 0, 0)) := by decide +kernel
theorem f_267_40 : rfI 267 40 = some (.aload_n 0, (0, 0, 0, 0)) := by decide +kernel
theorem f_267_41 : rfI 267 41 = some (.iconst 0, (0, 0, 0, 0)) := by decide +kernel
theorem f_267_42 : rfI 267 42 = some (.putfield 148, (12, 4, 0, 0)) := by decide +kernel
theorem f_267_45 : rfI 267 45 = some (.bipush (-2), (0, 0, 0, 0)) := by decide +kernel
theorem f_267_47 : rfI 267 47 = some (.istore 4, (0, 0, 0, 0)) := by decide +kernel
theorem f_267_49 : rfI 267 49 = some (.iconst 0, (0, 0, 0, 0)) := by decide +kernel
theorem f_267_50 : rfI 267 50 = some (.istore 5, (0, 0, 0, 0)) := by decide +kernel
theorem f_267_52 : rfI 267 52 = some (.iload 5, (0, 0, 0, 0)) := by decide +kernel
theorem f_267_54 : rfI 267 54 = some (.iconst 1, (0, 0, 0, 0)) := by decide +kernel
theorem f_267_55 : rfI 267 55 = some (.iload_n 1, (0, 0, 0, 0)) := by decide +kernel
theorem f_267_56 : rfI 267 56 = some (.ishl, (0, 0, 0, 0)) := by decide +kernel
theorem f_267_57 : rfI 267 57 = some (.if_icmp .ge 82, (0, 0, 0, 0)) := by decide +kernel
theorem f_267_60 : rfI 267 60 = some (.iconst 0, (0, 0, 0, 0)) := by decide +kernel
theorem f_267_61 : rfI 267 61 = some (.istore 6, (0, 0, 0, 0)) := by decide +kernel
theorem f_267_63 : rfI 267 63 = some (.iconst 0, (0, 0, 0, 0)) := by decide +kernel
theorem f_267_64 : rfI 267 64 = some (.istore 7, (0, 0, 0, 0)) := by decide +kernel
theorem f_267_66 : rfI 267 66 = some (.iload 7, (0, 0, 0, 0)) := by decide +kernel
theorem f_267_68 : rfI 267 68 = some (.iload_n 1, (0, 0, 0, 0)) := by decide +kernel
theorem f_267_69 : rfI 267 69 = some (.if_icmp .ge 34, (0, 0, 0, 0)) := by decide +kernel
theorem f_267_72 : rfI 267 72 = some (.iload 6, (0, 0, 0, 0)) := by decide +kernel
theorem f_267_74 : rfI 267 74 = some (.iload 5, (0, 0, 0, 0)) := by decide +kernel
theorem f_267_76 : rfI 267 76 = some (.iload 7, (0, 0, 0, 0)) := by decide +kernel
theorem f_267_78 : rfI 267 78 = some (.invokestatic 120, (184, 2, 10, 0)) := by decide +kernel
theorem f_267_81 : rfI 267 81 = some (.ifCond .eq 12, (0, 0, 0, 0)) := by decide +kernel
theorem f_267_84 : rfI 267 84 = some (.aload_n 0, (0, 0, 0, 0)) := by decide +kernel
theorem f_267_85 : rfI 267 85 = some (.iload 7, (0, 0, 0, 0)) := by decide +kernel
theorem f_267_87 : rfI 267 87 = some (.invokevirtual 355, (201, 2, 11, 0)) := by decide +kernel
theorem f_267_90 : rfI 267 90 = some (.goto 4, (0, 0, 0, 0)) := by decide +kernel
theorem f_267_93 : rfI 267 93 = some (.iconst 0, (0, 0, 0, 0)) := by decide +kernel
theorem f_267_94 : rfI 267 94 = some (.iadd, (0, 0, 0, 0)) := by decide +kernel
theorem f_267_95 : rfI 267 95 = some (.istore 6, (0, 0, 0, 0)) := by decide +kernel
theorem f_267_97 : rfI 267 97 = some (.iinc 7 1, (0, 0, 0, 0)) := by decide +kernel
theorem f_267_100 : rfI 267 100 = some (.goto (-34), (0, 0, 0, 0)) := by decide +kernel
theorem f_267_103 : rfI 267 103 = some (.iload 6, (0, 0, 0, 0)) := by decide +kernel
theorem f_267_105 : rfI 267 105 = some (.iload_n 2, (0, 0, 0, 0)) := by decide +kernel
theorem f_267_106 : rfI 267 106 = some (.if_icmp .ne 27, (0, 0, 0, 0)) := by decide +kernel
theorem f_267_109 : rfI 267 109 = some (.iload 4, (0, 0, 0, 0)) := by decide +kernel
theorem f_267_111 : rfI 267 111 = some (.bipush (-2), (0, 0, 0, 0)) := by decide +kernel
theorem f_267_113 : rfI 267 113 = some (.if_icmp .eq 16, (0, 0, 0, 0)) := by decide +kernel
theorem f_267_116 : rfI 267 116 = some (.iload 5, (0, 0, 0, 0)) := by decide +kernel
theorem f_267_118 : rfI 267 118 = some (.invokestatic 342, (185, 1, 10, 0)) := by decide +kernel
theorem f_267_121 : rfI 267 121 = some (.iload 4, (0, 0, 0, 0)) := by decide +kernel
theorem f_267_123 : rfI 267 123 = some (.invokestatic 342, (185, 1, 10, 0)) := by decide +kernel
theorem f_267_126 : rfI 267 126 = some (.if_icmp .ge 7, (0, 0, 0, 0)) := by decide +kernel
theorem f_267_129 : rfI 267 129 = some (.iload 5, (0, 0, 0, 0)) := by decide +kernel
theorem f_267_131 : rfI 267 131 = some (.istore 4, (0, 0, 0, 0)) := by decide +kernel
theorem f_267_133 : rfI 267 133 = some (.iinc 5 1, (0, 0, 0, 0)) := by decide +kernel
theorem f_267_136 : rfI 267 136 = some (.goto (-84), (0, 0, 0, 0)) := by decide +kernel
theorem f_267_139 : rfI 267 139 = some (.iload_n 3, (0, 0, 0, 0)) := by decide +kernel
theorem f_267_140 : rfI 267 140 = some (.iconst 1, (0, 0, 0, 0)) := by decide +kernel
theorem f_267_141 : rfI 267 141 = some (.if_icmp .eq 10, (0, 0, 0, 0)) := by decide +kernel
theorem f_267_144 : rfI 267 144 = some (.iload 4, (0, 0, 0, 0)) := by decide +kernel
theorem f_267_146 : rfI 267 146 = some (.bipush (-2), (0, 0, 0, 0)) := by decide +kernel
theorem f_267_148 : rfI 267 148 = some (.if_icmp .ne 8, (0, 0, 0, 0)) := by decide +kernel
theorem f_267_151 : rfI 267 151 = some (.iload 4, (0, 0, 0, 0)) := by decide +kernel
theorem f_267_153 : rfI 267 153 = some (.goto 8, (0, 0, 0, 0)) := by decide +kernel
theorem f_267_156 : rfI 267 156 = some (.iload 4, (0, 0, 0, 0)) := by decide +kernel
theorem f_267_158 : rfI 267 158 = some (.invokestatic 342, (185, 1, 10, 0)) := by decide +kernel
theorem f_267_161 : rfI 267 161 = some (.ireturn, (0, 0, 0, 0)) := by decide +kernel
theorem f_268_0 : rfI 268 0 = some (.iload_n 0, (0, 0, 0, 0)) := by decide +kernel
theorem f_268_1 : rfI 268 1 = some (.istore_n 3, (0, 0, 0, 0)) := by decide +kernel
theorem f_268_2 : rfI 268 2 = some (.iconst 1, (0, 0, 0, 0)) := by decide +kernel
theorem f_268_3 : rfI 268 3 = some (.istore 4, (0, 0, 0, 0)) := by decide +kernel
theorem f_268_5 : rfI 268 5 = some (.iload 4, (0, 0, 0, 0)) := by decide +kernel
theorem f_268_7 : rfI 268 7 = some (.sipush 600, (0, 0, 0, 0)) := by decide +kernel
theorem f_268_10 : rfI 268 10 = some (.if_icmp .gt 48, (0, 0, 0, 0)) := by decide +kernel
theorem f_268_13 : rfI 268 13 = some (.iload_n 3, (0, 0, 0, 0)) := by decide +kernel
theorem f_268_14 : rfI 268 14 = some (.iload_n 1, (0, 0, 0, 0)) := by decide +kernel
theorem f_268_15 : rfI 268 15 = some (.imul, (0, 0, 0, 0)) := by decide +kernel
theorem f_268_16 : rfI 268 16 = some (.bipush 99, (0, 0, 0, 0)) := by decide +kernel
theorem f_268_18 : rfI 268 18 = some (.iadd, (0, 0, 0, 0)) := by decide +kernel
theorem f_268_19 : rfI 268 19 = some (.bipush 100, (0, 0, 0, 0)) := by decide +kernel
theorem f_268_21 : rfI 268 21 = some (.idiv, (0, 0, 0, 0)) := by decide +kernel
theorem f_268_22 : rfI 268 22 = some (.istore 5, (0, 0, 0, 0)) := by decide +kernel
theorem f_268_24 : rfI 268 24 = some (.iload_n 3, (0, 0, 0, 0)) := by decide +kernel
theorem f_268_25 : rfI 268 25 = some (.iload 5, (0, 0, 0, 0)) := by decide +kernel
theorem f_268_27 : rfI 268 27 = some (.iadd, (0, 0, 0, 0)) := by decide +kernel
theorem f_268_28 : rfI 268 28 = some (.iload_n 2, (0, 0, 0, 0)) := by decide +kernel
theorem f_268_29 : rfI 268 29 = some (.isub, (0, 0, 0, 0)) := by decide +kernel
theorem f_268_30 : rfI 268 30 = some (.istore 6, (0, 0, 0, 0)) := by decide +kernel
theorem f_268_32 : rfI 268 32 = some (.iload 6, (0, 0, 0, 0)) := by decide +kernel
theorem f_268_34 : rfI 268 34 = some (.ifCond .gt 6, (0, 0, 0, 0)) := by decide +kernel
theorem f_268_37 : rfI 268 37 = some (.iload 4, (0, 0, 0, 0)) := by decide +kernel
theorem f_268_39 : rfI 268 39 = some (.ireturn, (0, 0, 0, 0)) := by decide +kernel
theorem f_268_40 : rfI 268 40 = some (.iload 6, (0, 0, 0, 0)) := by decide +kernel
theorem f_268_42 : rfI 268 42 = some (.iload_n 3, (0, 0, 0, 0)) := by decide +kernel
theorem f_268_43 : rfI 268 43 = some (.if_icmp .lt 6, (0, 0, 0, 0)) := by decide +kernel
theorem f_268_46 : rfI 268 46 = some (.bipush (-2), (0, 0, 0, 0)) := by decide +kernel
theorem f_268_48 : rfI 268 48 = some (.ireturn, (0, 0, 0, 0)) := by decide +kernel
theorem f_268_49 : rfI 268 49 = some (.iload 6, (0, 0, 0, 0)) := by decide +kernel
theorem f_268_51 : rfI 268 51 = some (.istore_n 3, (0, 0, 0, 0)) := by decide +kernel
theorem f_268_52 : rfI 268 52 = some (.iinc 4 1, (0, 0, 0, 0)) := by decide +kernel
theorem f_268_55 : rfI 268 55 = some (.goto (-50), (0, 0, 0, 0)) := by decide +kernel
theorem f_268_58 : rfI 268 58 = some (.bipush (-2), (0, 0, 0, 0)) := by decide +kernel
theorem f_268_60 : rfI 268 60 = some (.ireturn, (0, 0, 0, 0)) := by decide +kernel
theorem f_269_0 : rfI 269 0 = some (.iload_n 1, (0, 0, 0, 0)) := by decide +kernel
theorem f_269_1 : rfI 269 1 = some (.iconst 1, (0, 0, 0, 0)) := by decide +kernel
theorem f_269_2 : rfI 269 2 = some (.sipush 9999, (0, 0, 0, 0)) := by decide +kernel
theorem f_269_5 : rfI 269 5 = some (.invokestatic 116, (181, 3, 10, 0)) := by decide +kernel
theorem f_269_8 : rfI 269 8 = some (.ifCond .eq 33, (0, 0, 0, 0)) := by decide +kernel
theorem f_269_11 : rfI 269 11 = some (.iload_n 2, (0, 0, 0, 0)) := by decide +kernel
theorem f_269_12 : rfI 269 12 = some (.iconst 0, (0, 0, 0, 0)) := by decide +kernel
theorem f_269_13 : rfI 269 13 = some (.bipush 20, (0, 0, 0, 0)) := by decide +kernel
theorem f_269_15 : rfI 269 15 = some (.invokestatic 116, (181, 3, 10, 0)) := by decide +kernel
theorem f_269_18 : rfI 269 18 = some (.ifCond .eq 23, (0, 0, 0, 0)) := by decide +kernel
theorem f_269_21 : rfI 269 21 = some (.iload_n 3, (0, 0, 0, 0)) := by decide +kernel
theorem f_269_22 : rfI 269 22 = some (.iconst 1, (0, 0, 0, 0)) := by decide +kernel
theorem f_269_23 : rfI 269 23 = some (.sipush 9999, (0, 0, 0, 0)) := by decide +kernel
theorem f_269_26 : rfI 269 26 = some (.invokestatic 116, (181, 3, 10, 0)) := by decide +kernel
theorem f_269_29 : rfI 269 29 = some (.ifCond .eq 12, (0, 0, 0, 0)) := by decide +kernel
theorem f_269_32 : rfI 269 32 = some (.iload_n 1, (0, 0, 0, 0)) := by decide +kernel
theorem f_269_33 : rfI 269 33 = some (.iload_n 2, (0, 0, 0, 0)) := by decide +kernel
theorem f_269_34 : rfI 269 34 = some (.iload_n 3, (0, 0, 0, 0)) := by decide +kernel
theorem f_269_35 : rfI 269 35 = some (.invokestatic 361, (268, 3, 10, 0)) := by decide +kernel
theorem f_269_38 : rfI 269 38 = some (.goto 4, (0, 0, 0, 0)) := by decide +kernel
theorem f_269_41 : rfI 269 41 = some (.iconst (-1), (0, 0, 0, 0)) := by decide +kernel
theorem f_269_42 : rfI 269 42 = some (.ireturn, (0, 0, 0, 0)) := by decide +kernel
theorem f_270_0 : rfI 270 0 = some (.iload_n 1, (0, 0, 0, 0)) := by decide +kernel
theorem f_270_1 : rfI 270 1 = some (.iconst 1, (0, 0, 0, 0)) := by decide +kernel
theorem f_270_2 : rfI 270 2 = some (.sipush 9999, (0, 0, 0, 0)) := by decide +kernel
theorem f_270_5 : rfI 270 5 = some (.invokestatic 116, (181, 3, 10, 0)) := by decide +kernel
theorem f_270_8 : rfI 270 8 = some (.ifCond .eq 23, (0, 0, 0, 0)) := by decide +kernel
theorem f_270_11 : rfI 270 11 = some (.iload_n 2, (0, 0, 0, 0)) := by decide +kernel
theorem f_270_12 : rfI 270 12 = some (.iconst 0, (0, 0, 0, 0)) := by decide +kernel
theorem f_270_13 : rfI 270 13 = some (.bipush 20, (0, 0, 0, 0)) := by decide +kernel
theorem f_270_15 : rfI 270 15 = some (.invokestatic 116, (181, 3, 10, 0)) := by decide +kernel
theorem f_270_18 : rfI 270 18 = some (.ifCond .eq 13, (0, 0, 0, 0)) := by decide +kernel
theorem f_270_21 : rfI 270 21 = some (.iload_n 3, (0, 0, 0, 0)) := by decide +kernel
theorem f_270_22 : rfI 270 22 = some (.iconst 1, (0, 0, 0, 0)) := by decide +kernel
theorem f_270_23 : rfI 270 23 = some (.bipush 60, (0, 0, 0, 0)) := by decide +kernel
theorem f_270_25 : rfI 270 25 = some (.invokestatic 116, (181, 3, 10, 0)) := by decide +kernel
theorem f_270_28 : rfI 270 28 = some (.ifCond .ne 5, (0, 0, 0, 0)) := by decide +kernel
theorem f_270_31 : rfI 270 31 = some (.iconst (-1), (0, 0, 0, 0)) := by decide +kernel
theorem f_270_32 : rfI 270 32 = some (.ireturn, (0, 0, 0, 0)) := by decide +kernel
theorem f_270_33 : rfI 270 33 = some (.iconst 1, (0, 0, 0, 0)) := by decide +kernel
theorem f_270_34 : rfI 270 34 = some (.istore 4, (0, 0, 0, 0)) := by decide +kernel
theorem f_270_36 : rfI 270 36 = some (.iconst 2, (0, 0, 0, 0)) := by decide +kernel
theorem f_270_37 : rfI 270 37 = some (.iload_n 1, (0, 0, 0, 0)) := by decide +kernel
theorem f_270_38 : rfI 270 38 = some (.imul, (0, 0, 0, 0)) := by decide +kernel
theorem f_270_39 : rfI 270 39 = some (.istore 5, (0, 0, 0, 0)) := by decide +kernel
theorem f_270_41 : rfI 270 41 = some (.iload 4, (0, 0, 0, 0)) := by decide +kernel
theorem f_270_43 : rfI 270 43 = some (.iload 5, (0, 0, 0, 0)) := by decide +kernel
theorem f_270_45 : rfI 270 45 = some (.if_icmp .ge 50, (0, 0, 0, 0)) := by decide +kernel
theorem f_270_48 : rfI 270 48 = some (.iload 4, (0, 0, 0, 0)) := by decide +kernel
theorem f_270_50 : rfI 270 50 = some (.iload 5, (0, 0, 0, 0)) := by decide +kernel
theorem f_270_52 : rfI 270 52 = some (.iadd, (0, 0, 0, 0)) := by decide +kernel
theorem f_270_53 : rfI 270 53 = some (.iconst 2, (0, 0, 0, 0)) := by decide +kernel
theorem f_270_54 : rfI 270 54 = some (.idiv, (0, 0, 0, 0)) := by decide +kernel
theorem f_270_55 : rfI 270 55 = some (.istore 6, (0, 0, 0, 0)) := by decide +kernel
theorem f_270_57 : rfI 270 57 = some (.iload_n 1, (0, 0, 0, 0)) := by decide +kernel
theorem f_270_58 : rfI 270 58 = some (.iload_n 2, (0, 0, 0, 0)) := by decide +kernel
theorem f_270_59 : rfI 270 59 = some (.iload 6, (0, 0, 0, 0)) := by decide +kernel
theorem f_270_61 : rfI 270 61 = some (.invokestatic 361, (268, 3, 10, 0)) := by decide +kernel
theorem f_270_64 : rfI 270 64 = some (.istore 7, (0, 0, 0, 0)) := by decide +kernel
theorem f_270_66 : rfI 270 66 = some (.iload 7, (0, 0, 0, 0)) := by decide +kernel
theorem f_270_68 : rfI 270 68 = some (.bipush (-2), (0, 0, 0, 0)) := by decide +kernel
theorem f_270_70 : rfI 270 70 = some (.if_icmp .eq 16, (0, 0, 0, 0)) := by decide +kernel
theorem f_270_73 : rfI 270 73 = some (.iload 7, (0, 0, 0, 0)) := by decide +kernel
theorem f_270_75 : rfI 270 75 = some (.iload_n 3, (0, 0, 0, 0)) := by decide +kernel
theorem f_270_76 : rfI 270 76 = some (.if_icmp .gt 10, (0, 0, 0, 0)) := by decide +kernel
theorem f_270_79 : rfI 270 79 = some (.iload 6, (0, 0, 0, 0)) := by decide +kernel
theorem f_270_81 : rfI 270 81 = some (.istore 5, (0, 0, 0, 0)) := by decide +kernel
theorem f_270_83 : rfI 270 83 = some (.goto 9, (0, 0, 0, 0)) := by decide +kernel
theorem f_270_86 : rfI 270 86 = some (.iload 6, (0, 0, 0, 0)) := by decide +kernel
theorem f_270_88 : rfI 270 88 = some (.iconst 1, (0, 0, 0, 0)) := by decide +kernel
theorem f_270_89 : rfI 270 89 = some (.iadd, (0, 0, 0, 0)) := by decide +kernel
theorem f_270_90 : rfI 270 90 = some (.istore 4, (0, 0, 0, 0)) := by decide +kernel
theorem f_270_92 : rfI 270 92 = some (.goto (-51), (0, 0, 0, 0)) := by decide +kernel
theorem f_270_95 : rfI 270 95 = some (.iload 4, (0, 0, 0, 0)) := by decide +kernel
theorem f_270_97 : rfI 270 97 = some (.ireturn, (0, 0, 0, 0)) := by decide +kernel
theorem f_271_0 : rfI 271 0 = some (.iconst 0, (0, 0, 0, 0)) := by decide +kernel
theorem f_271_1 : rfI 271 1 = some (.istore_n 2, (0, 0, 0, 0)) := by decide +kernel
theorem f_271_2 : rfI 271 2 = some (.iload_n 2, (0, 0, 0, 0)) := by decide +kernel
theorem f_271_3 : rfI 271 3 = some (.iload_n 1, (0, 0, 0, 0)) := by decide +kernel
theorem f_271_4 : rfI 271 4 = some (.if_icmp .ge 31, (0, 0, 0, 0)) := by decide +kernel
theorem f_271_7 : rfI 271 7 = some (.aload_n 0, (0, 0, 0, 0)) := by decide +kernel
theorem f_271_8 : rfI 271 8 = some (.iload_n 2, (0, 0, 0, 0)) := by decide +kernel
theorem f_271_9 : rfI 271 9 = some (.invokevirtual 355, (201, 2, 11, 0)) := by decide +kernel
theorem f_271_12 : rfI 271 12 = some (.bipush 46, (0, 0, 0, 0)) := by decide +kernel
theorem f_271_14 : rfI 271 14 = some (.if_icmp .eq 15, (0, 0, 0, 0)) := by decide +kernel
theorem f_271_17 : rfI 271 17 = some (.aload_n 0, (0, 0, 0, 0)) := by decide +kernel
theorem f_271_18 : rfI 271 18 = some (.iload_n 2, (0, 0, 0, 0)) := by decide +kernel
theorem f_271_19 : rfI 271 19 = some (.invokevirtual 355, (201, 2, 11, 0)) := by decide +kernel
theorem f_271_22 : rfI 271 22 = some (.bipush 45, (0, 0, 0, 0)) := by decide +kernel
theorem f_271_24 : rfI 271 24 = some (.if_icmp .eq 5, (0, 0, 0, 0)) := by decide +kernel
theorem f_271_27 : rfI 271 27 = some (.iload_n 2, (0, 0, 0, 0)) := by decide +kernel
theorem f_271_28 : rfI 271 28 = some (.ireturn, (0, 0, 0, 0)) := by decide +kernel
theorem f_271_29 : rfI 271 29 = some (.iinc 2 1, (0, 0, 0, 0)) := by decide +kernel
theorem f_271_32 : rfI 271 32 = some (.goto (-30), (0, 0, 0, 0)) := by decide +kernel
theorem f_271_35 : rfI 271 35 = some (.iconst (-1), (0, 0, 0, 0)) := by decide +kernel
theorem f_271_36 : rfI 271 36 = some (.ireturn, (0, 0, 0, 0)) := by decide +kernel
theorem f_272_0 : rfI 272 0 = some (.iconst 0, (0, 0, 0, 0)) := by decide +kernel
theorem f_272_1 : rfI 272 1 = some (.istore_n 3, (0, 0, 0, 0)) := by decide +kernel
theorem f_272_2 : rfI 272 2 = some (.iconst 0, (0, 0, 0, 0)) := by decide +kernel
theorem f_272_3 : rfI 272 3 = some (.istore 4, (0, 0, 0, 0)) := by decide +kernel
theorem f_272_5 : rfI 272 5 = some (.iload 4, (0, 0, 0, 0)) := by decide +kernel
theorem f_272_7 : rfI 272 7 = some (.iload_n 2, (0, 0, 0, 0)) := by decide +kernel
theorem f_272_8 : rfI 272 8 = some (.if_icmp .ge 32, (0, 0, 0, 0)) := by decide +kernel
theorem f_272_11 : rfI 272 11 = some (.iconst 2, (0, 0, 0, 0)) := by decide +kernel
theorem f_272_12 : rfI 272 12 = some (.iload_n 3, (0, 0, 0, 0)) := by decide +kernel
theorem f_272_13 : rfI 272 13 = some (.imul, (0, 0, 0, 0)) := by decide +kernel
theorem f_272_14 : rfI 272 14 = some (.aload_n 0, (0, 0, 0, 0)) := by decide +kernel
theorem f_272_15 : rfI 272 15 = some (.iload_n 1, (0, 0, 0, 0)) := by decide +kernel
theorem f_272_16 : rfI 272 16 = some (.iload 4, (0, 0, 0, 0)) := by decide +kernel
theorem f_272_18 : rfI 272 18 = some (.iadd, (0, 0, 0, 0)) := by decide +kernel
theorem f_272_19 : rfI 272 19 = some (.invokevirtual 355, (201, 2, 11, 0)) := by decide +kernel
theorem f_272_22 : rfI 272 22 = some (.bipush 45, (0, 0, 0, 0)) := by decide +kernel
theorem f_272_24 : rfI 272 24 = some (.if_icmp .ne 7, (0, 0, 0, 0)) := by decide +kernel
theorem f_272_27 : rfI 272 27 = some (.iconst 1, (0, 0, 0, 0)) := by decide +kernel
theorem f_272_28 : rfI 272 28 = some (.goto 4, (0, 0, 0, 0)) := by decide +kernel
theorem f_272_31 : rfI 272 31 = some (.iconst 0, (0, 0, 0, 0)) := by decide +kernel
theorem f_272_32 : rfI 272 32 = some (.iadd, (0, 0, 0, 0)) := by decide +kernel
theorem f_272_33 : rfI 272 33 = some (.istore_n 3, (0, 0, 0, 0)) := by decide +kernel
theorem f_272_34 : rfI 272 34 = some (.iinc 4 1, (0, 0, 0, 0)) := by decide +kernel
theorem f_272_37 : rfI 272 37 = some (.goto (-32), (0, 0, 0, 0)) := by decide +kernel
theorem f_272_40 : rfI 272 40 = some (.iload_n 3, (0, 0, 0, 0)) := by decide +kernel
theorem f_272_41 : rfI 272 41 = some (.ireturn, (0, 0, 0, 0)) := by decide +kernel
theorem f_273_0 : rfI 273 0 = some (.iload_n 1, (0, 0, 0, 0)) := by decide +kernel
theorem f_273_1 : rfI 273 1 = some (.iconst 0, (0, 0, 0, 0)) := by decide +kernel
theorem f_273_2 : rfI 273 2 = some (.bipush 7, (0, 0, 0, 0)) := by decide +kernel
theorem f_273_4 : rfI 273 4 = some (.invokestatic 116, (181, 3, 10, 0)) := by decide +kernel
theorem f_273_7 : rfI 273 7 = some (.ifCond .eq 21, (0, 0, 0, 0)) := by decide +kernel
theorem f_273_10 : rfI 273 10 = some (.iload_n 2, (0, 0, 0, 0)) := by decide +kernel
theorem f_273_11 : rfI 273 11 = some (.iconst 1, (0, 0, 0, 0)) := by decide +kernel
theorem f_273_12 : rfI 273 12 = some (.bipush 6, (0, 0, 0, 0)) := by decide +kernel
theorem f_273_14 : rfI 273 14 = some (.invokestatic 116, (181, 3, 10, 0)) := by decide +kernel
theorem f_273_17 : rfI 273 17 = some (.ifCond .eq 11, (0, 0, 0, 0)) := by decide +kernel
theorem f_273_20 : rfI 273 20 = some (.iload_n 2, (0, 0, 0, 0)) := by decide +kernel
theorem f_273_21 : rfI 273 21 = some (.aload_n 0, (0, 0, 0, 0)) := by decide +kernel
theorem f_273_22 : rfI 273 22 = some (.getfield 148, (12, 4, 0, 0)) := by decide +kernel
theorem f_273_25 : rfI 273 25 = some (.if_icmp .le 5, (0, 0, 0, 0)) := by decide +kernel
theorem f_273_28 : rfI 273 28 = some (.iconst (-1), (0, 0, 0, 0)) := by decide +kernel
theorem f_273_29 : rfI 273 29 = some (.ireturn, (0, 0, 0, 0)) := by decide +kernel
theorem f_273_30 : rfI 273 30 = some (.aload_n 0, (0, 0, 0, 0)) := by decide +kernel
theorem f_273_31 : rfI 273 31 = some (.iconst 0, (0, 0, 0, 0)) := by decide +kernel
theorem f_273_32 : rfI 273 32 = some (.putfield 148, (12, 4, 0, 0)) := by decide +kernel
theorem f_273_35 : rfI 273 35 = some (.aload_n 0, (0, 0, 0, 0)) := by decide +kernel
theorem f_273_36 : rfI 273 36 = some (.iload_n 2, (0, 0, 0, 0)) := by decide +kernel
theorem f_273_37 : rfI 273 37 = some (.invokevirtual 364, (271, 2, 11, 0)) := by decide +kernel
theorem f_273_40 : rfI 273 40 = some (.iconst (-1), (0, 0, 0, 0)) := by decide +kernel
theorem f_273_41 : rfI 273 41 = some (.if_icmp .eq 13, (0, 0, 0, 0)) := by decide +kernel
theorem f_273_44 : rfI 273 44 = some (.sipush (-1000), (0, 0, 0, 0)) := by decide +kernel
theorem f_273_47 : rfI 273 47 = some (.aload_n 0, (0, 0, 0, 0)) := by decide +kernel
theorem f_273_48 : rfI 273 48 = some (.iload_n 2, (0, 0, 0, 0)) := by decide +kernel
theorem f_273_49 : rfI 273 49 = some (.invokevirtual 364, (271, 2, 11, 0)) := by decide +kernel
theorem f_273_52 : rfI 273 52 = some (.isub, (0, 0, 0, 0)) := by decide +kernel
theorem f_273_53 : rfI 273 53 = some (.ireturn, (0, 0, 0, 0)) := by decide +kernel
theorem f_273_54 : rfI 273 54 = some (.aload_n 0, (0, 0, 0, 0)) := by decide +kernel
theorem f_273_55 : rfI 273 55 = some (.getfield 95, (12, 42, 2, 0)) := by decide +kernel
theorem f_273_58 : rfI 273 58 = some (.iload_n 1, (0, 0, 0, 0)) := by decide +kernel
theorem f_273_59 : rfI 273 59 = some (.iload_n 2, (0, 0, 0, 0)) := by decide +kernel
theorem f_273_60 : rfI 273 60 = some (.iastore, (0, 0, 0, 0)) := by decide +kernel
theorem f_273_61 : rfI 273 61 = some (.aload_n 0, (0, 0, 0, 0)) := by decide +kernel
theorem f_273_62 : rfI 273 62 = some (.getfield 98, (12, 43, 2, 0)) := by decide +kernel
theorem f_273_65 : rfI 273 65 = some (.iload_n 1, (0, 0, 0, 0)) := by decide +kernel
theorem f_273_66 : rfI 273 66 = some (.aload_n 0, (0, 0, 0, 0)) := by decide +kernel
theorem f_273_67 : rfI 273 67 = some (.iconst 0, (0, 0, 0, 0)) := by decide +kernel
theorem f_273_68 : rfI 273 68 = some (.iload_n 2, (0, 0, 0, 0)) := by decide +kernel
theorem f_273_69 : rfI 273 69 = some (.invokevirtual 367, (272, 3, 11, 0)) := by decide +kernel
theorem f_273_72 : rfI 273 72 = some (.iastore, (0, 0, 0, 0)) := by decide +kernel
theorem f_273_73 : rfI 273 73 = some (.iload_n 2, (0, 0, 0, 0)) := by decide +kernel
theorem f_273_74 : rfI 273 74 = some (.ireturn, (0, 0, 0, 0)) := by decide +kernel
theorem f_274_0 : rfI 274 0 = some (.iload_n 1, (0, 0, 0, 0)) := by decide +kernel
theorem f_274_1 : rfI 274 1 = some (.istore_n 2, (0, 0, 0, 0)) := by decide +kernel
theorem f_274_2 : rfI 274 2 = some (.iload_n 2, (0, 0, 0, 0)) := by decide +kernel
theorem f_274_3 : rfI 274 3 = some (.ifCond .lt 172, (0, 0, 0, 0)) := by decide +kernel
theorem f_274_6 : rfI 274 6 = some (.aload_n 0, (0, 0, 0, 0)) := by decide +kernel
theorem f_274_7 : rfI 274 7 = some (.getfield 101, (12, 44, 2, 0)) := by decide +kernel
theorem f_274_10 : rfI 274 10 = some (.iload_n 2, (0, 0, 0, 0)) := by decide +kernel
theorem f_274_11 : rfI 274 11 = some (.iload_n 2, (0, 0, 0, 0)) := by decide +kernel
theorem f_274_12 : rfI 274 12 = some (.iload_n 1, (0, 0, 0, 0)) := by decide +kernel
theorem f_274_13 : rfI 274 13 = some (.if_icmp .ne 7, (0, 0, 0, 0)) := by decide +kernel
theorem f_274_16 : rfI 274 16 = some (.iconst 1, (0, 0, 0, 0)) := by decide +kernel
theorem f_274_17 : rfI 274 17 = some (.goto 4, (0, 0, 0, 0)) := by decide +kernel
theorem f_274_20 : rfI 274 20 = some (.iconst 0, (0, 0, 0, 0)) := by decide +kernel
theorem f_274_21 : rfI 274 21 = some (.iastore, (0, 0, 0, 0)) := by decide +kernel
theorem f_274_22 : rfI 274 22 = some (.aload_n 0, (0, 0, 0, 0)) := by decide +kernel
theorem f_274_23 : rfI 274 23 = some (.getfield 104, (12, 45, 2, 0)) := by decide +kernel
theorem f_274_26 : rfI 274 26 = some (.iload_n 2, (0, 0, 0, 0)) := by decide +kernel
theorem f_274_27 : rfI 274 27 = some (.iload_n 2, (0, 0, 0, 0)) := by decide +kernel
theorem f_274_28 : rfI 274 28 = some (.iload_n 1, (0, 0, 0, 0)) := by decide +kernel
theorem f_274_29 : rfI 274 29 = some (.if_icmp .ne 7, (0, 0, 0, 0)) := by decide +kernel
theorem f_274_32 : rfI 274 32 = some (.iconst 0, (0, 0, 0, 0)) := by decide +kernel
theorem f_274_33 : rfI 274 33 = some (.goto 6, (0, 0, 0, 0)) := by decide +kernel
theorem f_274_36 : rfI 274 36 = some (.ldc_w 345, (4, 4, 4, 100000000)) := by decide +kernel
theorem f_274_39 : rfI 274 39 = some (.iastore, (0, 0, 0, 0)) := by decide +kernel
theorem f_274_40 : rfI 274 40 = some (.iconst 0, (0, 0, 0, 0)) := by decide +kernel
theorem f_274_41 : rfI 274 41 = some (.istore_n 3, (0, 0, 0, 0)) := by decide +kernel
theorem f_274_42 : rfI 274 42 = some (.iload_n 3, (0, 0, 0, 0)) := by decide +kernel
theorem f_274_43 : rfI 274 43 = some (.bipush 8, (0, 0, 0, 0)) := by decide +kernel
theorem f_274_45 : rfI 274 45 = some (.if_icmp .ge 124, (0, 0, 0, 0)) := by decide +kernel
theorem f_274_48 : rfI 274 48 = some (.aload_n 0, (0, 0, 0, 0)) := by decide +kernel
theorem f_274_49 : rfI 274 49 = some (.getfield 95, (12, 42, 2, 0)) := by decide +kernel
theorem f_274_52 : rfI 274 52 = some (.iload_n 3, (0, 0, 0, 0)) := by decide +kernel
theorem f_274_53 : rfI 274 53 = some (.iaload, (0, 0, 0, 0)) := by decide +kernel
theorem f_274_54 : rfI 274 54 = some (.istore 4, (0, 0, 0, 0)) := by decide +kernel
theorem f_274_56 : rfI 274 56 = some (.iload 4, (0, 0, 0, 0)) := by decide +kernel
theorem f_274_58 : rfI 274 58 = some (.ifCond .eq 105, (0, 0, 0, 0)) := by decide +kernel
theorem f_274_61 : rfI 274 61 = some (.iload_n 2, (0, 0, 0, 0)) := by decide +kernel
theorem f_274_62 : rfI 274 62 = some (.iload 4, (0, 0, 0, 0)) := by decide +kernel
theorem f_274_64 : rfI 274 64 = some (.iadd, (0, 0, 0, 0)) := by decide +kernel
theorem f_274_65 : rfI 274 65 = some (.iload_n 1, (0, 0, 0, 0)) := by decide +kernel
theorem f_274_66 : rfI 274 66 = some (.if_icmp .gt 97, (0, 0, 0, 0)) := by decide +kernel
theorem f_274_69 : rfI 274 69 = some (.aload_n 0, (0, 0, 0, 0)) := by decide +kernel
theorem f_274_70 : rfI 274 70 = some (.iload_n 2, (0, 0, 0, 0)) := by decide +kernel
theorem f_274_71 : rfI 274 71 = some (.iload 4, (0, 0, 0, 0)) := by decide +kernel
theorem f_274_73 : rfI 274 73 = some (.invokevirtual 367, (272, 3, 11, 0)) := by decide +kernel
theorem f_274_76 : rfI 274 76 = some (.aload_n 0, (0, 0, 0, 0)) := by decide +kernel
theorem f_274_77 : rfI 274 77 = some (.getfield 98, (12, 43, 2, 0)) := by decide +kernel
theorem f_274_80 : rfI 274 80 = some (.iload_n 3, (0, 0, 0, 0)) := by decide +kernel
theorem f_274_81 : rfI 274 81 = some (.iaload, (0, 0, 0, 0)) := by decide +kernel
theorem f_274_82 : rfI 274 82 = some (.if_icmp .eq 6, (0, 0, 0, 0)) := by decide +kernel
theorem f_274_85 : rfI 274 85 = some (.goto 78, (0, 0, 0, 0)) := by decide +kernel
theorem f_274_88 : rfI 274 88 = some (.aload_n 0, (0, 0, 0, 0)) := by decide +kernel
theorem f_274_89 : rfI 274 89 = some (.getfield 101, (12, 44, 2, 0)) := by decide +kernel
theorem f_274_92 : rfI 274 92 = some (.iload_n 2, (0, 0, 0, 0)) := by decide +kernel
theorem f_274_93 : rfI 274 93 = some (.ldc_w 370, (4, 4, 4, 1000000000)) := by decide +kernel
theorem f_274_96 : rfI 274 96 = some (.aload_n 0, (0, 0, 0, 0)) := by decide +kernel
theorem f_274_97 : rfI 274 97 = some (.getfield 101, (12, 44, 2, 0)) := by decide +kernel
theorem f_274_100 : rfI 274 100 = some (.iload_n 2, (0, 0, 0, 0)) := by decide +kernel
theorem f_274_101 : rfI 274 101 = some (.iaload, (0, 0, 0, 0)) := by decide +kernel
theorem f_274_102 : rfI 274 102 = some (.aload_n 0, (0, 0, 0, 0)) := by decide +kernel
theorem f_274_103 : rfI 274 103 = some (.getfield 101, (12, 44, 2, 0)) := by decide +kernel
theorem f_274_106 : rfI 274 106 = some (.iload_n 2, (0, 0, 0, 0)) := by decide +kernel
theorem f_274_107 : rfI 274 107 = some (.iload 4, (0, 0, 0, 0)) := by decide +kernel
theorem f_274_109 : rfI 274 109 = some (.iadd, (0, 0, 0, 0)) := by decide +kernel
theorem f_274_110 : rfI 274 110 = some (.iaload, (0, 0, 0, 0)) := by decide +kernel
theorem f_274_111 : rfI 274 111 = some (.iadd, (0, 0, 0, 0)) := by decide +kernel
theorem f_274_112 : rfI 274 112 = some (.invokestatic 293, (182, 2, 10, 0)) := by decide +kernel
theorem f_274_115 : rfI 274 115 = some (.iastore, (0, 0, 0, 0)) := by decide +kernel
theorem f_274_116 : rfI 274 116 = some (.aload_n 0, (0, 0, 0, 0)) := by decide +kernel
theorem f_274_117 : rfI 274 117 = some (.getfield 104, (12, 45, 2, 0)) := by decide +kernel
theorem f_274_120 : rfI 274 120 = some (.iload_n 2, (0, 0, 0, 0)) := by decide +kernel
theorem f_274_121 : rfI 274 121 = some (.iload 4, (0, 0, 0, 0)) := by decide +kernel
theorem f_274_123 : rfI 274 123 = some (.iadd, (0, 0, 0, 0)) := by decide +kernel
theorem f_274_124 : rfI 274 124 = some (.iaload, (0, 0, 0, 0)) := by decide +kernel
theorem f_274_125 : rfI 274 125 = some (.iconst 1, (0, 0, 0, 0)) := by decide +kernel
theorem f_274_126 : rfI 274 126 = some (.iadd, (0, 0, 0, 0)) := by decide +kernel
theorem f_274_127 : rfI 274 127 = some (.aload_n 0, (0, 0, 0, 0)) := by decide +kernel
theorem f_274_128 : rfI 274 128 = some (.getfield 104, (12, 45, 2, 0)) := by decide +kernel
theorem f_274_131 : rfI 274 131 = some (.iload_n 2, (0, 0, 0, 0)) := by decide +kernel
theorem f_274_132 : rfI 274 132 = some (.iaload, (0, 0, 0, 0)) := by decide +kernel
theorem f_274_133 : rfI 274 133 = some (.if_icmp .lt 6, (0, 0, 0, 0)) := by decide +kernel
theorem f_274_136 : rfI 274 136 = some (.goto 27, (0, 0, 0, 0)) := by decide +kernel
theorem f_274_139 : rfI 274 139 = some (.aload_n 0, (0, 0, 0, 0)) := by decide +kernel
theorem f_274_140 : rfI 274 140 = some (.getfield 104, (12, 45, 2, 0)) := by decide +kernel
theorem f_274_143 : rfI 274 143 = some (.iload_n 2, (0, 0, 0, 0)) := by decide +kernel
theorem f_274_144 : rfI 274 144 = some (.aload_n 0, (0, 0, 0, 0)) := by decide +kernel
theorem f_274_145 : rfI 274 145 = some (.getfield 104, (12, 45, 2, 0)) := by decide +kernel
theorem f_274_148 : rfI 274 148 = some (.iload_n 2, (0, 0, 0, 0)) := by decide +kernel
theorem f_274_149 : rfI 274 149 = some (.iload 4, (0, 0, 0, 0)) := by decide +kernel
theorem f_274_151 : rfI 274 151 = some (.iadd, (0, 0, 0, 0)) := by decide +kernel
theorem f_274_152 : rfI 274 152 = some (.iaload, (0, 0, 0, 0)) := by decide +kernel
theorem f_274_153 : rfI 274 153 = some (.iconst 1, (0, 0, 0, 0)) := by decide +kernel
theorem f_274_154 : rfI 274 154 = some (.iadd, (0, 0, 0, 0)) := by decide +kernel
theorem f_274_155 : rfI 274 155 = some (.iastore, (0, 0, 0, 0)) := by decide +kernel
theorem f_274_156 : rfI 274 156 = some (.aload_n 0, (0, 0, 0, 0)) := by decide +kernel
theorem f_274_157 : rfI 274 157 = some (.getfield 107, (12, 46, 2, 0)) := by decide +kernel
theorem f_274_160 : rfI 274 160 = some (.iload_n 2, (0, 0, 0, 0)) := by decide +kernel
theorem f_274_161 : rfI 274 161 = some (.iload_n 3, (0, 0, 0, 0)) := by decide +kernel
theorem f_274_162 : rfI 274 162 = some (.iastore, (0, 0, 0, 0)) := by decide +kernel
theorem f_274_163 : rfI 274 163 = some (.iinc 3 1, (0, 0, 0, 0)) := by decide +kernel
theorem f_274_166 : rfI 274 166 = some (.goto (-124), (0, 0, 0, 0)) := by decide +kernel
theorem f_274_169 : rfI 274 169 = some (.iinc 2 (-1), (0, 0, 0, 0)) := by decide +kernel
theorem f_274_172 : rfI 274 172 = some (.goto (-170), (0, 0, 0, 0)) := by decide +kernel
theorem f_274_175 : rfI 274 175 = some (.return_, (0, 0, 0, 0)) := by decide +kernel
theorem f_275_0 : rfI 275 0 = some (.iload_n 1, (0, 0, 0, 0)) := by decide +kernel
theorem f_275_1 : rfI 275 1 = some (.iconst 1, (0, 0, 0, 0)) := by decide +kernel
theorem f_275_2 : rfI 275 2 = some (.bipush 60, (0, 0, 0, 0)) := by decide +kernel
theorem f_275_4 : rfI 275 4 = some (.invokestatic 116, (181, 3, 10, 0)) := by decide +kernel
theorem f_275_7 : rfI 275 7 = some (.ifCond .eq 32, (0, 0, 0, 0)) := by decide +kernel
theorem f_275_10 : rfI 275 10 = some (.iload_n 2, (0, 0, 0, 0)) := by decide +kernel
theorem f_275_11 : rfI 275 11 = some (.iconst 0, (0, 0, 0, 0)) := by decide +kernel
theorem f_275_12 : rfI 275 12 = some (.bipush 59, (0, 0, 0, 0)) := by decide +kernel
theorem f_275_14 : rfI 275 14 = some (.invokestatic 116, (181, 3, 10, 0)) := by decide +kernel
theorem f_275_17 : rfI 275 17 = some (.ifCond .ne 14, (0, 0, 0, 0)) := by decide +kernel
theorem f_275_20 : rfI 275 20 = some (.iload_n 2, (0, 0, 0, 0)) := by decide +kernel
theorem f_275_21 : rfI 275 21 = some (.bipush 100, (0, 0, 0, 0)) := by decide +kernel
theorem f_275_23 : rfI 275 23 = some (.bipush 101, (0, 0, 0, 0)) := by decide +kernel
theorem f_275_25 : rfI 275 25 = some (.invokestatic 116, (181, 3, 10, 0)) := by decide +kernel
theorem f_275_28 : rfI 275 28 = some (.ifCond .eq 11, (0, 0, 0, 0)) := by decide +kernel
theorem f_275_31 : rfI 275 31 = some (.iload_n 1, (0, 0, 0, 0)) := by decide +kernel
theorem f_275_32 : rfI 275 32 = some (.aload_n 0, (0, 0, 0, 0)) := by decide +kernel
theorem f_275_33 : rfI 275 33 = some (.getfield 148, (12, 4, 0, 0)) := by decide +kernel
theorem f_275_36 : rfI 275 36 = some (.if_icmp .le 5, (0, 0, 0, 0)) := by decide +kernel
theorem f_275_39 : rfI 275 39 = some (.iconst (-1), (0, 0, 0, 0)) := by decide +kernel
theorem f_275_40 : rfI 275 40 = some (.ireturn, (0, 0, 0, 0)) := by decide +kernel
theorem f_275_41 : rfI 275 41 = some (.aload_n 0, (0, 0, 0, 0)) := by decide +kernel
theorem f_275_42 : rfI 275 42 = some (.iconst 0, (0, 0, 0, 0)) := by decide +kernel
theorem f_275_43 : rfI 275 43 = some (.putfield 148, (12, 4, 0, 0)) := by decide +kernel
theorem f_275_46 : rfI 275 46 = some (.aload_n 0, (0, 0, 0, 0)) := by decide +kernel
theorem f_275_47 : rfI 275 47 = some (.iload_n 1, (0, 0, 0, 0)) := by decide +kernel
theorem f_275_48 : rfI 275 48 = some (.invokevirtual 364, (271, 2, 11, 0)) := by decide +kernel
theorem f_275_51 : rfI 275 51 = some (.iconst (-1), (0, 0, 0, 0)) := by decide +kernel
theorem f_275_52 : rfI 275 52 = some (.if_icmp .eq 13, (0, 0, 0, 0)) := by decide +kernel
theorem f_275_55 : rfI 275 55 = some (.sipush (-1000), (0, 0, 0, 0)) := by decide +kernel
theorem f_275_58 : rfI 275 58 = some (.aload_n 0, (0, 0, 0, 0)) := by decide +kernel
theorem f_275_59 : rfI 275 59 = some (.iload_n 1, (0, 0, 0, 0)) := by decide +kernel
theorem f_275_60 : rfI 275 60 = some (.invokevirtual 364, (271, 2, 11, 0)) := by decide +kernel
theorem f_275_63 : rfI 275 63 = some (.isub, (0, 0, 0, 0)) := by decide +kernel
theorem f_275_64 : rfI 275 64 = some (.ireturn, (0, 0, 0, 0)) := by decide +kernel
theorem f_275_65 : rfI 275 65 = some (.aload_n 0, (0, 0, 0, 0)) := by decide +kernel
theorem f_275_66 : rfI 275 66 = some (.iload_n 1, (0, 0, 0, 0)) := by decide +kernel
theorem f_275_67 : rfI 275 67 = some (.invokevirtual 371, (274, 2, 11, 0)) := by decide +kernel
theorem f_275_70 : rfI 275 70 = some (.iload_n 2, (0, 0, 0, 0)) := by decide +kernel
theorem f_275_71 : rfI 275 71 = some (.bipush 100, (0, 0, 0, 0)) := by decide +kernel
theorem f_275_73 : rfI 275 73 = some (.if_icmp .ne 10, (0, 0, 0, 0)) := by decide +kernel
theorem f_275_76 : rfI 275 76 = some (.aload_n 0, (0, 0, 0, 0)) := by decide +kernel
theorem f_275_77 : rfI 275 77 = some (.getfield 101, (12, 44, 2, 0)) := by decide +kernel
theorem f_275_80 : rfI 275 80 = some (.iconst 0, (0, 0, 0, 0)) := by decide +kernel
theorem f_275_81 : rfI 275 81 = some (.iaload, (0, 0, 0, 0)) := by decide +kernel
theorem f_275_82 : rfI 275 82 = some (.ireturn, (0, 0, 0, 0)) := by decide +kernel
theorem f_275_83 : rfI 275 83 = some (.aload_n 0, (0, 0, 0, 0)) := by decide +kernel
theorem f_275_84 : rfI 275 84 = some (.getfield 101, (12, 44, 2, 0)) := by decide +kernel
theorem f_275_87 : rfI 275 87 = some (.iconst 0, (0, 0, 0, 0)) := by decide +kernel
theorem f_275_88 : rfI 275 88 = some (.iaload, (0, 0, 0, 0)) := by decide +kernel
theorem f_275_89 : rfI 275 89 = some (.ifCond .ne 6, (0, 0, 0, 0)) := by decide +kernel
theorem f_275_92 : rfI 275 92 = some (.bipush (-2), (0, 0, 0, 0)) := by decide +kernel
theorem f_275_94 : rfI 275 94 = some (.ireturn, (0, 0, 0, 0)) := by decide +kernel
theorem f_275_95 : rfI 275 95 = some (.iload_n 2, (0, 0, 0, 0)) := by decide +kernel
theorem f_275_96 : rfI 275 96 = some (.bipush 101, (0, 0, 0, 0)) := by decide +kernel
theorem f_275_98 : rfI 275 98 = some (.if_icmp .ne 10, (0, 0, 0, 0)) := by decide +kernel
theorem f_275_101 : rfI 275 101 = some (.aload_n 0, (0, 0, 0, 0)) := by decide +kernel
theorem f_275_102 : rfI 275 102 = some (.getfield 104, (12, 45, 2, 0)) := by decide +kernel
theorem f_275_105 : rfI 275 105 = some (.iconst 0, (0, 0, 0, 0)) := by decide +kernel
theorem f_275_106 : rfI 275 106 = some (.iaload, (0, 0, 0, 0)) := by decide +kernel
theorem f_275_107 : rfI 275 107 = some (.ireturn, (0, 0, 0, 0)) := by decide +kernel
theorem f_275_108 : rfI 275 108 = some (.iload_n 2, (0, 0, 0, 0)) := by decide +kernel
theorem f_275_109 : rfI 275 109 = some (.aload_n 0, (0, 0, 0, 0)) := by decide +kernel
theorem f_275_110 : rfI 275 110 = some (.getfield 104, (12, 45, 2, 0)) := by decide +kernel
theorem f_275_113 : rfI 275 113 = some (.iconst 0, (0, 0, 0, 0)) := by decide +kernel
theorem f_275_114 : rfI 275 114 = some (.iaload, (0, 0, 0, 0)) := by decide +kernel
theorem f_275_115 : rfI 275 115 = some (.if_icmp .lt 6, (0, 0, 0, 0)) := by decide +kernel
theorem f_275_118 : rfI 275 118 = some (.bipush (-4), (0, 0, 0, 0)) := by decide +kernel
theorem f_275_120 : rfI 275 120 = some (.ireturn, (0, 0, 0, 0)) := by decide +kernel
theorem f_275_121 : rfI 275 121 = some (.iconst 0, (0, 0, 0, 0)) := by decide +kernel
theorem f_275_122 : rfI 275 122 = some (.istore_n 3, (0, 0, 0, 0)) := by decide +kernel
theorem f_275_123 : rfI 275 123 = some (.iconst 0, (0, 0, 0, 0)) := by decide +kernel
theorem f_275_124 : rfI 275 124 = some (.istore 4, (0, 0, 0, 0)) := by decide +kernel
theorem f_275_126 : rfI 275 126 = some (.iload 4, (0, 0, 0, 0)) := by decide +kernel
theorem f_275_128 : rfI 275 128 = some (.iload_n 2, (0, 0, 0, 0)) := by decide +kernel
theorem f_275_129 : rfI 275 129 = some (.if_icmp .ge 23, (0, 0, 0, 0)) := by decide +kernel
theorem f_275_132 : rfI 275 132 = some (.iload_n 3, (0, 0, 0, 0)) := by decide +kernel
theorem f_275_133 : rfI 275 133 = some (.aload_n 0, (0, 0, 0, 0)) := by decide +kernel
theorem f_275_134 : rfI 275 134 = some (.getfield 95, (12, 42, 2, 0)) := by decide +kernel
theorem f_275_137 : rfI 275 137 = some (.aload_n 0, (0, 0, 0, 0)) := by decide +kernel
theorem f_275_138 : rfI 275 138 = some (.getfield 107, (12, 46, 2, 0)) := by decide +kernel
theorem f_275_141 : rfI 275 141 = some (.iload_n 3, (0, 0, 0, 0)) := by decide +kernel
theorem f_275_142 : rfI 275 142 = some (.iaload, (0, 0, 0, 0)) := by decide +kernel
theorem f_275_143 : rfI 275 143 = some (.iaload, (0, 0, 0, 0)) := by decide +kernel
theorem f_275_144 : rfI 275 144 = some (.iadd, (0, 0, 0, 0)) := by decide +kernel
theorem f_275_145 : rfI 275 145 = some (.istore_n 3, (0, 0, 0, 0)) := by decide +kernel
theorem f_275_146 : rfI 275 146 = some (.iinc 4 1, (0, 0, 0, 0)) := by decide +kernel
theorem f_275_149 : rfI 275 149 = some (.goto (-23), (0, 0, 0, 0)) := by decide +kernel
theorem f_275_152 : rfI 275 152 = some (.aload_n 0, (0, 0, 0, 0)) := by decide +kernel
theorem f_275_153 : rfI 275 153 = some (.getfield 107, (12, 46, 2, 0)) := by decide +kernel
theorem f_275_156 : rfI 275 156 = some (.iload_n 3, (0, 0, 0, 0)) := by decide +kernel
theorem f_275_157 : rfI 275 157 = some (.iaload, (0, 0, 0, 0)) := by decide +kernel
theorem f_275_158 : rfI 275 158 = some (.ireturn, (0, 0, 0, 0)) := by decide +kernel
theorem f_276_0 : rfI 276 0 = some (.aload_n 0, (0, 0, 0, 0)) := by decide +kernel
theorem f_276_1 : rfI 276 1 = some (.getfield 95, (12, 42, 2, 0)) := by decide +kernel
theorem f_276_4 : rfI 276 4 = some (.iload_n 1, (0, 0, 0, 0)) := by decide +kernel
theorem f_276_5 : rfI 276 5 = some (.iaload, (0, 0, 0, 0)) := by decide +kernel
theorem f_276_6 : rfI 276 6 = some (.aload_n 0, (0, 0, 0, 0)) := by decide +kernel
theorem f_276_7 : rfI 276 7 = some (.getfield 95, (12, 42, 2, 0)) := by decide +kernel
theorem f_276_10 : rfI 276 10 = some (.iload_n 2, (0, 0, 0, 0)) := by decide +kernel
theorem f_276_11 : rfI 276 11 = some (.iaload, (0, 0, 0, 0)) := by decide +kernel
theorem f_276_12 : rfI 276 12 = some (.if_icmp .lt 36, (0, 0, 0, 0)) := by decide +kernel
theorem f_276_15 : rfI 276 15 = some (.aload_n 0, (0, 0, 0, 0)) := by decide +kernel
theorem f_276_16 : rfI 276 16 = some (.getfield 98, (12, 43, 2, 0)) := by decide +kernel
theorem f_276_19 : rfI 276 19 = some (.iload_n 1, (0, 0, 0, 0)) := by decide +kernel
theorem f_276_20 : rfI 276 20 = some (.iaload, (0, 0, 0, 0)) := by decide +kernel
theorem f_276_21 : rfI 276 21 = some (.aload_n 0, (0, 0, 0, 0)) := by decide +kernel
theorem f_276_22 : rfI 276 22 = some (.getfield 95, (12, 42, 2, 0)) := by decide +kernel
theorem f_276_25 : rfI 276 25 = some (.iload_n 1, (0, 0, 0, 0)) := by decide +kernel
theorem f_276_26 : rfI 276 26 = some (.iaload, (0, 0, 0, 0)) := by decide +kernel
theorem f_276_27 : rfI 276 27 = some (.aload_n 0, (0, 0, 0, 0)) := by decide +kernel
theorem f_276_28 : rfI 276 28 = some (.getfield 95, (12, 42, 2, 0)) := by decide +kernel
theorem f_276_31 : rfI 276 31 = some (.iload_n 2, (0, 0, 0, 0)) := by decide +kernel
theorem f_276_32 : rfI 276 32 = some (.iaload, (0, 0, 0, 0)) := by decide +kernel
theorem f_276_33 : rfI 276 33 = some (.isub, (0, 0, 0, 0)) := by decide +kernel
theorem f_276_34 : rfI 276 34 = some (.ishr, (0, 0, 0, 0)) := by decide +kernel
theorem f_276_35 : rfI 276 35 = some (.aload_n 0, (0, 0, 0, 0)) := by decide +kernel
theorem f_276_36 : rfI 276 36 = some (.getfield 98, (12, 43, 2, 0)) := by decide +kernel
theorem f_276_39 : rfI 276 39 = some (.iload_n 2, (0, 0, 0, 0)) := by decide +kernel
theorem f_276_40 : rfI 276 40 = some (.iaload, (0, 0, 0, 0)) := by decide +kernel
theorem f_276_41 : rfI 276 41 = some (.if_icmp .ne 7, (0, 0, 0, 0)) := by decide +kernel
theorem f_276_44 : rfI 276 44 = some (.iconst 1, (0, 0, 0, 0)) := by decide +kernel
theorem f_276_45 : rfI 276 45 = some (.goto 4, (0, 0, 0, 0)) := by decide +kernel
theorem f_276_48 : rfI 276 48 = some (.iconst 0, (0, 0, 0, 0)) := by decide +kernel
theorem f_276_49 : rfI 276 49 = some (.ireturn, (0, 0, 0, 0)) := by decide +kernel
theorem f_277_0 : rfI 277 0 = some (.iconst 0, (0, 0, 0, 0)) := by decide +kernel
theorem f_277_1 : rfI 277 1 = some (.istore_n 1, (0, 0, 0, 0)) := by decide +kernel
theorem f_277_2 : rfI 277 2 = some (.iload_n 1, (0, 0, 0, 0)) := by decide +kernel
theorem f_277_3 : rfI 277 3 = some (.bipush 8, (0, 0, 0, 0)) := by decide +kernel
theorem f_277_5 : rfI 277 5 = some (.if_icmp .ge 57, (0, 0, 0, 0)) := by decide +kernel
theorem f_277_8 : rfI 277 8 = some (.iconst 0, (0, 0, 0, 0)) := by decide +kernel
theorem f_277_9 : rfI 277 9 = some (.istore_n 2, (0, 0, 0, 0)) := by decide +kernel
theorem f_277_10 : rfI 277 10 = some (.iload_n 2, (0, 0, 0, 0)) := by decide +kernel
theorem f_277_11 : rfI 277 11 = some (.bipush 8, (0, 0, 0, 0)) := by decide +kernel
theorem f_277_13 : rfI 277 13 = some (.if_icmp .ge 43, (0, 0, 0, 0)) := by decide +kernel
theorem f_277_16 : rfI 277 16 = some (.iload_n 1, (0, 0, 0, 0)) := by decide +kernel
theorem f_277_17 : rfI 277 17 = some (.iload_n 2, (0, 0, 0, 0)) := by decide +kernel
theorem f_277_18 : rfI 277 18 = some (.if_icmp .eq 32, (0, 0, 0, 0)) := by decide +kernel
theorem f_277_21 : rfI 277 21 = some (.aload_n 0, (0, 0, 0, 0)) := by decide +kernel
theorem f_277_22 : rfI 277 22 = some (.getfield 95, (12, 42, 2, 0)) := by decide +kernel
theorem f_277_25 : rfI 277 25 = some (.iload_n 1, (0, 0, 0, 0)) := by decide +kernel
theorem f_277_26 : rfI 277 26 = some (.iaload, (0, 0, 0, 0)) := by decide +kernel
theorem f_277_27 : rfI 277 27 = some (.ifCond .le 23, (0, 0, 0, 0)) := by decide +kernel
theorem f_277_30 : rfI 277 30 = some (.aload_n 0, (0, 0, 0, 0)) := by decide +kernel
theorem f_277_31 : rfI 277 31 = some (.getfield 95, (12, 42, 2, 0)) := by decide +kernel
theorem f_277_34 : rfI 277 34 = some (.iload_n 2, (0, 0, 0, 0)) := by decide +kernel
theorem f_277_35 : rfI 277 35 = some (.iaload, (0, 0, 0, 0)) := by decide +kernel
theorem f_277_36 : rfI 277 36 = some (.ifCond .le 14, (0, 0, 0, 0)) := by decide +kernel
theorem f_277_39 : rfI 277 39 = some (.aload_n 0, (0, 0, 0, 0)) := by decide +kernel
theorem f_277_40 : rfI 277 40 = some (.iload_n 1, (0, 0, 0, 0)) := by decide +kernel
theorem f_277_41 : rfI 277 41 = some (.iload_n 2, (0, 0, 0, 0)) := by decide +kernel
theorem f_277_42 : rfI 277 42 = some (.invokevirtual 374, (276, 3, 11, 0)) := by decide +kernel
theorem f_277_45 : rfI 277 45 = some (.ifCond .eq 5, (0, 0, 0, 0)) := by decide +kernel
theorem f_277_48 : rfI 277 48 = some (.iconst 0, (0, 0, 0, 0)) := by decide +kernel
theorem f_277_49 : rfI 277 49 = some (.ireturn, (0, 0, 0, 0)) := by decide +kernel
theorem f_277_50 : rfI 277 50 = some (.iinc 2 1, (0, 0, 0, 0)) := by decide +kernel
theorem f_277_53 : rfI 277 53 = some (.goto (-43), (0, 0, 0, 0)) := by decide +kernel
theorem f_277_56 : rfI 277 56 = some (.iinc 1 1, (0, 0, 0, 0)) := by decide +kernel
theorem f_277_59 : rfI 277 59 = some (.goto (-57), (0, 0, 0, 0)) := by decide +kernel
theorem f_277_62 : rfI 277 62 = some (.iconst 1, (0, 0, 0, 0)) := by decide +kernel
theorem f_277_63 : rfI 277 63 = some (.ireturn, (0, 0, 0, 0)) := by decide +kernel
theorem f_278_0 : rfI 278 0 = some (.iconst (-1), (0, 0, 0, 0)) := by decide +kernel
theorem f_278_1 : rfI 278 1 = some (.istore_n 3, (0, 0, 0, 0)) := by decide +kernel
theorem f_278_2 : rfI 278 2 = some (.iconst 0, (0, 0, 0, 0)) := by decide +kernel
theorem f_278_3 : rfI 278 3 = some (.istore 4, (0, 0, 0, 0)) := by decide +kernel
theorem f_278_5 : rfI 278 5 = some (.iload 4, (0, 0, 0, 0)) := by decide +kernel
theorem f_278_7 : rfI 278 7 = some (.iload_n 1, (0, 0, 0, 0)) := by decide +kernel
theorem f_278_8 : rfI 278 8 = some (.if_icmp .ge 39, (0, 0, 0, 0)) := by decide +kernel
theorem f_278_11 : rfI 278 11 = some (.iload 4, (0, 0, 0, 0)) := by decide +kernel
theorem f_278_13 : rfI 278 13 = some (.iload_n 2, (0, 0, 0, 0)) := by decide +kernel
theorem f_278_14 : rfI 278 14 = some (.if_icmp .eq 27, (0, 0, 0, 0)) := by decide +kernel
theorem f_278_17 : rfI 278 17 = some (.iload_n 3, (0, 0, 0, 0)) := by decide +kernel
theorem f_278_18 : rfI 278 18 = some (.iconst (-1), (0, 0, 0, 0)) := by decide +kernel
theorem f_278_19 : rfI 278 19 = some (.if_icmp .eq 19, (0, 0, 0, 0)) := by decide +kernel
theorem f_278_22 : rfI 278 22 = some (.aload_n 0, (0, 0, 0, 0)) := by decide +kernel
theorem f_278_23 : rfI 278 23 = some (.getfield 110, (12, 47, 2, 0)) := by decide +kernel
theorem f_278_26 : rfI 278 26 = some (.iload 4, (0, 0, 0, 0)) := by decide +kernel
theorem f_278_28 : rfI 278 28 = some (.iaload, (0, 0, 0, 0)) := by decide +kernel
theorem f_278_29 : rfI 278 29 = some (.aload_n 0, (0, 0, 0, 0)) := by decide +kernel
theorem f_278_30 : rfI 278 30 = some (.getfield 110, (12, 47, 2, 0)) := by decide +kernel
theorem f_278_33 : rfI 278 33 = some (.iload_n 3, (0, 0, 0, 0)) := by decide +kernel
theorem f_278_34 : rfI 278 34 = some (.iaload, (0, 0, 0, 0)) := by decide +kernel
theorem f_278_35 : rfI 278 35 = some (.if_icmp .ge 6, (0, 0, 0, 0)) := by decide +kernel
theorem f_278_38 : rfI 278 38 = some (.iload 4, (0, 0, 0, 0)) := by decide +kernel
theorem f_278_40 : rfI 278 40 = some (.istore_n 3, (0, 0, 0, 0)) := by decide +kernel
theorem f_278_41 : rfI 278 41 = some (.iinc 4 1, (0, 0, 0, 0)) := by decide +kernel
theorem f_278_44 : rfI 278 44 = some (.goto (-39), (0, 0, 0, 0)) := by decide +kernel
theorem f_278_47 : rfI 278 47 = some (.iload_n 3, (0, 0, 0, 0)) := by decide +kernel
theorem f_278_48 : rfI 278 48 = some (.ireturn, (0, 0, 0, 0)) := by decide +kernel
theorem f_279_0 : rfI 279 0 = some (.iload_n 1, (0, 0, 0, 0)) := by decide +kernel
theorem f_279_1 : rfI 279 1 = some (.iconst 2, (0, 0, 0, 0)) := by decide +kernel
theorem f_279_2 : rfI 279 2 = some (.bipush 8, (0, 0, 0, 0)) := by decide +kernel
theorem f_279_4 : rfI 279 4 = some (.invokestatic 116, (181, 3, 10, 0)) := by decide +kernel
theorem f_279_7 : rfI 279 7 = some (.ifCond .eq 11, (0, 0, 0, 0)) := by decide +kernel
theorem f_279_10 : rfI 279 10 = some (.iload_n 1, (0, 0, 0, 0)) := by decide +kernel
theorem f_279_11 : rfI 279 11 = some (.aload_n 0, (0, 0, 0, 0)) := by decide +kernel
theorem f_279_12 : rfI 279 12 = some (.getfield 148, (12, 4, 0, 0)) := by decide +kernel
theorem f_279_15 : rfI 279 15 = some (.if_icmp .le 5, (0, 0, 0, 0)) := by decide +kernel
theorem f_279_18 : rfI 279 18 = some (.iconst (-1), (0, 0, 0, 0)) := by decide +kernel
theorem f_279_19 : rfI 279 19 = some (.ireturn, (0, 0, 0, 0)) := by decide +kernel
theorem f_279_20 : rfI 279 20 = some (.aload_n 0, (0, 0, 0, 0)) := by decide +kernel
theorem f_279_21 : rfI 279 21 = some (.iconst 0, (0, 0, 0, 0)) := by decide +kernel
theorem f_279_22 : rfI 279 22 = some (.putfield 148, (12, 4, 0, 0)) := by decide +kernel
theorem f_279_25 : rfI 279 25 = some (.iconst 0, (0, 0, 0, 0)) := by decide +kernel
theorem f_279_26 : rfI 279 26 = some (.istore_n 2, (0, 0, 0, 0)) := by decide +kernel
theorem f_279_27 : rfI 279 27 = some (.iload_n 2, (0, 0, 0, 0)) := by decide +kernel
theorem f_279_28 : rfI 279 28 = some (.iload_n 1, (0, 0, 0, 0)) := by decide +kernel
theorem f_279_29 : rfI 279 29 = some (.if_icmp .ge 32, (0, 0, 0, 0)) := by decide +kernel
theorem f_279_32 : rfI 279 32 = some (.aload_n 0, (0, 0, 0, 0)) := by decide +kernel
theorem f_279_33 : rfI 279 33 = some (.getfield 110, (12, 47, 2, 0)) := by decide +kernel
theorem f_279_36 : rfI 279 36 = some (.iload_n 2, (0, 0, 0, 0)) := by decide +kernel
theorem f_279_37 : rfI 279 37 = some (.aload_n 0, (0, 0, 0, 0)) := by decide +kernel
theorem f_279_38 : rfI 279 38 = some (.iload_n 2, (0, 0, 0, 0)) := by decide +kernel
theorem f_279_39 : rfI 279 39 = some (.invokevirtual 355, (201, 2, 11, 0)) := by decide +kernel
theorem f_279_42 : rfI 279 42 = some (.iastore, (0, 0, 0, 0)) := by decide +kernel
theorem f_279_43 : rfI 279 43 = some (.aload_n 0, (0, 0, 0, 0)) := by decide +kernel
theorem f_279_44 : rfI 279 44 = some (.getfield 110, (12, 47, 2, 0)) := by decide +kernel
theorem f_279_47 : rfI 279 47 = some (.iload_n 2, (0, 0, 0, 0)) := by decide +kernel
theorem f_279_48 : rfI 279 48 = some (.iaload, (0, 0, 0, 0)) := by decide +kernel
theorem f_279_49 : rfI 279 49 = some (.ifCond .ne 6, (0, 0, 0, 0)) := by decide +kernel
theorem f_279_52 : rfI 279 52 = some (.bipush (-2), (0, 0, 0, 0)) := by decide +kernel
theorem f_279_54 : rfI 279 54 = some (.ireturn, (0, 0, 0, 0)) := by decide +kernel
theorem f_279_55 : rfI 279 55 = some (.iinc 2 1, (0, 0, 0, 0)) := by decide +kernel
theorem f_279_58 : rfI 279 58 = some (.goto (-31), (0, 0, 0, 0)) := by decide +kernel
theorem f_279_61 : rfI 279 61 = some (.iconst 0, (0, 0, 0, 0)) := by decide +kernel
theorem f_279_62 : rfI 279 62 = some (.istore_n 2, (0, 0, 0, 0)) := by decide +kernel
theorem f_279_63 : rfI 279 63 = some (.iload_n 1, (0, 0, 0, 0)) := by decide +kernel
theorem f_279_64 : rfI 279 64 = some (.istore_n 3, (0, 0, 0, 0)) := by decide +kernel
theorem f_279_65 : rfI 279 65 = some (.iload_n 3, (0, 0, 0, 0)) := by decide +kernel
theorem f_279_66 : rfI 279 66 = some (.iconst 1, (0, 0, 0, 0)) := by decide +kernel
theorem f_279_67 : rfI 279 67 = some (.if_icmp .le 82, (0, 0, 0, 0)) := by decide +kernel
theorem f_279_70 : rfI 279 70 = some (.aload_n 0, (0, 0, 0, 0)) := by decide +kernel
theorem f_279_71 : rfI 279 71 = some (.iload_n 3, (0, 0, 0, 0)) := by decide +kernel
theorem f_279_72 : rfI 279 72 = some (.iconst (-1), (0, 0, 0, 0)) := by decide +kernel
theorem f_279_73 : rfI 279 73 = some (.invokevirtual 377, (278, 3, 11, 0)) := by decide +kernel
theorem f_279_76 : rfI 279 76 = some (.istore 4, (0, 0, 0, 0)) := by decide +kernel
theorem f_279_78 : rfI 279 78 = some (.aload_n 0, (0, 0, 0, 0)) := by decide +kernel
theorem f_279_79 : rfI 279 79 = some (.iload_n 3, (0, 0, 0, 0)) := by decide +kernel
theorem f_279_80 : rfI 279 80 = some (.iload 4, (0, 0, 0, 0)) := by decide +kernel
theorem f_279_82 : rfI 279 82 = some (.invokevirtual 377, (278, 3, 11, 0)) := by decide +kernel
theorem f_279_85 : rfI 279 85 = some (.istore 5, (0, 0, 0, 0)) := by decide +kernel
theorem f_279_87 : rfI 279 87 = some (.aload_n 0, (0, 0, 0, 0)) := by decide +kernel
theorem f_279_88 : rfI 279 88 = some (.getfield 110, (12, 47, 2, 0)) := by decide +kernel
theorem f_279_91 : rfI 279 91 = some (.iload 4, (0, 0, 0, 0)) := by decide +kernel
theorem f_279_93 : rfI 279 93 = some (.iaload, (0, 0, 0, 0)) := by decide +kernel
theorem f_279_94 : rfI 279 94 = some (.aload_n 0, (0, 0, 0, 0)) := by decide +kernel
theorem f_279_95 : rfI 279 95 = some (.getfield 110, (12, 47, 2, 0)) := by decide +kernel
theorem f_279_98 : rfI 279 98 = some (.iload 5, (0, 0, 0, 0)) := by decide +kernel
theorem f_279_100 : rfI 279 100 = some (.iaload, (0, 0, 0, 0)) := by decide +kernel
theorem f_279_101 : rfI 279 101 = some (.iadd, (0, 0, 0, 0)) := by decide +kernel
theorem f_279_102 : rfI 279 102 = some (.istore 6, (0, 0, 0, 0)) := by decide +kernel
theorem f_279_104 : rfI 279 104 = some (.iload_n 2, (0, 0, 0, 0)) := by decide +kernel
theorem f_279_105 : rfI 279 105 = some (.iload 6, (0, 0, 0, 0)) := by decide +kernel
theorem f_279_107 : rfI 279 107 = some (.iadd, (0, 0, 0, 0)) := by decide +kernel
theorem f_279_108 : rfI 279 108 = some (.istore_n 2, (0, 0, 0, 0)) := by decide +kernel
theorem f_279_109 : rfI 279 109 = some (.aload_n 0, (0, 0, 0, 0)) := by decide +kernel
theorem f_279_110 : rfI 279 110 = some (.getfield 110, (12, 47, 2, 0)) := by decide +kernel
theorem f_279_113 : rfI 279 113 = some (.iload 4, (0, 0, 0, 0)) := by decide +kernel
theorem f_279_115 : rfI 279 115 = some (.iload 5, (0, 0, 0, 0)) := by decide +kernel
theorem f_279_117 : rfI 279 117 = some (.invokestatic 293, (182, 2, 10, 0)) := by decide +kernel
theorem f_279_120 : rfI 279 120 = some (.iload 6, (0, 0, 0, 0)) := by decide +kernel
theorem f_279_122 : rfI 279 122 = some (.iastore, (0, 0, 0, 0)) := by decide +kernel
theorem f_279_123 : rfI 279 123 = some (.aload_n 0, (0, 0, 0, 0)) := by decide +kernel
theorem f_279_124 : rfI 279 124 = some (.getfield 110, (12, 47, 2, 0)) := by decide +kernel
theorem f_279_127 : rfI 279 127 = some (.iload 4, (0, 0, 0, 0)) := by decide +kernel
theorem f_279_129 : rfI 279 129 = some (.iload 5, (0, 0, 0, 0)) := by decide +kernel
theorem f_279_131 : rfI 279 131 = some (.invokestatic 333, (183, 2, 10, 0)) := by decide +kernel
theorem f_279_134 : rfI 279 134 = some (.aload_n 0, (0, 0, 0, 0)) := by decide +kernel
theorem f_279_135 : rfI 279 135 = some (.getfield 110, (12, 47, 2, 0)) := by decide +kernel
theorem f_279_138 : rfI 279 138 = some (.iload_n 3, (0, 0, 0, 0)) := by decide +kernel
theorem f_279_139 : rfI 279 139 = some (.iconst 1, (0, 0, 0, 0)) := by decide +kernel
theorem f_279_140 : rfI 279 140 = some (.isub, (0, 0, 0, 0)) := by decide +kernel
theorem f_279_141 : rfI 279 141 = some (.iaload, (0, 0, 0, 0)) := by decide +kernel
theorem f_279_142 : rfI 279 142 = some (.iastore, (0, 0, 0, 0)) := by decide +kernel
theorem f_279_143 : rfI 279 143 = some (.iinc 3 (-1), (0, 0, 0, 0)) := by decide +kernel
theorem f_279_146 : rfI 279 146 = some (.goto (-81), (0, 0, 0, 0)) := by decide +kernel
theorem f_279_149 : rfI 279 149 = some (.iload_n 2, (0, 0, 0, 0)) := by decide +kernel
theorem f_279_150 : rfI 279 150 = some (.ireturn, (0, 0, 0, 0)) := by decide +kernel
theorem f_280_0 : rfI 280 0 = some (.iconst 0, (0, 0, 0, 0)) := by decide +kernel
theorem f_280_1 : rfI 280 1 = some (.istore_n 3, (0, 0, 0, 0)) := by decide +kernel
theorem f_280_2 : rfI 280 2 = some (.iload_n 1, (0, 0, 0, 0)) := by decide +kernel
theorem f_280_3 : rfI 280 3 = some (.istore 4, (0, 0, 0, 0)) := by decide +kernel
theorem f_280_5 : rfI 280 5 = some (.iload 4, (0, 0, 0, 0)) := by decide +kernel
theorem f_280_7 : rfI 280 7 = some (.iload_n 2, (0, 0, 0, 0)) := by decide +kernel
theorem f_280_8 : rfI 280 8 = some (.if_icmp .gt 18, (0, 0, 0, 0)) := by decide +kernel
theorem f_280_11 : rfI 280 11 = some (.iload_n 3, (0, 0, 0, 0)) := by decide +kernel
theorem f_280_12 : rfI 280 12 = some (.aload_n 0, (0, 0, 0, 0)) := by decide +kernel
theorem f_280_13 : rfI 280 13 = some (.iload 4, (0, 0, 0, 0)) := by decide +kernel
theorem f_280_15 : rfI 280 15 = some (.invokevirtual 355, (201, 2, 11, 0)) := by decide +kernel
theorem f_280_18 : rfI 280 18 = some (.iadd, (0, 0, 0, 0)) := by decide +kernel
theorem f_280_19 : rfI 280 19 = some (.istore_n 3, (0, 0, 0, 0)) := by decide +kernel
theorem f_280_20 : rfI 280 20 = some (.iinc 4 1, (0, 0, 0, 0)) := by decide +kernel
theorem f_280_23 : rfI 280 23 = some (.goto (-18), (0, 0, 0, 0)) := by decide +kernel
theorem f_280_26 : rfI 280 26 = some (.iload_n 3, (0, 0, 0, 0)) := by decide +kernel
theorem f_280_27 : rfI 280 27 = some (.ireturn, (0, 0, 0, 0)) := by decide +kernel
theorem f_281_0 : rfI 281 0 = some (.iload_n 1, (0, 0, 0, 0)) := by decide +kernel
theorem f_281_1 : rfI 281 1 = some (.iconst 2, (0, 0, 0, 0)) := by decide +kernel
theorem f_281_2 : rfI 281 2 = some (.bipush 8, (0, 0, 0, 0)) := by decide +kernel
theorem f_281_4 : rfI 281 4 = some (.invokestatic 116, (181, 3, 10, 0)) := by decide +kernel
theorem f_281_7 : rfI 281 7 = some (.ifCond .eq 11, (0, 0, 0, 0)) := by decide +kernel
theorem f_281_10 : rfI 281 10 = some (.iload_n 1, (0, 0, 0, 0)) := by decide +kernel
theorem f_281_11 : rfI 281 11 = some (.aload_n 0, (0, 0, 0, 0)) := by decide +kernel
theorem f_281_12 : rfI 281 12 = some (.getfield 148, (12, 4, 0, 0)) := by decide +kernel
theorem f_281_15 : rfI 281 15 = some (.if_icmp .le 5, (0, 0, 0, 0)) := by decide +kernel
theorem f_281_18 : rfI 281 18 = some (.iconst (-1), (0, 0, 0, 0)) := by decide +kernel
theorem f_281_19 : rfI 281 19 = some (.ireturn, (0, 0, 0, 0)) := by decide +kernel
theorem f_281_20 : rfI 281 20 = some (.aload_n 0, (0, 0, 0, 0)) := by decide +kernel
theorem f_281_21 : rfI 281 21 = some (.iconst 0, (0, 0, 0, 0)) := by decide +kernel
theorem f_281_22 : rfI 281 22 = some (.putfield 148, (12, 4, 0, 0)) := by decide +kernel
theorem f_281_25 : rfI 281 25 = some (.iconst 0, (0, 0, 0, 0)) := by decide +kernel
theorem f_281_26 : rfI 281 26 = some (.istore_n 2, (0, 0, 0, 0)) := by decide +kernel
theorem f_281_27 : rfI 281 27 = some (.iload_n 2, (0, 0, 0, 0)) := by decide +kernel
theorem f_281_28 : rfI 281 28 = some (.iload_n 1, (0, 0, 0, 0)) := by decide +kernel
theorem f_281_29 : rfI 281 29 = some (.if_icmp .ge 30, (0, 0, 0, 0)) := by decide +kernel
theorem f_281_32 : rfI 281 32 = some (.aload_n 0, (0, 0, 0, 0)) := by decide +kernel
theorem f_281_33 : rfI 281 33 = some (.iload_n 2, (0, 0, 0, 0)) := by decide +kernel
theorem f_281_34 : rfI 281 34 = some (.invokevirtual 355, (201, 2, 11, 0)) := by decide +kernel
theorem f_281_37 : rfI 281 37 = some (.ifCond .ne 6, (0, 0, 0, 0)) := by decide +kernel
theorem f_281_40 : rfI 281 40 = some (.bipush (-2), (0, 0, 0, 0)) := by decide +kernel
theorem f_281_42 : rfI 281 42 = some (.ireturn, (0, 0, 0, 0)) := by decide +kernel
theorem f_281_43 : rfI 281 43 = some (.aload_n 0, (0, 0, 0, 0)) := by decide +kernel
theorem f_281_44 : rfI 281 44 = some (.getfield 113, (12, 48, 2, 0)) := by decide +kernel
theorem f_281_47 : rfI 281 47 = some (.bipush 9, (0, 0, 0, 0)) := by decide +kernel
theorem f_281_49 : rfI 281 49 = some (.iload_n 2, (0, 0, 0, 0)) := by decide +kernel
theorem f_281_50 : rfI 281 50 = some (.imul, (0, 0, 0, 0)) := by decide +kernel
theorem f_281_51 : rfI 281 51 = some (.iconst 0, (0, 0, 0, 0)) := by decide +kernel
theorem f_281_52 : rfI 281 52 = some (.iastore, (0, 0, 0, 0)) := by decide +kernel
theorem f_281_53 : rfI 281 53 = some (.iinc 2 1, (0, 0, 0, 0)) := by decide +kernel
theorem f_281_56 : rfI 281 56 = some (.goto (-29), (0, 0, 0, 0)) := by decide +kernel
theorem f_281_59 : rfI 281 59 = some (.iconst 2, (0, 0, 0, 0)) := by decide +kernel
theorem f_281_60 : rfI 281 60 = some (.istore_n 2, (0, 0, 0, 0)) := by decide +kernel
theorem f_281_61 : rfI 281 61 = some (.iload_n 2, (0, 0, 0, 0)) := by decide +kernel
theorem f_281_62 : rfI 281 62 = some (.iload_n 1, (0, 0, 0, 0)) := by decide +kernel
theorem f_281_63 : rfI 281 63 = some (.if_icmp .gt 113, (0, 0, 0, 0)) := by decide +kernel
theorem f_281_66 : rfI 281 66 = some (.iconst 0, (0, 0, 0, 0)) := by decide +kernel
theorem f_281_67 : rfI 281 67 = some (.istore_n 3, (0, 0, 0, 0)) := by decide +kernel
theorem f_281_68 : rfI 281 68 = some (.iload_n 3, (0, 0, 0, 0)) := by decide +kernel
theorem f_281_69 : rfI 281 69 = some (.iload_n 2, (0, 0, 0, 0)) := by decide +kernel
theorem f_281_70 : rfI 281 70 = some (.iadd, (0, 0, 0, 0)) := by decide +kernel
theorem f_281_71 : rfI 281 71 = some (.iload_n 1, (0, 0, 0, 0)) := by decide +kernel
theorem f_281_72 : rfI 281 72 = some (.if_icmp .gt 98, (0, 0, 0, 0)) := by decide +kernel
theorem f_281_75 : rfI 281 75 = some (.iload_n 3, (0, 0, 0, 0)) := by decide +kernel
theorem f_281_76 : rfI 281 76 = some (.iload_n 2, (0, 0, 0, 0)) := by decide +kernel
theorem f_281_77 : rfI 281 77 = some (.iadd, (0, 0, 0, 0)) := by decide +kernel
theorem f_281_78 : rfI 281 78 = some (.iconst 1, (0, 0, 0, 0)) := by decide +kernel
theorem f_281_79 : rfI 281 79 = some (.isub, (0, 0, 0, 0)) := by decide +kernel
theorem f_281_80 : rfI 281 80 = some (.istore 4, (0, 0, 0, 0)) := by decide +kernel
theorem f_281_82 : rfI 281 82 = some (.ldc_w 345, (4, 4, 4, 100000000)) := by decide +kernel
theorem f_281_85 : rfI 281 85 = some (.istore 5, (0, 0, 0, 0)) := by decide +kernel
theorem f_281_87 : rfI 281 87 = some (.iload_n 3, (0, 0, 0, 0)) := by decide +kernel
theorem f_281_88 : rfI 281 88 = some (.istore 6, (0, 0, 0, 0)) := by decide +kernel
theorem f_281_90 : rfI 281 90 = some (.iload 6, (0, 0, 0, 0)) := by decide +kernel
theorem f_281_92 : rfI 281 92 = some (.iload 4, (0, 0, 0, 0)) := by decide +kernel
theorem f_281_94 : rfI 281 94 = some (.if_icmp .ge 48, (0, 0, 0, 0)) := by decide +kernel
theorem f_281_97 : rfI 281 97 = some (.aload_n 0, (0, 0, 0, 0)) := by decide +kernel
theorem f_281_98 : rfI 281 98 = some (.getfield 113, (12, 48, 2, 0)) := by decide +kernel
theorem f_281_101 : rfI 281 101 = some (.bipush 8, (0, 0, 0, 0)) := by decide +kernel
theorem f_281_103 : rfI 281 103 = some (.iload_n 3, (0, 0, 0, 0)) := by decide +kernel
theorem f_281_104 : rfI 281 104 = some (.imul, (0, 0, 0, 0)) := by decide +kernel
theorem f_281_105 : rfI 281 105 = some (.iload 6, (0, 0, 0, 0)) := by decide +kernel
theorem f_281_107 : rfI 281 107 = some (.iadd, (0, 0, 0, 0)) := by decide +kernel
theorem f_281_108 : rfI 281 108 = some (.iaload, (0, 0, 0, 0)) := by decide +kernel
theorem f_281_109 : rfI 281 109 = some (.aload_n 0, (0, 0, 0, 0)) := by decide +kernel
theorem f_281_110 : rfI 281 110 = some (.getfield 113, (12, 48, 2, 0)) := by decide +kernel
theorem f_281_113 : rfI 281 113 = some (.bipush 8, (0, 0, 0, 0)) := by decide +kernel
theorem f_281_115 : rfI 281 115 = some (.iload 6, (0, 0, 0, 0)) := by decide +kernel
theorem f_281_117 : rfI 281 117 = some (.iconst 1, (0, 0, 0, 0)) := by decide +kernel
theorem f_281_118 : rfI 281 118 = some (.iadd, (0, 0, 0, 0)) := by decide +kernel
theorem f_281_119 : rfI 281 119 = some (.imul, (0, 0, 0, 0)) := by decide +kernel
theorem f_281_120 : rfI 281 120 = some (.iload 4, (0, 0, 0, 0)) := by decide +kernel
theorem f_281_122 : rfI 281 122 = some (.iadd, (0, 0, 0, 0)) := by decide +kernel
theorem f_281_123 : rfI 281 123 = some (.iaload, (0, 0, 0, 0)) := by decide +kernel
theorem f_281_124 : rfI 281 124 = some (.iadd, (0, 0, 0, 0)) := by decide +kernel
theorem f_281_125 : rfI 281 125 = some (.istore 7, (0, 0, 0, 0)) := by decide +kernel
theorem f_281_127 : rfI 281 127 = some (.iload 5, (0, 0, 0, 0)) := by decide +kernel
theorem f_281_129 : rfI 281 129 = some (.iload 7, (0, 0, 0, 0)) := by decide +kernel
theorem f_281_131 : rfI 281 131 = some (.invokestatic 293, (182, 2, 10, 0)) := by decide +kernel
theorem f_281_134 : rfI 281 134 = some (.istore 5, (0, 0, 0, 0)) := by decide +kernel
theorem f_281_136 : rfI 281 136 = some (.iinc 6 1, (0, 0, 0, 0)) := by decide +kernel
theorem f_281_139 : rfI 281 139 = some (.goto (-49), (0, 0, 0, 0)) := by decide +kernel
theorem f_281_142 : rfI 281 142 = some (.aload_n 0, (0, 0, 0, 0)) := by decide +kernel
theorem f_281_143 : rfI 281 143 = some (.getfield 113, (12, 48, 2, 0)) := by decide +kernel
theorem f_281_146 : rfI 281 146 = some (.bipush 8, (0, 0, 0, 0)) := by decide +kernel
theorem f_281_148 : rfI 281 148 = some (.iload_n 3, (0, 0, 0, 0)) := by decide +kernel
theorem f_281_149 : rfI 281 149 = some (.imul, (0, 0, 0, 0)) := by decide +kernel
theorem f_281_150 : rfI 281 150 = some (.iload 4, (0, 0, 0, 0)) := by decide +kernel
theorem f_281_152 : rfI 281 152 = some (.iadd, (0, 0, 0, 0)) := by decide +kernel
theorem f_281_153 : rfI 281 153 = some (.iload 5, (0, 0, 0, 0)) := by decide +kernel
theorem f_281_155 : rfI 281 155 = some (.aload_n 0, (0, 0, 0, 0)) := by decide +kernel
theorem f_281_156 : rfI 281 156 = some (.iload_n 3, (0, 0, 0, 0)) := by decide +kernel
theorem f_281_157 : rfI 281 157 = some (.iload 4, (0, 0, 0, 0)) := by decide +kernel
theorem f_281_159 : rfI 281 159 = some (.invokevirtual 380, (280, 3, 11, 0)) := by decide +kernel
theorem f_281_162 : rfI 281 162 = some (.iadd, (0, 0, 0, 0)) := by decide +kernel
theorem f_281_163 : rfI 281 163 = some (.iastore, (0, 0, 0, 0)) := by decide +kernel
theorem f_281_164 : rfI 281 164 = some (.iinc 3 1, (0, 0, 0, 0)) := by decide +kernel
theorem f_281_167 : rfI 281 167 = some (.goto (-99), (0, 0, 0, 0)) := by decide +kernel
theorem f_281_170 : rfI 281 170 = some (.iinc 2 1, (0, 0, 0, 0)) := by decide +kernel
theorem f_281_173 : rfI 281 173 = some (.goto (-112), (0, 0, 0, 0)) := by decide +kernel
theorem f_281_176 : rfI 281 176 = some (.aload_n 0, (0, 0, 0, 0)) := by decide +kernel
theorem f_281_177 : rfI 281 177 = some (.getfield 113, (12, 48, 2, 0)) := by decide +kernel
theorem f_281_180 : rfI 281 180 = some (.iload_n 1, (0, 0, 0, 0)) := by decide +kernel
theorem f_281_181 : rfI 281 181 = some (.iconst 1, (0, 0, 0, 0)) := by decide +kernel
theorem f_281_182 : rfI 281 182 = some (.isub, (0, 0, 0, 0)) := by decide +kernel
theorem f_281_183 : rfI 281 183 = some (.iaload, (0, 0, 0, 0)) := by decide +kernel
theorem f_281_184 : rfI 281 184 = some (.ireturn, (0, 0, 0, 0)) := by decide +kernel
theorem f_282_0 : rfI 282 0 = some (.iload_n 1, (0, 0, 0, 0)) := by decide +kernel
theorem f_282_1 : rfI 282 1 = some (.iconst 0, (0, 0, 0, 0)) := by decide +kernel
theorem f_282_2 : rfI 282 2 = some (.ldc_w 383, (4, 4, 4, 65535)) := by decide +kernel
theorem f_282_5 : rfI 282 5 = some (.invokestatic 116, (181, 3, 10, 0)) := by decide +kernel
theorem f_282_8 : rfI 282 8 = some (.ifCond .ne 5, (0, 0, 0, 0)) := by decide +kernel
theorem f_282_11 : rfI 282 11 = some (.iconst 0, (0, 0, 0, 0)) := by decide +kernel
theorem f_282_12 : rfI 282 12 = some (.ireturn, (0, 0, 0, 0)) := by decide +kernel
theorem f_282_13 : rfI 282 13 = some (.aload_n 0, (0, 0, 0, 0)) := by decide +kernel
theorem f_282_14 : rfI 282 14 = some (.getfield 7, (12, 0, 2, 0)) := by decide +kernel
theorem f_282_17 : rfI 282 17 = some (.sipush 140, (0, 0, 0, 0)) := by decide +kernel
theorem f_282_20 : rfI 282 20 = some (.iload_n 1, (0, 0, 0, 0)) := by decide +kernel
theorem f_282_21 : rfI 282 21 = some (.iastore, (0, 0, 0, 0)) := by decide +kernel
theorem f_282_22 : rfI 282 22 = some (.iconst 1, (0, 0, 0, 0)) := by decide +kernel
theorem f_282_23 : rfI 282 23 = some (.ireturn, (0, 0, 0, 0)) := by decide +kernel
theorem f_283_0 : rfI 283 0 = some (.aload_n 0, (0, 0, 0, 0)) := by decide +kernel
theorem f_283_1 : rfI 283 1 = some (.iconst 1, (0, 0, 0, 0)) := by decide +kernel
theorem f_283_2 : rfI 283 2 = some (.putfield 384, (12, 49, 1, 0)) := by decide +kernel
theorem f_283_5 : rfI 283 5 = some (.aload_n 0, (0, 0, 0, 0)) := by decide +kernel
theorem f_283_6 : rfI 283 6 = some (.getfield 7, (12, 0, 2, 0)) := by decide +kernel
theorem f_283_9 : rfI 283 9 = some (.aload_n 0, (0, 0, 0, 0)) := by decide +kernel
theorem f_283_10 : rfI 283 10 = some (.getfield 16, (12, 2, 2, 0)) := by decide +kernel
theorem f_283_13 : rfI 283 13 = some (.invokestatic 270, (186, 2, 10, 0)) := by decide +kernel
theorem f_283_16 : rfI 283 16 = some (.aload_n 0, (0, 0, 0, 0)) := by decide +kernel
theorem f_283_17 : rfI 283 17 = some (.getfield 7, (12, 0, 2, 0)) := by decide +kernel
theorem f_283_20 : rfI 283 20 = some (.sipush 138, (0, 0, 0, 0)) := by decide +kernel
theorem f_283_23 : rfI 283 23 = some (.iaload, (0, 0, 0, 0)) := by decide +kernel
theorem f_283_24 : rfI 283 24 = some (.ireturn, (0, 0, 0, 0)) := by decide +kernel
theorem f_284_0 : rfI 284 0 = some (.aload_n 0, (0, 0, 0, 0)) := by decide +kernel
theorem f_284_1 : rfI 284 1 = some (.getfield 384, (12, 49, 1, 0)) := by decide +kernel
theorem f_284_4 : rfI 284 4 = some (.ifCond .ne 5, (0, 0, 0, 0)) := by decide +kernel
theorem f_284_7 : rfI 284 7 = some (.iconst 0, (0, 0, 0, 0)) := by decide +kernel
theorem f_284_8 : rfI 284 8 = some (.ireturn, (0, 0, 0, 0)) := by decide +kernel
theorem f_284_9 : rfI 284 9 = some (.aload_n 0, (0, 0, 0, 0)) := by decide +kernel
theorem f_284_10 : rfI 284 10 = some (.getfield 16, (12, 2, 2, 0)) := by decide +kernel
theorem f_284_13 : rfI 284 13 = some (.aload_n 0, (0, 0, 0, 0)) := by decide +kernel
theorem f_284_14 : rfI 284 14 = some (.getfield 7, (12, 0, 2, 0)) := by decide +kernel
theorem f_284_17 : rfI 284 17 = some (.invokestatic 270, (186, 2, 10, 0)) := by decide +kernel
theorem f_284_20 : rfI 284 20 = some (.iconst 1, (0, 0, 0, 0)) := by decide +kernel
theorem f_284_21 : rfI 284 21 = some (.ireturn, (0, 0, 0, 0)) := by decide +kernel
theorem f_285_0 : rfI 285 0 = some (.iload_n 1, (0, 0, 0, 0)) := by decide +kernel
theorem f_285_1 : rfI 285 1 = some (.iconst 0, (0, 0, 0, 0)) := by decide +kernel
theorem f_285_2 : rfI 285 2 = some (.bipush 8, (0, 0, 0, 0)) := by decide +kernel
theorem f_285_4 : rfI 285 4 = some (.invokestatic 116, (181, 3, 10, 0)) := by decide +kernel
theorem f_285_7 : rfI 285 7 = some (.ifCond .eq 11, (0, 0, 0, 0)) := by decide +kernel
theorem f_285_10 : rfI 285 10 = some (.iload_n 1, (0, 0, 0, 0)) := by decide +kernel
theorem f_285_11 : rfI 285 11 = some (.aload_n 0, (0, 0, 0, 0)) := by decide +kernel
theorem f_285_12 : rfI 285 12 = some (.getfield 148, (12, 4, 0, 0)) := by decide +kernel
theorem f_285_15 : rfI 285 15 = some (.if_icmp .le 6, (0, 0, 0, 0)) := by decide +kernel
theorem f_285_18 : rfI 285 18 = some (.bipush (-2), (0, 0, 0, 0)) := by decide +kernel
theorem f_285_20 : rfI 285 20 = some (.ireturn, (0, 0, 0, 0)) := by decide +kernel
theorem f_285_21 : rfI 285 21 = some (.aload_n 0, (0, 0, 0, 0)) := by decide +kernel
theorem f_285_22 : rfI 285 22 = some (.iconst 0, (0, 0, 0, 0)) := by decide +kernel
theorem f_285_23 : rfI 285 23 = some (.putfield 148, (12, 4, 0, 0)) := by decide +kernel
theorem f_285_26 : rfI 285 26 = some (.iconst 0, (0, 0, 0, 0)) := by decide +kernel
theorem f_285_27 : rfI 285 27 = some (.istore_n 2, (0, 0, 0, 0)) := by decide +kernel
theorem f_285_28 : rfI 285 28 = some (.iload_n 2, (0, 0, 0, 0)) := by decide +kernel
theorem f_285_29 : rfI 285 29 = some (.iload_n 1, (0, 0, 0, 0)) := by decide +kernel
theorem f_285_30 : rfI 285 30 = some (.if_icmp .ge 43, (0, 0, 0, 0)) := by decide +kernel
theorem f_285_33 : rfI 285 33 = some (.aload_n 0, (0, 0, 0, 0)) := by decide +kernel
theorem f_285_34 : rfI 285 34 = some (.iload_n 2, (0, 0, 0, 0)) := by decide +kernel
theorem f_285_35 : rfI 285 35 = some (.invokevirtual 355, (201, 2, 11, 0)) := by decide +kernel
theorem f_285_38 : rfI 285 38 = some (.aload_n 0, (0, 0, 0, 0)) := by decide +kernel
theorem f_285_39 : rfI 285 39 = some (.iload_n 2, (0, 0, 0, 0)) := by decide +kernel
theorem f_285_40 : rfI 285 40 = some (.invokevirtual 124, (187, 2, 11, 0)) := by decide +kernel
theorem f_285_43 : rfI 285 43 = some (.ifCond .eq 18, (0, 0, 0, 0)) := by decide +kernel
theorem f_285_46 : rfI 285 46 = some (.aload_n 0, (0, 0, 0, 0)) := by decide +kernel
theorem f_285_47 : rfI 285 47 = some (.getfield 7, (12, 0, 2, 0)) := by decide +kernel
theorem f_285_50 : rfI 285 50 = some (.iconst 0, (0, 0, 0, 0)) := by decide +kernel
theorem f_285_51 : rfI 285 51 = some (.iload_n 2, (0, 0, 0, 0)) := by decide +kernel
theorem f_285_52 : rfI 285 52 = some (.iadd, (0, 0, 0, 0)) := by decide +kernel
theorem f_285_53 : rfI 285 53 = some (.iaload, (0, 0, 0, 0)) := by decide +kernel
theorem f_285_54 : rfI 285 54 = some (.sipush 256, (0, 0, 0, 0)) := by decide +kernel
theorem f_285_57 : rfI 285 57 = some (.irem, (0, 0, 0, 0)) := by decide +kernel
theorem f_285_58 : rfI 285 58 = some (.goto 4, (0, 0, 0, 0)) := by decide +kernel
theorem f_285_61 : rfI 285 61 = some (.iconst 0, (0, 0, 0, 0)) := by decide +kernel
theorem f_285_62 : rfI 285 62 = some (.if_icmp .eq 5, (0, 0, 0, 0)) := by decide +kernel
theorem f_285_65 : rfI 285 65 = some (.iload_n 2, (0, 0, 0, 0)) := by decide +kernel
theorem f_285_66 : rfI 285 66 = some (.ireturn, (0, 0, 0, 0)) := by decide +kernel
theorem f_285_67 : rfI 285 67 = some (.iinc 2 1, (0, 0, 0, 0)) := by decide +kernel
theorem f_285_70 : rfI 285 70 = some (.goto (-42), (0, 0, 0, 0)) := by decide +kernel
theorem f_285_73 : rfI 285 73 = some (.iconst (-1), (0, 0, 0, 0)) := by decide +kernel
theorem f_285_74 : rfI 285 74 = some (.ireturn, (0, 0, 0, 0)) := by decide +kernel
theorem f_286_0 : rfI 286 0 = some (.iconst 0, (0, 0, 0, 0)) := by decide +kernel
theorem f_286_1 : rfI 286 1 = some (.istore_n 2, (0, 0, 0, 0)) := by decide +kernel
theorem f_286_2 : rfI 286 2 = some (.iload_n 1, (0, 0, 0, 0)) := by decide +kernel
theorem f_286_3 : rfI 286 3 = some (.tableswitch 155 0 8 #[49, 58, 67, 76, 96, 131, 136, 141, 150], (0, 0, 0, 0)) := by decide +kernel
theorem f_286_52 : rfI 286 52 = some (.aload_n 0, (0, 0, 0, 0)) := by decide +kernel
theorem f_286_53 : rfI 286 53 = some (.getfield 7, (12, 0, 2, 0)) := by decide +kernel
theorem f_286_56 : rfI 286 56 = some (.sipush 138, (0, 0, 0, 0)) := by decide +kernel
theorem f_286_59 : rfI 286 59 = some (.iaload, (0, 0, 0, 0)) := by decide +kernel
theorem f_286_60 : rfI 286 60 = some (.ireturn, (0, 0, 0, 0)) := by decide +kernel
theorem f_286_61 : rfI 286 61 = some (.aload_n 0, (0, 0, 0, 0)) := by decide +kernel
theorem f_286_62 : rfI 286 62 = some (.getfield 7, (12, 0, 2, 0)) := by decide +kernel
theorem f_286_65 : rfI 286 65 = some (.sipush 139, (0, 0, 0, 0)) := by decide +kernel
theorem f_286_68 : rfI 286 68 = some (.iaload, (0, 0, 0, 0)) := by decide +kernel
theorem f_286_69 : rfI 286 69 = some (.ireturn, (0, 0, 0, 0)) := by decide +kernel
theorem f_286_70 : rfI 286 70 = some (.aload_n 0, (0, 0, 0, 0)) := by decide +kernel
theorem f_286_71 : rfI 286 71 = some (.getfield 7, (12, 0, 2, 0)) := by decide +kernel
theorem f_286_74 : rfI 286 74 = some (.sipush 136, (0, 0, 0, 0)) := by decide +kernel
theorem f_286_77 : rfI 286 77 = some (.iaload, (0, 0, 0, 0)) := by decide +kernel
theorem f_286_78 : rfI 286 78 = some (.ireturn, (0, 0, 0, 0)) := by decide +kernel
theorem f_286_79 : rfI 286 79 = some (.aload_n 0, (0, 0, 0, 0)) := by decide +kernel
theorem f_286_80 : rfI 286 80 = some (.getfield 7, (12, 0, 2, 0)) := by decide +kernel
theorem f_286_83 : rfI 286 83 = some (.sipush 136, (0, 0, 0, 0)) := by decide +kernel
theorem f_286_86 : rfI 286 86 = some (.iaload, (0, 0, 0, 0)) := by decide +kernel
theorem f_286_87 : rfI 286 87 = some (.aload_n 0, (0, 0, 0, 0)) := by decide +kernel
theorem f_286_88 : rfI 286 88 = some (.getfield 7, (12, 0, 2, 0)) := by decide +kernel
theorem f_286_91 : rfI 286 91 = some (.sipush 137, (0, 0, 0, 0)) := by decide +kernel
theorem f_286_94 : rfI 286 94 = some (.iaload, (0, 0, 0, 0)) := by decide +kernel
theorem f_286_95 : rfI 286 95 = some (.iconst (-1), (0, 0, 0, 0)) := by decide +kernel
theorem f_286_96 : rfI 286 96 = some (.ixor, (0, 0, 0, 0)) := by decide +kernel
theorem f_286_97 : rfI 286 97 = some (.iand, (0, 0, 0, 0)) := by decide +kernel
theorem f_286_98 : rfI 286 98 = some (.ireturn, (0, 0, 0, 0)) := by decide +kernel
theorem f_286_99 : rfI 286 99 = some (.iconst 0, (0, 0, 0, 0)) := by decide +kernel
theorem f_286_100 : rfI 286 100 = some (.istore_n 3, (0, 0, 0, 0)) := by decide +kernel
theorem f_286_101 : rfI 286 101 = some (.iload_n 3, (0, 0, 0, 0)) := by decide +kernel
theorem f_286_102 : rfI 286 102 = some (.bipush 8, (0, 0, 0, 0)) := by decide +kernel
theorem f_286_104 : rfI 286 104 = some (.if_icmp .ge 28, (0, 0, 0, 0)) := by decide +kernel
theorem f_286_107 : rfI 286 107 = some (.iload_n 2, (0, 0, 0, 0)) := by decide +kernel
theorem f_286_108 : rfI 286 108 = some (.aload_n 0, (0, 0, 0, 0)) := by decide +kernel
theorem f_286_109 : rfI 286 109 = some (.getfield 95, (12, 42, 2, 0)) := by decide +kernel
theorem f_286_112 : rfI 286 112 = some (.iload_n 3, (0, 0, 0, 0)) := by decide +kernel
theorem f_286_113 : rfI 286 113 = some (.iaload, (0, 0, 0, 0)) := by decide +kernel
theorem f_286_114 : rfI 286 114 = some (.ifCond .le 9, (0, 0, 0, 0)) := by decide +kernel
theorem f_286_117 : rfI 286 117 = some (.iconst 1, (0, 0, 0, 0)) := by decide +kernel
theorem f_286_118 : rfI 286 118 = some (.iload_n 3, (0, 0, 0, 0)) := by decide +kernel
theorem f_286_119 : rfI 286 119 = some (.ishl, (0, 0, 0, 0)) := by decide +kernel
theorem f_286_120 : rfI 286 120 = some (.goto 4, (0, 0, 0, 0)) := by decide +kernel
theorem f_286_123 : rfI 286 123 = some (.iconst 0, (0, 0, 0, 0)) := by decide +kernel
theorem f_286_124 : rfI 286 124 = some (.ior, (0, 0, 0, 0)) := by decide +kernel
theorem f_286_125 : rfI 286 125 = some (.istore_n 2, (0, 0, 0, 0)) := by decide +kernel
theorem f_286_126 : rfI 286 126 = some (.iinc 3 1, (0, 0, 0, 0)) := by decide +kernel
theorem f_286_129 : rfI 286 129 = some (.goto (-28), (0, 0, 0, 0)) := by decide +kernel
theorem f_286_132 : rfI 286 132 = some (.iload_n 2, (0, 0, 0, 0)) := by decide +kernel
theorem f_286_133 : rfI 286 133 = some (.ireturn, (0, 0, 0, 0)) := by decide +kernel
theorem f_286_134 : rfI 286 134 = some (.aload_n 0, (0, 0, 0, 0)) := by decide +kernel
theorem f_286_135 : rfI 286 135 = some (.getfield 248, (12, 13, 0, 0)) := by decide +kernel
theorem f_286_138 : rfI 286 138 = some (.ireturn, (0, 0, 0, 0)) := by decide +kernel
theorem f_286_139 : rfI 286 139 = some (.aload_n 0, (0, 0, 0, 0)) := by decide +kernel
theorem f_286_140 : rfI 286 140 = some (.getfield 148, (12, 4, 0, 0)) := by decide +kernel
theorem f_286_143 : rfI 286 143 = some (.ireturn, (0, 0, 0, 0)) := by decide +kernel
theorem f_286_144 : rfI 286 144 = some (.aload_n 0, (0, 0, 0, 0)) := by decide +kernel
theorem f_286_145 : rfI 286 145 = some (.getfield 7, (12, 0, 2, 0)) := by decide +kernel
theorem f_286_148 : rfI 286 148 = some (.sipush 140, (0, 0, 0, 0)) := by decide +kernel
theorem f_286_151 : rfI 286 151 = some (.iaload, (0, 0, 0, 0)) := by decide +kernel
theorem f_286_152 : rfI 286 152 = some (.ireturn, (0, 0, 0, 0)) := by decide +kernel
theorem f_286_153 : rfI 286 153 = some (.aload_n 0, (0, 0, 0, 0)) := by decide +kernel
theorem f_286_154 : rfI 286 154 = some (.invokevirtual 317, (194, 1, 11, 0)) := by decide +kernel
theorem f_286_157 : rfI 286 157 = some (.ireturn, (0, 0, 0, 0)) := by decide +kernel
theorem f_286_158 : rfI 286 158 = some (.iload_n 1, (0, 0, 0, 0)) := by decide +kernel
theorem f_286_159 : rfI 286 159 = some (.bipush 10, (0, 0, 0, 0)) := by decide +kernel
theorem f_286_161 : rfI 286 161 = some (.bipush 17, (0, 0, 0, 0)) := by decide +kernel
theorem f_286_163 : rfI 286 163 = some (.invokestatic 116, (181, 3, 10, 0)) := by decide +kernel
theorem f_286_166 : rfI 286 166 = some (.ifCond .eq 27, (0, 0, 0, 0)) := by decide +kernel
theorem f_286_169 : rfI 286 169 = some (.aload_n 0, (0, 0, 0, 0)) := by decide +kernel
theorem f_286_170 : rfI 286 170 = some (.getfield 95, (12, 42, 2, 0)) := by decide +kernel
theorem f_286_173 : rfI 286 173 = some (.iload_n 1, (0, 0, 0, 0)) := by decide +kernel
theorem f_286_174 : rfI 286 174 = some (.bipush 10, (0, 0, 0, 0)) := by decide +kernel
theorem f_286_176 : rfI 286 176 = some (.isub, (0, 0, 0, 0)) := by decide +kernel
theorem f_286_177 : rfI 286 177 = some (.iaload, (0, 0, 0, 0)) := by decide +kernel
theorem f_286_178 : rfI 286 178 = some (.ifCond .le 15, (0, 0, 0, 0)) := by decide +kernel
theorem f_286_181 : rfI 286 181 = some (.aload_n 0, (0, 0, 0, 0)) := by decide +kernel
theorem f_286_182 : rfI 286 182 = some (.getfield 95, (12, 42, 2, 0)) := by decide +kernel
theorem f_286_185 : rfI 286 185 = some (.iload_n 1, (0, 0, 0, 0)) := by decide +kernel
theorem f_286_186 : rfI 286 186 = some (.bipush 10, (0, 0, 0, 0)) := by decide +kernel
theorem f_286_188 : rfI 286 188 = some (.isub, (0, 0, 0, 0)) := by decide +kernel
theorem f_286_189 : rfI 286 189 = some (.iaload, (0, 0, 0, 0)) := by decide +kernel
theorem f_286_190 : rfI 286 190 = some (.goto 4, (0, 0, 0, 0)) := by decide +kernel
theorem f_286_193 : rfI 286 193 = some (.iconst (-1), (0, 0, 0, 0)) := by decide +kernel
theorem f_286_194 : rfI 286 194 = some (.ireturn, (0, 0, 0, 0)) := by decide +kernel
theorem f_287_0 : rfI 287 0 = some (.iload_n 0, (0, 0, 0, 0)) := by decide +kernel
theorem f_287_1 : rfI 287 1 = some (.iload_n 0, (0, 0, 0, 0)) := by decide +kernel
theorem f_287_2 : rfI 287 2 = some (.iconst 1, (0, 0, 0, 0)) := by decide +kernel
theorem f_287_3 : rfI 287 3 = some (.iushr, (0, 0, 0, 0)) := by decide +kernel
theorem f_287_4 : rfI 287 4 = some (.ldc_w 265, (4, 4, 4, 1431655765)) := by decide +kernel
theorem f_287_7 : rfI 287 7 = some (.iand, (0, 0, 0, 0)) := by decide +kernel
theorem f_287_8 : rfI 287 8 = some (.isub, (0, 0, 0, 0)) := by decide +kernel
theorem f_287_9 : rfI 287 9 = some (.istore_n 0, (0, 0, 0, 0)) := by decide +kernel
theorem f_287_10 : rfI 287 10 = some (.iload_n 0, (0, 0, 0, 0)) := by decide +kernel
theorem f_287_11 : rfI 287 11 = some (.ldc_w 266, (4, 4, 4, 858993459)) := by decide +kernel
theorem f_287_14 : rfI 287 14 = some (.iand, (0, 0, 0, 0)) := by decide +kernel
theorem f_287_15 : rfI 287 15 = some (.iload_n 0, (0, 0, 0, 0)) := by decide +kernel
theorem f_287_16 : rfI 287 16 = some (.iconst 2, (0, 0, 0, 0)) := by decide +kernel
theorem f_287_17 : rfI 287 17 = some (.iushr, (0, 0, 0, 0)) := by decide +kernel
theorem f_287_18 : rfI 287 18 = some (.ldc_w 266, (4, 4, 4, 858993459)) := by decide +kernel
theorem f_287_21 : rfI 287 21 = some (.iand, (0, 0, 0, 0)) := by decide +kernel
theorem f_287_22 : rfI 287 22 = some (.iadd, (0, 0, 0, 0)) := by decide +kernel
theorem f_287_23 : rfI 287 23 = some (.istore_n 0, (0, 0, 0, 0)) := by decide +kernel
theorem f_287_24 : rfI 287 24 = some (.iload_n 0, (0, 0, 0, 0)) := by decide +kernel
theorem f_287_25 : rfI 287 25 = some (.iload_n 0, (0, 0, 0, 0)) := by decide +kernel
theorem f_287_26 : rfI 287 26 = some (.iconst 4, (0, 0, 0, 0)) := by decide +kernel
theorem f_287_27 : rfI 287 27 = some (.iushr, (0, 0, 0, 0)) := by decide +kernel
theorem f_287_28 : rfI 287 28 = some (.iadd, (0, 0, 0, 0)) := by decide +kernel
theorem f_287_29 : rfI 287 29 = some (.ldc_w 267, (4, 4, 4, 252645135)) := by decide +kernel
theorem f_287_32 : rfI 287 32 = some (.iand, (0, 0, 0, 0)) := by decide +kernel
theorem f_287_33 : rfI 287 33 = some (.istore_n 0, (0, 0, 0, 0)) := by decide +kernel
theorem f_287_34 : rfI 287 34 = some (.iload_n 0, (0, 0, 0, 0)) := by decide +kernel
theorem f_287_35 : rfI 287 35 = some (.iload_n 0, (0, 0, 0, 0)) := by decide +kernel
theorem f_287_36 : rfI 287 36 = some (.bipush 8, (0, 0, 0, 0)) := by decide +kernel
theorem f_287_38 : rfI 287 38 = some (.iushr, (0, 0, 0, 0)) := by decide +kernel
theorem f_287_39 : rfI 287 39 = some (.iadd, (0, 0, 0, 0)) := by decide +kernel
theorem f_287_40 : rfI 287 40 = some (.istore_n 0, (0, 0, 0, 0)) := by decide +kernel
theorem f_287_41 : rfI 287 41 = some (.iload_n 0, (0, 0, 0, 0)) := by decide +kernel
theorem f_287_42 : rfI 287 42 = some (.iload_n 0, (0, 0, 0, 0)) := by decide +kernel
theorem f_287_43 : rfI 287 43 = some (.bipush 16, (0, 0, 0, 0)) := by decide +kernel
theorem f_287_45 : rfI 287 45 = some (.iushr, (0, 0, 0, 0)) := by decide +kernel
theorem f_287_46 : rfI 287 46 = some (.iadd, (0, 0, 0, 0)) := by decide +kernel
theorem f_287_47 : rfI 287 47 = some (.istore_n 0, (0, 0, 0, 0)) := by decide +kernel
theorem f_287_48 : rfI 287 48 = some (.iload_n 0, (0, 0, 0, 0)) := by decide +kernel
theorem f_287_49 : rfI 287 49 = some (.bipush 63, (0, 0, 0, 0)) := by decide +kernel
theorem f_287_51 : rfI 287 51 = some (.iand, (0, 0, 0, 0)) := by decide +kernel
theorem f_287_52 : rfI 287 52 = some (.ireturn, (0, 0, 0, 0)) := by decide +kernel
theorem f_290_18 : rfI 290 18 = some (.iload_n 3, (0, 0, 0, 0)) := by decide +kernel
theorem f_290_19 : rfI 290 19 = some (.aload_n 0, (0, 0, 0, 0)) := by decide +kernel
theorem f_290_20 : rfI 290 20 = some (.arraylength, (0, 0, 0, 0)) := by decide +kernel
theorem f_290_21 : rfI 290 21 = some (.bipush 6, (0, 0, 0, 0)) := by decide +kernel
theorem f_290_23 : rfI 290 23 = some (.isub, (0, 0, 0, 0)) := by decide +kernel
theorem f_290_24 : rfI 290 24 = some (.if_icmp .gt 1269, (0, 0, 0, 0)) := by decide +kernel
theorem f_290_27 : rfI 290 27 = some (.aload_n 0, (0, 0, 0, 0)) := by decide +kernel
theorem f_290_28 : rfI 290 28 = some (.iload_n 3, (0, 0, 0, 0)) := by decide +kernel
theorem f_290_29 : rfI 290 29 = some (.iaload, (0, 0, 0, 0)) := by decide +kernel
theorem f_290_30 : rfI 290 30 = some (.bipush 63, (0, 0, 0, 0)) := by decide +kernel
theorem f_290_32 : rfI 290 32 = some (.iand, (0, 0, 0, 0)) := by decide +kernel
theorem f_290_33 : rfI 290 33 = some (.tableswitch 1254 0 36 #[163, 196, 239, 282, 345, 368, 391, 414, 447, 480, 513, 546, 569, 592, 615, 648, 681, 704, 717, 740, 773, 816, 849, 882, 905, 948, 991, 1034, 1067, 1100, 1113, 1136, 1159, 1182, 1195, 1208, 1231], (0, 0, 0, 0)) := by decide +kernel
theorem f_290_196 : rfI 290 196 = some (.aload_n 1, (0, 0, 0, 0)) := by decide +kernel
theorem f_290_197 : rfI 290 197 = some (.aload_n 0, (0, 0, 0, 0)) := by decide +kernel
theorem f_290_198 : rfI 290 198 = some (.iload_n 3, (0, 0, 0, 0)) := by decide +kernel
theorem f_290_199 : rfI 290 199 = some (.iconst 1, (0, 0, 0, 0)) := by decide +kernel
theorem f_290_200 : rfI 290 200 = some (.iadd, (0, 0, 0, 0)) := by decide +kernel
theorem f_290_201 : rfI 290 201 = some (.iaload, (0, 0, 0, 0)) := by decide +kernel
theorem f_290_202 : rfI 290 202 = some (.aload_n 0, (0, 0, 0, 0)) := by decide +kernel
theorem f_290_203 : rfI 290 203 = some (.iload_n 3, (0, 0, 0, 0)) := by decide +kernel
theorem f_290_204 : rfI 290 204 = some (.iconst 2, (0, 0, 0, 0)) := by decide +kernel
theorem f_290_205 : rfI 290 205 = some (.iadd, (0, 0, 0, 0)) := by decide +kernel
theorem f_290_206 : rfI 290 206 = some (.iaload, (0, 0, 0, 0)) := by decide +kernel
theorem f_290_207 : rfI 290 207 = some (.invokevirtual 13, (133, 3, 11, 0)) := by decide +kernel
theorem f_290_210 : rfI 290 210 = some (.aload_n 2, (0, 0, 0, 0)) := by decide +kernel
theorem f_290_211 : rfI 290 211 = some (.aload_n 0, (0, 0, 0, 0)) := by decide +kernel
theorem f_290_212 : rfI 290 212 = some (.iload_n 3, (0, 0, 0, 0)) := by decide +kernel
theorem f_290_213 : rfI 290 213 = some (.iconst 1, (0, 0, 0, 0)) := by decide +kernel
theorem f_290_214 : rfI 290 214 = some (.iadd, (0, 0, 0, 0)) := by decide +kernel
theorem f_290_215 : rfI 290 215 = some (.iaload, (0, 0, 0, 0)) := by decide +kernel
theorem f_290_216 : rfI 290 216 = some (.aload_n 0, (0, 0, 0, 0)) := by decide +kernel
theorem f_290_217 : rfI 290 217 = some (.iload_n 3, (0, 0, 0, 0)) := by decide +kernel
theorem f_290_218 : rfI 290 218 = some (.iconst 2, (0, 0, 0, 0)) := by decide +kernel
theorem f_290_219 : rfI 290 219 = some (.iadd, (0, 0, 0, 0)) := by decide +kernel
theorem f_290_220 : rfI 290 220 = some (.iaload, (0, 0, 0, 0)) := by decide +kernel
theorem f_290_221 : rfI 290 221 = some (.invokevirtual 17, (196, 3, 11, 0)) := by decide +kernel
theorem f_290_224 : rfI 290 224 = some (.if_icmp .eq 1063, (0, 0, 0, 0)) := by decide +kernel
theorem f_290_227 : rfI 290 227 = some (.iconst 0, (0, 0, 0, 0)) := by decide +kernel
theorem f_290_228 : rfI 290 228 = some (.ireturn, (0, 0, 0, 0)) := by decide +kernel
theorem f_290_229 : rfI 290 229 = some (.aload_n 1, (0, 0, 0, 0)) := by decide +kernel
theorem f_290_230 : rfI 290 230 = some (.aload_n 0, (0, 0, 0, 0)) := by decide +kernel
theorem f_290_231 : rfI 290 231 = some (.iload_n 3, (0, 0, 0, 0)) := by decide +kernel
theorem f_290_232 : rfI 290 232 = some (.iconst 1, (0, 0, 0, 0)) := by decide +kernel
theorem f_290_233 : rfI 290 233 = some (.iadd, (0, 0, 0, 0)) := by decide +kernel
theorem f_290_234 : rfI 290 234 = some (.iaload, (0, 0, 0, 0)) := by decide +kernel
theorem f_290_235 : rfI 290 235 = some (.aload_n 0, (0, 0, 0, 0)) := by decide +kernel
theorem f_290_236 : rfI 290 236 = some (.iload_n 3, (0, 0, 0, 0)) := by decide +kernel
theorem f_290_237 : rfI 290 237 = some (.iconst 2, (0, 0, 0, 0)) := by decide +kernel
theorem f_290_238 : rfI 290 238 = some (.iadd, (0, 0, 0, 0)) := by decide +kernel
theorem f_290_239 : rfI 290 239 = some (.iaload, (0, 0, 0, 0)) := by decide +kernel
theorem f_290_240 : rfI 290 240 = some (.aload_n 0, (0, 0, 0, 0)) := by decide +kernel
theorem f_290_241 : rfI 290 241 = some (.iload_n 3, (0, 0, 0, 0)) := by decide +kernel
theorem f_290_242 : rfI 290 242 = some (.iconst 3, (0, 0, 0, 0)) := by decide +kernel
theorem f_290_243 : rfI 290 243 = some (.iadd, (0, 0, 0, 0)) := by decide +kernel
theorem f_290_244 : rfI 290 244 = some (.iaload, (0, 0, 0, 0)) := by decide +kernel
theorem f_290_245 : rfI 290 245 = some (.invokevirtual 18, (134, 4, 11, 0)) := by decide +kernel
theorem f_290_248 : rfI 290 248 = some (.aload_n 2, (0, 0, 0, 0)) := by decide +kernel
theorem f_290_249 : rfI 290 249 = some (.aload_n 0, (0, 0, 0, 0)) := by decide +kernel
theorem f_290_250 : rfI 290 250 = some (.iload_n 3, (0, 0, 0, 0)) := by decide +kernel
theorem f_290_251 : rfI 290 251 = some (.iconst 1, (0, 0, 0, 0)) := by decide +kernel
theorem f_290_252 : rfI 290 252 = some (.iadd, (0, 0, 0, 0)) := by decide +kernel
theorem f_290_253 : rfI 290 253 = some (.iaload, (0, 0, 0, 0)) := by decide +kernel
theorem f_290_254 : rfI 290 254 = some (.aload_n 0, (0, 0, 0, 0)) := by decide +kernel
theorem f_290_255 : rfI 290 255 = some (.iload_n 3, (0, 0, 0, 0)) := by decide +kernel
theorem f_290_256 : rfI 290 256 = some (.iconst 2, (0, 0, 0, 0)) := by decide +kernel
theorem f_290_257 : rfI 290 257 = some (.iadd, (0, 0, 0, 0)) := by decide +kernel
theorem f_290_258 : rfI 290 258 = some (.iaload, (0, 0, 0, 0)) := by decide +kernel
theorem f_290_259 : rfI 290 259 = some (.aload_n 0, (0, 0, 0, 0)) := by decide +kernel
theorem f_290_260 : rfI 290 260 = some (.iload_n 3, (0, 0, 0, 0)) := by decide +kernel
theorem f_290_261 : rfI 290 261 = some (.iconst 3, (0, 0, 0, 0)) := by decide +kernel
theorem f_290_262 : rfI 290 262 = some (.iadd, (0, 0, 0, 0)) := by decide +kernel
theorem f_290_263 : rfI 290 263 = some (.iaload, (0, 0, 0, 0)) := by decide +kernel
theorem f_290_264 : rfI 290 264 = some (.invokevirtual 22, (197, 4, 11, 0)) := by decide +kernel
theorem f_290_267 : rfI 290 267 = some (.if_icmp .eq 1020, (0, 0, 0, 0)) := by decide +kernel
theorem f_290_270 : rfI 290 270 = some (.iconst 0, (0, 0, 0, 0)) := by decide +kernel
theorem f_290_271 : rfI 290 271 = some (.ireturn, (0, 0, 0, 0)) := by decide +kernel
theorem f_290_272 : rfI 290 272 = some (.aload_n 1, (0, 0, 0, 0)) := by decide +kernel
theorem f_290_273 : rfI 290 273 = some (.aload_n 0, (0, 0, 0, 0)) := by decide +kernel
theorem f_290_274 : rfI 290 274 = some (.iload_n 3, (0, 0, 0, 0)) := by decide +kernel
theorem f_290_275 : rfI 290 275 = some (.iconst 1, (0, 0, 0, 0)) := by decide +kernel
theorem f_290_276 : rfI 290 276 = some (.iadd, (0, 0, 0, 0)) := by decide +kernel
theorem f_290_277 : rfI 290 277 = some (.iaload, (0, 0, 0, 0)) := by decide +kernel
theorem f_290_278 : rfI 290 278 = some (.aload_n 0, (0, 0, 0, 0)) := by decide +kernel
theorem f_290_279 : rfI 290 279 = some (.iload_n 3, (0, 0, 0, 0)) := by decide +kernel
theorem f_290_280 : rfI 290 280 = some (.iconst 2, (0, 0, 0, 0)) := by decide +kernel
theorem f_290_281 : rfI 290 281 = some (.iadd, (0, 0, 0, 0)) := by decide +kernel
theorem f_290_282 : rfI 290 282 = some (.iaload, (0, 0, 0, 0)) := by decide +kernel
theorem f_290_283 : rfI 290 283 = some (.aload_n 0, (0, 0, 0, 0)) := by decide +kernel
theorem f_290_284 : rfI 290 284 = some (.iload_n 3, (0, 0, 0, 0)) := by decide +kernel
theorem f_290_285 : rfI 290 285 = some (.iconst 3, (0, 0, 0, 0)) := by decide +kernel
theorem f_290_286 : rfI 290 286 = some (.iadd, (0, 0, 0, 0)) := by decide +kernel
theorem f_290_287 : rfI 290 287 = some (.iaload, (0, 0, 0, 0)) := by decide +kernel
theorem f_290_288 : rfI 290 288 = some (.invokevirtual 23, (135, 4, 11, 0)) := by decide +kernel
theorem f_290_291 : rfI 290 291 = some (.aload_n 2, (0, 0, 0, 0)) := by decide +kernel
theorem f_290_292 : rfI 290 292 = some (.aload_n 0, (0, 0, 0, 0)) := by decide +kernel
theorem f_290_293 : rfI 290 293 = some (.iload_n 3, (0, 0, 0, 0)) := by decide +kernel
theorem f_290_294 : rfI 290 294 = some (.iconst 1, (0, 0, 0, 0)) := by decide +kernel
theorem f_290_295 : rfI 290 295 = some (.iadd, (0, 0, 0, 0)) := by decide +kernel
theorem f_290_296 : rfI 290 296 = some (.iaload, (0, 0, 0, 0)) := by decide +kernel
theorem f_290_297 : rfI 290 297 = some (.aload_n 0, (0, 0, 0, 0)) := by decide +kernel
theorem f_290_298 : rfI 290 298 = some (.iload_n 3, (0, 0, 0, 0)) := by decide +kernel
theorem f_290_299 : rfI 290 299 = some (.iconst 2, (0, 0, 0, 0)) := by decide +kernel
theorem f_290_300 : rfI 290 300 = some (.iadd, (0, 0, 0, 0)) := by decide +kernel
theorem f_290_301 : rfI 290 301 = some (.iaload, (0, 0, 0, 0)) := by decide +kernel
theorem f_290_302 : rfI 290 302 = some (.aload_n 0, (0, 0, 0, 0)) := by decide +kernel
theorem f_290_303 : rfI 290 303 = some (.iload_n 3, (0, 0, 0, 0)) := by decide +kernel
theorem f_290_304 : rfI 290 304 = some (.iconst 3, (0, 0, 0, 0)) := by decide +kernel
theorem f_290_305 : rfI 290 305 = some (.iadd, (0, 0, 0, 0)) := by decide +kernel
theorem f_290_306 : rfI 290 306 = some (.iaload, (0, 0, 0, 0)) := by decide +kernel
theorem f_290_307 : rfI 290 307 = some (.invokevirtual 26, (198, 4, 11, 0)) := by decide +kernel
theorem f_290_310 : rfI 290 310 = some (.if_icmp .eq 977, (0, 0, 0, 0)) := by decide +kernel
theorem f_290_313 : rfI 290 313 = some (.iconst 0, (0, 0, 0, 0)) := by decide +kernel
theorem f_290_314 : rfI 290 314 = some (.ireturn, (0, 0, 0, 0)) := by decide +kernel
theorem f_290_315 : rfI 290 315 = some (.aload_n 1, (0, 0, 0, 0)) := by decide +kernel
theorem f_290_316 : rfI 290 316 = some (.aload_n 0, (0, 0, 0, 0)) := by decide +kernel
theorem f_290_317 : rfI 290 317 = some (.iload_n 3, (0, 0, 0, 0)) := by decide +kernel
theorem f_290_318 : rfI 290 318 = some (.iconst 1, (0, 0, 0, 0)) := by decide +kernel
theorem f_290_319 : rfI 290 319 = some (.iadd, (0, 0, 0, 0)) := by decide +kernel
theorem f_290_320 : rfI 290 320 = some (.iaload, (0, 0, 0, 0)) := by decide +kernel
theorem f_290_321 : rfI 290 321 = some (.aload_n 0, (0, 0, 0, 0)) := by decide +kernel
theorem f_290_322 : rfI 290 322 = some (.iload_n 3, (0, 0, 0, 0)) := by decide +kernel
theorem f_290_323 : rfI 290 323 = some (.iconst 2, (0, 0, 0, 0)) := by decide +kernel
theorem f_290_324 : rfI 290 324 = some (.iadd, (0, 0, 0, 0)) := by decide +kernel
theorem f_290_325 : rfI 290 325 = some (.iaload, (0, 0, 0, 0)) := by decide +kernel
theorem f_290_326 : rfI 290 326 = some (.aload_n 0, (0, 0, 0, 0)) := by decide +kernel
theorem f_290_327 : rfI 290 327 = some (.iload_n 3, (0, 0, 0, 0)) := by decide +kernel
theorem f_290_328 : rfI 290 328 = some (.iconst 3, (0, 0, 0, 0)) := by decide +kernel
theorem f_290_329 : rfI 290 329 = some (.iadd, (0, 0, 0, 0)) := by decide +kernel
theorem f_290_330 : rfI 290 330 = some (.iaload, (0, 0, 0, 0)) := by decide +kernel
theorem f_290_331 : rfI 290 331 = some (.aload_n 0, (0, 0, 0, 0)) := by decide +kernel
theorem f_290_332 : rfI 290 332 = some (.iload_n 3, (0, 0, 0, 0)) := by decide +kernel
theorem f_290_333 : rfI 290 333 = some (.iconst 4, (0, 0, 0, 0)) := by decide +kernel
theorem f_290_334 : rfI 290 334 = some (.iadd, (0, 0, 0, 0)) := by decide +kernel
theorem f_290_335 : rfI 290 335 = some (.iaload, (0, 0, 0, 0)) := by decide +kernel
theorem f_290_336 : rfI 290 336 = some (.aload_n 0, (0, 0, 0, 0)) := by decide +kernel
theorem f_290_337 : rfI 290 337 = some (.iload_n 3, (0, 0, 0, 0)) := by decide +kernel
theorem f_290_338 : rfI 290 338 = some (.iconst 5, (0, 0, 0, 0)) := by decide +kernel
theorem f_290_339 : rfI 290 339 = some (.iadd, (0, 0, 0, 0)) := by decide +kernel
theorem f_290_340 : rfI 290 340 = some (.iaload, (0, 0, 0, 0)) := by decide +kernel
theorem f_290_341 : rfI 290 341 = some (.invokevirtual 27, (136, 6, 11, 0)) := by decide +kernel
theorem f_290_344 : rfI 290 344 = some (.aload_n 2, (0, 0, 0, 0)) := by decide +kernel
theorem f_290_345 : rfI 290 345 = some (.aload_n 0, (0, 0, 0, 0)) := by decide +kernel
theorem f_290_346 : rfI 290 346 = some (.iload_n 3, (0, 0, 0, 0)) := by decide +kernel
theorem f_290_347 : rfI 290 347 = some (.iconst 1, (0, 0, 0, 0)) := by decide +kernel
theorem f_290_348 : rfI 290 348 = some (.iadd, (0, 0, 0, 0)) := by decide +kernel
theorem f_290_349 : rfI 290 349 = some (.iaload, (0, 0, 0, 0)) := by decide +kernel
theorem f_290_350 : rfI 290 350 = some (.aload_n 0, (0, 0, 0, 0)) := by decide +kernel
theorem f_290_351 : rfI 290 351 = some (.iload_n 3, (0, 0, 0, 0)) := by decide +kernel
theorem f_290_352 : rfI 290 352 = some (.iconst 2, (0, 0, 0, 0)) := by decide +kernel
theorem f_290_353 : rfI 290 353 = some (.iadd, (0, 0, 0, 0)) := by decide +kernel
theorem f_290_354 : rfI 290 354 = some (.iaload, (0, 0, 0, 0)) := by decide +kernel
theorem f_290_355 : rfI 290 355 = some (.aload_n 0, (0, 0, 0, 0)) := by decide +kernel
theorem f_290_356 : rfI 290 356 = some (.iload_n 3, (0, 0, 0, 0)) := by decide +kernel
theorem f_290_357 : rfI 290 357 = some (.iconst 3, (0, 0, 0, 0)) := by decide +kernel
theorem f_290_358 : rfI 290 358 = some (.iadd, (0, 0, 0, 0)) := by decide +kernel
theorem f_290_359 : rfI 290 359 = some (.iaload, (0, 0, 0, 0)) := by decide +kernel
theorem f_290_360 : rfI 290 360 = some (.aload_n 0, (0, 0, 0, 0)) := by decide +kernel
theorem f_290_361 : rfI 290 361 = some (.iload_n 3, (0, 0, 0, 0)) := by decide +kernel
theorem f_290_362 : rfI 290 362 = some (.iconst 4, (0, 0, 0, 0)) := by decide +kernel
theorem f_290_363 : rfI 290 363 = some (.iadd, (0, 0, 0, 0)) := by decide +kernel
theorem f_290_364 : rfI 290 364 = some (.iaload, (0, 0, 0, 0)) := by decide +kernel
theorem f_290_365 : rfI 290 365 = some (.aload_n 0, (0, 0, 0, 0)) := by decide +kernel
theorem f_290_366 : rfI 290 366 = some (.iload_n 3, (0, 0, 0, 0)) := by decide +kernel
theorem f_290_367 : rfI 290 367 = some (.iconst 5, (0, 0, 0, 0)) := by decide +kernel
theorem f_290_368 : rfI 290 368 = some (.iadd, (0, 0, 0, 0)) := by decide +kernel
theorem f_290_369 : rfI 290 369 = some (.iaload, (0, 0, 0, 0)) := by decide +kernel
theorem f_290_370 : rfI 290 370 = some (.invokevirtual 31, (200, 6, 11, 0)) := by decide +kernel
theorem f_290_373 : rfI 290 373 = some (.if_icmp .eq 914, (0, 0, 0, 0)) := by decide +kernel
theorem f_290_376 : rfI 290 376 = some (.iconst 0, (0, 0, 0, 0)) := by decide +kernel
theorem f_290_377 : rfI 290 377 = some (.ireturn, (0, 0, 0, 0)) := by decide +kernel
theorem f_290_378 : rfI 290 378 = some (.aload_n 1, (0, 0, 0, 0)) := by decide +kernel
theorem f_290_379 : rfI 290 379 = some (.aload_n 0, (0, 0, 0, 0)) := by decide +kernel
theorem f_290_380 : rfI 290 380 = some (.iload_n 3, (0, 0, 0, 0)) := by decide +kernel
theorem f_290_381 : rfI 290 381 = some (.iconst 1, (0, 0, 0, 0)) := by decide +kernel
theorem f_290_382 : rfI 290 382 = some (.iadd, (0, 0, 0, 0)) := by decide +kernel
theorem f_290_383 : rfI 290 383 = some (.iaload, (0, 0, 0, 0)) := by decide +kernel
theorem f_290_384 : rfI 290 384 = some (.invokevirtual 32, (137, 2, 11, 0)) := by decide +kernel
theorem f_290_387 : rfI 290 387 = some (.aload_n 2, (0, 0, 0, 0)) := by decide +kernel
theorem f_290_388 : rfI 290 388 = some (.aload_n 0, (0, 0, 0, 0)) := by decide +kernel
theorem f_290_389 : rfI 290 389 = some (.iload_n 3, (0, 0, 0, 0)) := by decide +kernel
theorem f_290_390 : rfI 290 390 = some (.iconst 1, (0, 0, 0, 0)) := by decide +kernel
theorem f_290_391 : rfI 290 391 = some (.iadd, (0, 0, 0, 0)) := by decide +kernel
theorem f_290_392 : rfI 290 392 = some (.iaload, (0, 0, 0, 0)) := by decide +kernel
theorem f_290_393 : rfI 290 393 = some (.invokevirtual 36, (223, 2, 11, 0)) := by decide +kernel
theorem f_290_396 : rfI 290 396 = some (.if_icmp .eq 891, (0, 0, 0, 0)) := by decide +kernel
theorem f_290_399 : rfI 290 399 = some (.iconst 0, (0, 0, 0, 0)) := by decide +kernel
theorem f_290_400 : rfI 290 400 = some (.ireturn, (0, 0, 0, 0)) := by decide +kernel
theorem f_290_401 : rfI 290 401 = some (.aload_n 1, (0, 0, 0, 0)) := by decide +kernel
theorem f_290_402 : rfI 290 402 = some (.aload_n 0, (0, 0, 0, 0)) := by decide +kernel
theorem f_290_403 : rfI 290 403 = some (.iload_n 3, (0, 0, 0, 0)) := by decide +kernel
theorem f_290_404 : rfI 290 404 = some (.iconst 1, (0, 0, 0, 0)) := by decide +kernel
theorem f_290_405 : rfI 290 405 = some (.iadd, (0, 0, 0, 0)) := by decide +kernel
theorem f_290_406 : rfI 290 406 = some (.iaload, (0, 0, 0, 0)) := by decide +kernel
theorem f_290_407 : rfI 290 407 = some (.invokevirtual 37, (138, 2, 11, 0)) := by decide +kernel
theorem f_290_410 : rfI 290 410 = some (.aload_n 2, (0, 0, 0, 0)) := by decide +kernel
theorem f_290_411 : rfI 290 411 = some (.aload_n 0, (0, 0, 0, 0)) := by decide +kernel
theorem f_290_412 : rfI 290 412 = some (.iload_n 3, (0, 0, 0, 0)) := by decide +kernel
theorem f_290_413 : rfI 290 413 = some (.iconst 1, (0, 0, 0, 0)) := by decide +kernel
theorem f_290_414 : rfI 290 414 = some (.iadd, (0, 0, 0, 0)) := by decide +kernel
theorem f_290_415 : rfI 290 415 = some (.iaload, (0, 0, 0, 0)) := by decide +kernel
theorem f_290_416 : rfI 290 416 = some (.invokevirtual 40, (233, 2, 11, 0)) := by decide +kernel
theorem f_290_419 : rfI 290 419 = some (.if_icmp .eq 868, (0, 0, 0, 0)) := by decide +kernel
theorem f_290_422 : rfI 290 422 = some (.iconst 0, (0, 0, 0, 0)) := by decide +kernel
theorem f_290_423 : rfI 290 423 = some (.ireturn, (0, 0, 0, 0)) := by decide +kernel
theorem f_290_424 : rfI 290 424 = some (.aload_n 1, (0, 0, 0, 0)) := by decide +kernel
theorem f_290_425 : rfI 290 425 = some (.aload_n 0, (0, 0, 0, 0)) := by decide +kernel
theorem f_290_426 : rfI 290 426 = some (.iload_n 3, (0, 0, 0, 0)) := by decide +kernel
theorem f_290_427 : rfI 290 427 = some (.iconst 1, (0, 0, 0, 0)) := by decide +kernel
theorem f_290_428 : rfI 290 428 = some (.iadd, (0, 0, 0, 0)) := by decide +kernel
theorem f_290_429 : rfI 290 429 = some (.iaload, (0, 0, 0, 0)) := by decide +kernel
theorem f_290_430 : rfI 290 430 = some (.invokevirtual 41, (139, 2, 11, 0)) := by decide +kernel
theorem f_290_433 : rfI 290 433 = some (.aload_n 2, (0, 0, 0, 0)) := by decide +kernel
theorem f_290_434 : rfI 290 434 = some (.aload_n 0, (0, 0, 0, 0)) := by decide +kernel
theorem f_290_435 : rfI 290 435 = some (.iload_n 3, (0, 0, 0, 0)) := by decide +kernel
theorem f_290_436 : rfI 290 436 = some (.iconst 1, (0, 0, 0, 0)) := by decide +kernel
theorem f_290_437 : rfI 290 437 = some (.iadd, (0, 0, 0, 0)) := by decide +kernel
theorem f_290_438 : rfI 290 438 = some (.iaload, (0, 0, 0, 0)) := by decide +kernel
theorem f_290_439 : rfI 290 439 = some (.invokevirtual 44, (240, 2, 11, 0)) := by decide +kernel
theorem f_290_442 : rfI 290 442 = some (.if_icmp .eq 845, (0, 0, 0, 0)) := by decide +kernel
theorem f_290_445 : rfI 290 445 = some (.iconst 0, (0, 0, 0, 0)) := by decide +kernel
theorem f_290_446 : rfI 290 446 = some (.ireturn, (0, 0, 0, 0)) := by decide +kernel
theorem f_290_447 : rfI 290 447 = some (.aload_n 1, (0, 0, 0, 0)) := by decide +kernel
theorem f_290_448 : rfI 290 448 = some (.aload_n 0, (0, 0, 0, 0)) := by decide +kernel
theorem f_290_449 : rfI 290 449 = some (.iload_n 3, (0, 0, 0, 0)) := by decide +kernel
theorem f_290_450 : rfI 290 450 = some (.iconst 1, (0, 0, 0, 0)) := by decide +kernel
theorem f_290_451 : rfI 290 451 = some (.iadd, (0, 0, 0, 0)) := by decide +kernel
theorem f_290_452 : rfI 290 452 = some (.iaload, (0, 0, 0, 0)) := by decide +kernel
theorem f_290_453 : rfI 290 453 = some (.aload_n 0, (0, 0, 0, 0)) := by decide +kernel
theorem f_290_454 : rfI 290 454 = some (.iload_n 3, (0, 0, 0, 0)) := by decide +kernel
theorem f_290_455 : rfI 290 455 = some (.iconst 2, (0, 0, 0, 0)) := by decide +kernel
theorem f_290_456 : rfI 290 456 = some (.iadd, (0, 0, 0, 0)) := by decide +kernel
theorem f_290_457 : rfI 290 457 = some (.iaload, (0, 0, 0, 0)) := by decide +kernel
theorem f_290_458 : rfI 290 458 = some (.invokevirtual 45, (140, 3, 11, 0)) := by decide +kernel
theorem f_290_461 : rfI 290 461 = some (.aload_n 2, (0, 0, 0, 0)) := by decide +kernel
theorem f_290_462 : rfI 290 462 = some (.aload_n 0, (0, 0, 0, 0)) := by decide +kernel
theorem f_290_463 : rfI 290 463 = some (.iload_n 3, (0, 0, 0, 0)) := by decide +kernel
theorem f_290_464 : rfI 290 464 = some (.iconst 1, (0, 0, 0, 0)) := by decide +kernel
theorem f_290_465 : rfI 290 465 = some (.iadd, (0, 0, 0, 0)) := by decide +kernel
theorem f_290_466 : rfI 290 466 = some (.iaload, (0, 0, 0, 0)) := by decide +kernel
theorem f_290_467 : rfI 290 467 = some (.aload_n 0, (0, 0, 0, 0)) := by decide +kernel
theorem f_290_468 : rfI 290 468 = some (.iload_n 3, (0, 0, 0, 0)) := by decide +kernel
theorem f_290_469 : rfI 290 469 = some (.iconst 2, (0, 0, 0, 0)) := by decide +kernel
theorem f_290_470 : rfI 290 470 = some (.iadd, (0, 0, 0, 0)) := by decide +kernel
theorem f_290_471 : rfI 290 471 = some (.iaload, (0, 0, 0, 0)) := by decide +kernel
theorem f_290_472 : rfI 290 472 = some (.invokevirtual 49, (242, 3, 11, 0)) := by decide +kernel
theorem f_290_475 : rfI 290 475 = some (.if_icmp .eq 812, (0, 0, 0, 0)) := by decide +kernel
theorem f_290_478 : rfI 290 478 = some (.iconst 0, (0, 0, 0, 0)) := by decide +kernel
theorem f_290_479 : rfI 290 479 = some (.ireturn, (0, 0, 0, 0)) := by decide +kernel
theorem f_290_480 : rfI 290 480 = some (.aload_n 1, (0, 0, 0, 0)) := by decide +kernel
theorem f_290_481 : rfI 290 481 = some (.aload_n 0, (0, 0, 0, 0)) := by decide +kernel
theorem f_290_482 : rfI 290 482 = some (.iload_n 3, (0, 0, 0, 0)) := by decide +kernel
theorem f_290_483 : rfI 290 483 = some (.iconst 1, (0, 0, 0, 0)) := by decide +kernel
theorem f_290_484 : rfI 290 484 = some (.iadd, (0, 0, 0, 0)) := by decide +kernel
theorem f_290_485 : rfI 290 485 = some (.iaload, (0, 0, 0, 0)) := by decide +kernel
theorem f_290_486 : rfI 290 486 = some (.aload_n 0, (0, 0, 0, 0)) := by decide +kernel
theorem f_290_487 : rfI 290 487 = some (.iload_n 3, (0, 0, 0, 0)) := by decide +kernel
theorem f_290_488 : rfI 290 488 = some (.iconst 2, (0, 0, 0, 0)) := by decide +kernel
theorem f_290_489 : rfI 290 489 = some (.iadd, (0, 0, 0, 0)) := by decide +kernel
theorem f_290_490 : rfI 290 490 = some (.iaload, (0, 0, 0, 0)) := by decide +kernel
theorem f_290_491 : rfI 290 491 = some (.invokevirtual 50, (141, 3, 11, 0)) := by decide +kernel
theorem f_290_494 : rfI 290 494 = some (.aload_n 2, (0, 0, 0, 0)) := by decide +kernel
theorem f_290_495 : rfI 290 495 = some (.aload_n 0, (0, 0, 0, 0)) := by decide +kernel
theorem f_290_496 : rfI 290 496 = some (.iload_n 3, (0, 0, 0, 0)) := by decide +kernel
theorem f_290_497 : rfI 290 497 = some (.iconst 1, (0, 0, 0, 0)) := by decide +kernel
theorem f_290_498 : rfI 290 498 = some (.iadd, (0, 0, 0, 0)) := by decide +kernel
theorem f_290_499 : rfI 290 499 = some (.iaload, (0, 0, 0, 0)) := by decide +kernel
theorem f_290_500 : rfI 290 500 = some (.aload_n 0, (0, 0, 0, 0)) := by decide +kernel
theorem f_290_501 : rfI 290 501 = some (.iload_n 3, (0, 0, 0, 0)) := by decide +kernel
theorem f_290_502 : rfI 290 502 = some (.iconst 2, (0, 0, 0, 0)) := by decide +kernel
theorem f_290_503 : rfI 290 503 = some (.iadd, (0, 0, 0, 0)) := by decide +kernel
theorem f_290_504 : rfI 290 504 = some (.iaload, (0, 0, 0, 0)) := by decide +kernel
theorem f_290_505 : rfI 290 505 = some (.invokevirtual 53, (244, 3, 11, 0)) := by decide +kernel
theorem f_290_508 : rfI 290 508 = some (.if_icmp .eq 779, (0, 0, 0, 0)) := by decide +kernel
theorem f_290_511 : rfI 290 511 = some (.iconst 0, (0, 0, 0, 0)) := by decide +kernel
theorem f_290_512 : rfI 290 512 = some (.ireturn, (0, 0, 0, 0)) := by decide +kernel
theorem f_290_513 : rfI 290 513 = some (.aload_n 1, (0, 0, 0, 0)) := by decide +kernel
theorem f_290_514 : rfI 290 514 = some (.aload_n 0, (0, 0, 0, 0)) := by decide +kernel
theorem f_290_515 : rfI 290 515 = some (.iload_n 3, (0, 0, 0, 0)) := by decide +kernel
theorem f_290_516 : rfI 290 516 = some (.iconst 1, (0, 0, 0, 0)) := by decide +kernel
theorem f_290_517 : rfI 290 517 = some (.iadd, (0, 0, 0, 0)) := by decide +kernel
theorem f_290_518 : rfI 290 518 = some (.iaload, (0, 0, 0, 0)) := by decide +kernel
theorem f_290_519 : rfI 290 519 = some (.aload_n 0, (0, 0, 0, 0)) := by decide +kernel
theorem f_290_520 : rfI 290 520 = some (.iload_n 3, (0, 0, 0, 0)) := by decide +kernel
theorem f_290_521 : rfI 290 521 = some (.iconst 2, (0, 0, 0, 0)) := by decide +kernel
theorem f_290_522 : rfI 290 522 = some (.iadd, (0, 0, 0, 0)) := by decide +kernel
theorem f_290_523 : rfI 290 523 = some (.iaload, (0, 0, 0, 0)) := by decide +kernel
theorem f_290_524 : rfI 290 524 = some (.invokevirtual 54, (142, 3, 11, 0)) := by decide +kernel
theorem f_290_527 : rfI 290 527 = some (.aload_n 2, (0, 0, 0, 0)) := by decide +kernel
theorem f_290_528 : rfI 290 528 = some (.aload_n 0, (0, 0, 0, 0)) := by decide +kernel
theorem f_290_529 : rfI 290 529 = some (.iload_n 3, (0, 0, 0, 0)) := by decide +kernel
theorem f_290_530 : rfI 290 530 = some (.iconst 1, (0, 0, 0, 0)) := by decide +kernel
theorem f_290_531 : rfI 290 531 = some (.iadd, (0, 0, 0, 0)) := by decide +kernel
theorem f_290_532 : rfI 290 532 = some (.iaload, (0, 0, 0, 0)) := by decide +kernel
theorem f_290_533 : rfI 290 533 = some (.aload_n 0, (0, 0, 0, 0)) := by decide +kernel
theorem f_290_534 : rfI 290 534 = some (.iload_n 3, (0, 0, 0, 0)) := by decide +kernel
theorem f_290_535 : rfI 290 535 = some (.iconst 2, (0, 0, 0, 0)) := by decide +kernel
theorem f_290_536 : rfI 290 536 = some (.iadd, (0, 0, 0, 0)) := by decide +kernel
theorem f_290_537 : rfI 290 537 = some (.iaload, (0, 0, 0, 0)) := by decide +kernel
theorem f_290_538 : rfI 290 538 = some (.invokevirtual 57, (245, 3, 11, 0)) := by decide +kernel
theorem f_290_541 : rfI 290 541 = some (.if_icmp .eq 746, (0, 0, 0, 0)) := by decide +kernel
theorem f_290_544 : rfI 290 544 = some (.iconst 0, (0, 0, 0, 0)) := by decide +kernel
theorem f_290_545 : rfI 290 545 = some (.ireturn, (0, 0, 0, 0)) := by decide +kernel
theorem f_290_546 : rfI 290 546 = some (.aload_n 1, (0, 0, 0, 0)) := by decide +kernel
theorem f_290_547 : rfI 290 547 = some (.aload_n 0, (0, 0, 0, 0)) := by decide +kernel
theorem f_290_548 : rfI 290 548 = some (.iload_n 3, (0, 0, 0, 0)) := by decide +kernel
theorem f_290_549 : rfI 290 549 = some (.iconst 1, (0, 0, 0, 0)) := by decide +kernel
theorem f_290_550 : rfI 290 550 = some (.iadd, (0, 0, 0, 0)) := by decide +kernel
theorem f_290_551 : rfI 290 551 = some (.iaload, (0, 0, 0, 0)) := by decide +kernel
theorem f_290_552 : rfI 290 552 = some (.aload_n 0, (0, 0, 0, 0)) := by decide +kernel
theorem f_290_553 : rfI 290 553 = some (.iload_n 3, (0, 0, 0, 0)) := by decide +kernel
theorem f_290_554 : rfI 290 554 = some (.iconst 2, (0, 0, 0, 0)) := by decide +kernel
theorem f_290_555 : rfI 290 555 = some (.iadd, (0, 0, 0, 0)) := by decide +kernel
theorem f_290_556 : rfI 290 556 = some (.iaload, (0, 0, 0, 0)) := by decide +kernel
theorem f_290_557 : rfI 290 557 = some (.invokevirtual 58, (143, 3, 11, 0)) := by decide +kernel
theorem f_290_560 : rfI 290 560 = some (.aload_n 2, (0, 0, 0, 0)) := by decide +kernel
theorem f_290_561 : rfI 290 561 = some (.aload_n 0, (0, 0, 0, 0)) := by decide +kernel
theorem f_290_562 : rfI 290 562 = some (.iload_n 3, (0, 0, 0, 0)) := by decide +kernel
theorem f_290_563 : rfI 290 563 = some (.iconst 1, (0, 0, 0, 0)) := by decide +kernel
theorem f_290_564 : rfI 290 564 = some (.iadd, (0, 0, 0, 0)) := by decide +kernel
theorem f_290_565 : rfI 290 565 = some (.iaload, (0, 0, 0, 0)) := by decide +kernel
theorem f_290_566 : rfI 290 566 = some (.aload_n 0, (0, 0, 0, 0)) := by decide +kernel
theorem f_290_567 : rfI 290 567 = some (.iload_n 3, (0, 0, 0, 0)) := by decide +kernel
theorem f_290_568 : rfI 290 568 = some (.iconst 2, (0, 0, 0, 0)) := by decide +kernel
theorem f_290_569 : rfI 290 569 = some (.iadd, (0, 0, 0, 0)) := by decide +kernel
theorem f_290_570 : rfI 290 570 = some (.iaload, (0, 0, 0, 0)) := by decide +kernel
theorem f_290_571 : rfI 290 571 = some (.invokevirtual 61, (246, 3, 11, 0)) := by decide +kernel
theorem f_290_574 : rfI 290 574 = some (.if_icmp .eq 713, (0, 0, 0, 0)) := by decide +kernel
theorem f_290_577 : rfI 290 577 = some (.iconst 0, (0, 0, 0, 0)) := by decide +kernel
theorem f_290_578 : rfI 290 578 = some (.ireturn, (0, 0, 0, 0)) := by decide +kernel
theorem f_290_579 : rfI 290 579 = some (.aload_n 1, (0, 0, 0, 0)) := by decide +kernel
theorem f_290_580 : rfI 290 580 = some (.aload_n 0, (0, 0, 0, 0)) := by decide +kernel
theorem f_290_581 : rfI 290 581 = some (.iload_n 3, (0, 0, 0, 0)) := by decide +kernel
theorem f_290_582 : rfI 290 582 = some (.iconst 1, (0, 0, 0, 0)) := by decide +kernel
theorem f_290_583 : rfI 290 583 = some (.iadd, (0, 0, 0, 0)) := by decide +kernel
theorem f_290_584 : rfI 290 584 = some (.iaload, (0, 0, 0, 0)) := by decide +kernel
theorem f_290_585 : rfI 290 585 = some (.invokevirtual 62, (144, 2, 11, 0)) := by decide +kernel
theorem f_290_588 : rfI 290 588 = some (.aload_n 2, (0, 0, 0, 0)) := by decide +kernel
theorem f_290_589 : rfI 290 589 = some (.aload_n 0, (0, 0, 0, 0)) := by decide +kernel
theorem f_290_590 : rfI 290 590 = some (.iload_n 3, (0, 0, 0, 0)) := by decide +kernel
theorem f_290_591 : rfI 290 591 = some (.iconst 1, (0, 0, 0, 0)) := by decide +kernel
theorem f_290_592 : rfI 290 592 = some (.iadd, (0, 0, 0, 0)) := by decide +kernel
theorem f_290_593 : rfI 290 593 = some (.iaload, (0, 0, 0, 0)) := by decide +kernel
theorem f_290_594 : rfI 290 594 = some (.invokevirtual 65, (250, 2, 11, 0)) := by decide +kernel
theorem f_290_597 : rfI 290 597 = some (.if_icmp .eq 690, (0, 0, 0, 0)) := by decide +kernel
theorem f_290_600 : rfI 290 600 = some (.iconst 0, (0, 0, 0, 0)) := by decide +kernel
theorem f_290_601 : rfI 290 601 = some (.ireturn, (0, 0, 0, 0)) := by decide +kernel
theorem f_290_602 : rfI 290 602 = some (.aload_n 1, (0, 0, 0, 0)) := by decide +kernel
theorem f_290_603 : rfI 290 603 = some (.aload_n 0, (0, 0, 0, 0)) := by decide +kernel
theorem f_290_604 : rfI 290 604 = some (.iload_n 3, (0, 0, 0, 0)) := by decide +kernel
theorem f_290_605 : rfI 290 605 = some (.iconst 1, (0, 0, 0, 0)) := by decide +kernel
theorem f_290_606 : rfI 290 606 = some (.iadd, (0, 0, 0, 0)) := by decide +kernel
theorem f_290_607 : rfI 290 607 = some (.iaload, (0, 0, 0, 0)) := by decide +kernel
theorem f_290_608 : rfI 290 608 = some (.invokevirtual 66, (145, 2, 11, 0)) := by decide +kernel
theorem f_290_611 : rfI 290 611 = some (.aload_n 2, (0, 0, 0, 0)) := by decide +kernel
theorem f_290_612 : rfI 290 612 = some (.aload_n 0, (0, 0, 0, 0)) := by decide +kernel
theorem f_290_613 : rfI 290 613 = some (.iload_n 3, (0, 0, 0, 0)) := by decide +kernel
theorem f_290_614 : rfI 290 614 = some (.iconst 1, (0, 0, 0, 0)) := by decide +kernel
theorem f_290_615 : rfI 290 615 = some (.iadd, (0, 0, 0, 0)) := by decide +kernel
theorem f_290_616 : rfI 290 616 = some (.iaload, (0, 0, 0, 0)) := by decide +kernel
theorem f_290_617 : rfI 290 617 = some (.invokevirtual 69, (251, 2, 11, 0)) := by decide +kernel
theorem f_290_620 : rfI 290 620 = some (.if_icmp .eq 667, (0, 0, 0, 0)) := by decide +kernel
theorem f_290_623 : rfI 290 623 = some (.iconst 0, (0, 0, 0, 0)) := by decide +kernel
theorem f_290_624 : rfI 290 624 = some (.ireturn, (0, 0, 0, 0)) := by decide +kernel
theorem f_290_625 : rfI 290 625 = some (.aload_n 1, (0, 0, 0, 0)) := by decide +kernel
theorem f_290_626 : rfI 290 626 = some (.aload_n 0, (0, 0, 0, 0)) := by decide +kernel
theorem f_290_627 : rfI 290 627 = some (.iload_n 3, (0, 0, 0, 0)) := by decide +kernel
theorem f_290_628 : rfI 290 628 = some (.iconst 1, (0, 0, 0, 0)) := by decide +kernel
theorem f_290_629 : rfI 290 629 = some (.iadd, (0, 0, 0, 0)) := by decide +kernel
theorem f_290_630 : rfI 290 630 = some (.iaload, (0, 0, 0, 0)) := by decide +kernel
theorem f_290_631 : rfI 290 631 = some (.invokevirtual 70, (146, 2, 11, 0)) := by decide +kernel
theorem f_290_634 : rfI 290 634 = some (.aload_n 2, (0, 0, 0, 0)) := by decide +kernel
theorem f_290_635 : rfI 290 635 = some (.aload_n 0, (0, 0, 0, 0)) := by decide +kernel
theorem f_290_636 : rfI 290 636 = some (.iload_n 3, (0, 0, 0, 0)) := by decide +kernel
theorem f_290_637 : rfI 290 637 = some (.iconst 1, (0, 0, 0, 0)) := by decide +kernel
theorem f_290_638 : rfI 290 638 = some (.iadd, (0, 0, 0, 0)) := by decide +kernel
theorem f_290_639 : rfI 290 639 = some (.iaload, (0, 0, 0, 0)) := by decide +kernel
theorem f_290_640 : rfI 290 640 = some (.invokevirtual 73, (252, 2, 11, 0)) := by decide +kernel
theorem f_290_643 : rfI 290 643 = some (.if_icmp .eq 644, (0, 0, 0, 0)) := by decide +kernel
theorem f_290_646 : rfI 290 646 = some (.iconst 0, (0, 0, 0, 0)) := by decide +kernel
theorem f_290_647 : rfI 290 647 = some (.ireturn, (0, 0, 0, 0)) := by decide +kernel
theorem f_290_648 : rfI 290 648 = some (.aload_n 1, (0, 0, 0, 0)) := by decide +kernel
theorem f_290_649 : rfI 290 649 = some (.aload_n 0, (0, 0, 0, 0)) := by decide +kernel
theorem f_290_650 : rfI 290 650 = some (.iload_n 3, (0, 0, 0, 0)) := by decide +kernel
theorem f_290_651 : rfI 290 651 = some (.iconst 1, (0, 0, 0, 0)) := by decide +kernel
theorem f_290_652 : rfI 290 652 = some (.iadd, (0, 0, 0, 0)) := by decide +kernel
theorem f_290_653 : rfI 290 653 = some (.iaload, (0, 0, 0, 0)) := by decide +kernel
theorem f_290_654 : rfI 290 654 = some (.aload_n 0, (0, 0, 0, 0)) := by decide +kernel
theorem f_290_655 : rfI 290 655 = some (.iload_n 3, (0, 0, 0, 0)) := by decide +kernel
theorem f_290_656 : rfI 290 656 = some (.iconst 2, (0, 0, 0, 0)) := by decide +kernel
theorem f_290_657 : rfI 290 657 = some (.iadd, (0, 0, 0, 0)) := by decide +kernel
theorem f_290_658 : rfI 290 658 = some (.iaload, (0, 0, 0, 0)) := by decide +kernel
theorem f_290_659 : rfI 290 659 = some (.invokevirtual 74, (147, 3, 11, 0)) := by decide +kernel
theorem f_290_662 : rfI 290 662 = some (.aload_n 2, (0, 0, 0, 0)) := by decide +kernel
theorem f_290_663 : rfI 290 663 = some (.aload_n 0, (0, 0, 0, 0)) := by decide +kernel
theorem f_290_664 : rfI 290 664 = some (.iload_n 3, (0, 0, 0, 0)) := by decide +kernel
theorem f_290_665 : rfI 290 665 = some (.iconst 1, (0, 0, 0, 0)) := by decide +kernel
theorem f_290_666 : rfI 290 666 = some (.iadd, (0, 0, 0, 0)) := by decide +kernel
theorem f_290_667 : rfI 290 667 = some (.iaload, (0, 0, 0, 0)) := by decide +kernel
theorem f_290_668 : rfI 290 668 = some (.aload_n 0, (0, 0, 0, 0)) := by decide +kernel
theorem f_290_669 : rfI 290 669 = some (.iload_n 3, (0, 0, 0, 0)) := by decide +kernel
theorem f_290_670 : rfI 290 670 = some (.iconst 2, (0, 0, 0, 0)) := by decide +kernel
theorem f_290_671 : rfI 290 671 = some (.iadd, (0, 0, 0, 0)) := by decide +kernel
theorem f_290_672 : rfI 290 672 = some (.iaload, (0, 0, 0, 0)) := by decide +kernel
theorem f_290_673 : rfI 290 673 = some (.invokevirtual 77, (253, 3, 11, 0)) := by decide +kernel
theorem f_290_676 : rfI 290 676 = some (.if_icmp .eq 611, (0, 0, 0, 0)) := by decide +kernel
theorem f_290_679 : rfI 290 679 = some (.iconst 0, (0, 0, 0, 0)) := by decide +kernel
theorem f_290_680 : rfI 290 680 = some (.ireturn, (0, 0, 0, 0)) := by decide +kernel
theorem f_290_681 : rfI 290 681 = some (.aload_n 1, (0, 0, 0, 0)) := by decide +kernel
theorem f_290_682 : rfI 290 682 = some (.aload_n 0, (0, 0, 0, 0)) := by decide +kernel
theorem f_290_683 : rfI 290 683 = some (.iload_n 3, (0, 0, 0, 0)) := by decide +kernel
theorem f_290_684 : rfI 290 684 = some (.iconst 1, (0, 0, 0, 0)) := by decide +kernel
theorem f_290_685 : rfI 290 685 = some (.iadd, (0, 0, 0, 0)) := by decide +kernel
theorem f_290_686 : rfI 290 686 = some (.iaload, (0, 0, 0, 0)) := by decide +kernel
theorem f_290_687 : rfI 290 687 = some (.aload_n 0, (0, 0, 0, 0)) := by decide +kernel
theorem f_290_688 : rfI 290 688 = some (.iload_n 3, (0, 0, 0, 0)) := by decide +kernel
theorem f_290_689 : rfI 290 689 = some (.iconst 2, (0, 0, 0, 0)) := by decide +kernel
theorem f_290_690 : rfI 290 690 = some (.iadd, (0, 0, 0, 0)) := by decide +kernel
theorem f_290_691 : rfI 290 691 = some (.iaload, (0, 0, 0, 0)) := by decide +kernel
theorem f_290_692 : rfI 290 692 = some (.invokevirtual 78, (149, 3, 11, 0)) := by decide +kernel
theorem f_290_695 : rfI 290 695 = some (.aload_n 2, (0, 0, 0, 0)) := by decide +kernel
theorem f_290_696 : rfI 290 696 = some (.aload_n 0, (0, 0, 0, 0)) := by decide +kernel
theorem f_290_697 : rfI 290 697 = some (.iload_n 3, (0, 0, 0, 0)) := by decide +kernel
theorem f_290_698 : rfI 290 698 = some (.iconst 1, (0, 0, 0, 0)) := by decide +kernel
theorem f_290_699 : rfI 290 699 = some (.iadd, (0, 0, 0, 0)) := by decide +kernel
theorem f_290_700 : rfI 290 700 = some (.iaload, (0, 0, 0, 0)) := by decide +kernel
theorem f_290_701 : rfI 290 701 = some (.aload_n 0, (0, 0, 0, 0)) := by decide +kernel
theorem f_290_702 : rfI 290 702 = some (.iload_n 3, (0, 0, 0, 0)) := by decide +kernel
theorem f_290_703 : rfI 290 703 = some (.iconst 2, (0, 0, 0, 0)) := by decide +kernel
theorem f_290_704 : rfI 290 704 = some (.iadd, (0, 0, 0, 0)) := by decide +kernel
theorem f_290_705 : rfI 290 705 = some (.iaload, (0, 0, 0, 0)) := by decide +kernel
theorem f_290_706 : rfI 290 706 = some (.invokevirtual 81, (254, 3, 11, 0)) := by decide +kernel
theorem f_290_709 : rfI 290 709 = some (.if_icmp .eq 578, (0, 0, 0, 0)) := by decide +kernel
theorem f_290_712 : rfI 290 712 = some (.iconst 0, (0, 0, 0, 0)) := by decide +kernel
theorem f_290_713 : rfI 290 713 = some (.ireturn, (0, 0, 0, 0)) := by decide +kernel
theorem f_290_714 : rfI 290 714 = some (.aload_n 1, (0, 0, 0, 0)) := by decide +kernel
theorem f_290_715 : rfI 290 715 = some (.aload_n 0, (0, 0, 0, 0)) := by decide +kernel
theorem f_290_716 : rfI 290 716 = some (.iload_n 3, (0, 0, 0, 0)) := by decide +kernel
theorem f_290_717 : rfI 290 717 = some (.iconst 1, (0, 0, 0, 0)) := by decide +kernel
theorem f_290_718 : rfI 290 718 = some (.iadd, (0, 0, 0, 0)) := by decide +kernel
theorem f_290_719 : rfI 290 719 = some (.iaload, (0, 0, 0, 0)) := by decide +kernel
theorem f_290_720 : rfI 290 720 = some (.invokevirtual 82, (150, 2, 11, 0)) := by decide +kernel
theorem f_290_723 : rfI 290 723 = some (.aload_n 2, (0, 0, 0, 0)) := by decide +kernel
theorem f_290_724 : rfI 290 724 = some (.aload_n 0, (0, 0, 0, 0)) := by decide +kernel
theorem f_290_725 : rfI 290 725 = some (.iload_n 3, (0, 0, 0, 0)) := by decide +kernel
theorem f_290_726 : rfI 290 726 = some (.iconst 1, (0, 0, 0, 0)) := by decide +kernel
theorem f_290_727 : rfI 290 727 = some (.iadd, (0, 0, 0, 0)) := by decide +kernel
theorem f_290_728 : rfI 290 728 = some (.iaload, (0, 0, 0, 0)) := by decide +kernel
theorem f_290_729 : rfI 290 729 = some (.invokevirtual 85, (255, 2, 11, 0)) := by decide +kernel
theorem f_290_732 : rfI 290 732 = some (.if_icmp .eq 555, (0, 0, 0, 0)) := by decide +kernel
theorem f_290_735 : rfI 290 735 = some (.iconst 0, (0, 0, 0, 0)) := by decide +kernel
theorem f_290_736 : rfI 290 736 = some (.ireturn, (0, 0, 0, 0)) := by decide +kernel
theorem f_290_737 : rfI 290 737 = some (.aload_n 1, (0, 0, 0, 0)) := by decide +kernel
theorem f_290_738 : rfI 290 738 = some (.invokevirtual 86, (151, 1, 11, 0)) := by decide +kernel
theorem f_290_741 : rfI 290 741 = some (.aload_n 2, (0, 0, 0, 0)) := by decide +kernel
theorem f_290_742 : rfI 290 742 = some (.invokevirtual 90, (256, 1, 11, 0)) := by decide +kernel
theorem f_290_745 : rfI 290 745 = some (.if_icmp .eq 542, (0, 0, 0, 0)) := by decide +kernel
theorem f_290_748 : rfI 290 748 = some (.iconst 0, (0, 0, 0, 0)) := by decide +kernel
theorem f_290_749 : rfI 290 749 = some (.ireturn, (0, 0, 0, 0)) := by decide +kernel
theorem f_290_750 : rfI 290 750 = some (.aload_n 1, (0, 0, 0, 0)) := by decide +kernel
theorem f_290_751 : rfI 290 751 = some (.aload_n 0, (0, 0, 0, 0)) := by decide +kernel
theorem f_290_752 : rfI 290 752 = some (.iload_n 3, (0, 0, 0, 0)) := by decide +kernel
theorem f_290_753 : rfI 290 753 = some (.iconst 1, (0, 0, 0, 0)) := by decide +kernel
theorem f_290_754 : rfI 290 754 = some (.iadd, (0, 0, 0, 0)) := by decide +kernel
theorem f_290_755 : rfI 290 755 = some (.iaload, (0, 0, 0, 0)) := by decide +kernel
theorem f_290_756 : rfI 290 756 = some (.invokevirtual 91, (152, 2, 11, 0)) := by decide +kernel
theorem f_290_759 : rfI 290 759 = some (.aload_n 2, (0, 0, 0, 0)) := by decide +kernel
theorem f_290_760 : rfI 290 760 = some (.aload_n 0, (0, 0, 0, 0)) := by decide +kernel
theorem f_290_761 : rfI 290 761 = some (.iload_n 3, (0, 0, 0, 0)) := by decide +kernel
theorem f_290_762 : rfI 290 762 = some (.iconst 1, (0, 0, 0, 0)) := by decide +kernel
theorem f_290_763 : rfI 290 763 = some (.iadd, (0, 0, 0, 0)) := by decide +kernel
theorem f_290_764 : rfI 290 764 = some (.iaload, (0, 0, 0, 0)) := by decide +kernel
theorem f_290_765 : rfI 290 765 = some (.invokevirtual 94, (263, 2, 11, 0)) := by decide +kernel
theorem f_290_768 : rfI 290 768 = some (.if_icmp .eq 519, (0, 0, 0, 0)) := by decide +kernel
theorem f_290_771 : rfI 290 771 = some (.iconst 0, (0, 0, 0, 0)) := by decide +kernel
theorem f_290_772 : rfI 290 772 = some (.ireturn, (0, 0, 0, 0)) := by decide +kernel
theorem f_290_773 : rfI 290 773 = some (.aload_n 1, (0, 0, 0, 0)) := by decide +kernel
theorem f_290_774 : rfI 290 774 = some (.aload_n 0, (0, 0, 0, 0)) := by decide +kernel
theorem f_290_775 : rfI 290 775 = some (.iload_n 3, (0, 0, 0, 0)) := by decide +kernel
theorem f_290_776 : rfI 290 776 = some (.iconst 1, (0, 0, 0, 0)) := by decide +kernel
theorem f_290_777 : rfI 290 777 = some (.iadd, (0, 0, 0, 0)) := by decide +kernel
theorem f_290_778 : rfI 290 778 = some (.iaload, (0, 0, 0, 0)) := by decide +kernel
theorem f_290_779 : rfI 290 779 = some (.aload_n 0, (0, 0, 0, 0)) := by decide +kernel
theorem f_290_780 : rfI 290 780 = some (.iload_n 3, (0, 0, 0, 0)) := by decide +kernel
theorem f_290_781 : rfI 290 781 = some (.iconst 2, (0, 0, 0, 0)) := by decide +kernel
theorem f_290_782 : rfI 290 782 = some (.iadd, (0, 0, 0, 0)) := by decide +kernel
theorem f_290_783 : rfI 290 783 = some (.iaload, (0, 0, 0, 0)) := by decide +kernel
theorem f_290_784 : rfI 290 784 = some (.invokevirtual 95, (153, 3, 11, 0)) := by decide +kernel
theorem f_290_787 : rfI 290 787 = some (.aload_n 2, (0, 0, 0, 0)) := by decide +kernel
theorem f_290_788 : rfI 290 788 = some (.aload_n 0, (0, 0, 0, 0)) := by decide +kernel
theorem f_290_789 : rfI 290 789 = some (.iload_n 3, (0, 0, 0, 0)) := by decide +kernel
theorem f_290_790 : rfI 290 790 = some (.iconst 1, (0, 0, 0, 0)) := by decide +kernel
theorem f_290_791 : rfI 290 791 = some (.iadd, (0, 0, 0, 0)) := by decide +kernel
theorem f_290_792 : rfI 290 792 = some (.iaload, (0, 0, 0, 0)) := by decide +kernel
theorem f_290_793 : rfI 290 793 = some (.aload_n 0, (0, 0, 0, 0)) := by decide +kernel
theorem f_290_794 : rfI 290 794 = some (.iload_n 3, (0, 0, 0, 0)) := by decide +kernel
theorem f_290_795 : rfI 290 795 = some (.iconst 2, (0, 0, 0, 0)) := by decide +kernel
theorem f_290_796 : rfI 290 796 = some (.iadd, (0, 0, 0, 0)) := by decide +kernel
theorem f_290_797 : rfI 290 797 = some (.iaload, (0, 0, 0, 0)) := by decide +kernel
theorem f_290_798 : rfI 290 798 = some (.invokevirtual 98, (259, 3, 11, 0)) := by decide +kernel
theorem f_290_801 : rfI 290 801 = some (.if_icmp .eq 486, (0, 0, 0, 0)) := by decide +kernel
theorem f_290_804 : rfI 290 804 = some (.iconst 0, (0, 0, 0, 0)) := by decide +kernel
theorem f_290_805 : rfI 290 805 = some (.ireturn, (0, 0, 0, 0)) := by decide +kernel
theorem f_290_806 : rfI 290 806 = some (.aload_n 1, (0, 0, 0, 0)) := by decide +kernel
theorem f_290_807 : rfI 290 807 = some (.aload_n 0, (0, 0, 0, 0)) := by decide +kernel
theorem f_290_808 : rfI 290 808 = some (.iload_n 3, (0, 0, 0, 0)) := by decide +kernel
theorem f_290_809 : rfI 290 809 = some (.iconst 1, (0, 0, 0, 0)) := by decide +kernel
theorem f_290_810 : rfI 290 810 = some (.iadd, (0, 0, 0, 0)) := by decide +kernel
theorem f_290_811 : rfI 290 811 = some (.iaload, (0, 0, 0, 0)) := by decide +kernel
theorem f_290_812 : rfI 290 812 = some (.aload_n 0, (0, 0, 0, 0)) := by decide +kernel
theorem f_290_813 : rfI 290 813 = some (.iload_n 3, (0, 0, 0, 0)) := by decide +kernel
theorem f_290_814 : rfI 290 814 = some (.iconst 2, (0, 0, 0, 0)) := by decide +kernel
theorem f_290_815 : rfI 290 815 = some (.iadd, (0, 0, 0, 0)) := by decide +kernel
theorem f_290_816 : rfI 290 816 = some (.iaload, (0, 0, 0, 0)) := by decide +kernel
theorem f_290_817 : rfI 290 817 = some (.aload_n 0, (0, 0, 0, 0)) := by decide +kernel
theorem f_290_818 : rfI 290 818 = some (.iload_n 3, (0, 0, 0, 0)) := by decide +kernel
theorem f_290_819 : rfI 290 819 = some (.iconst 3, (0, 0, 0, 0)) := by decide +kernel
theorem f_290_820 : rfI 290 820 = some (.iadd, (0, 0, 0, 0)) := by decide +kernel
theorem f_290_821 : rfI 290 821 = some (.iaload, (0, 0, 0, 0)) := by decide +kernel
theorem f_290_822 : rfI 290 822 = some (.invokevirtual 99, (154, 4, 11, 0)) := by decide +kernel
theorem f_290_825 : rfI 290 825 = some (.aload_n 2, (0, 0, 0, 0)) := by decide +kernel
theorem f_290_826 : rfI 290 826 = some (.aload_n 0, (0, 0, 0, 0)) := by decide +kernel
theorem f_290_827 : rfI 290 827 = some (.iload_n 3, (0, 0, 0, 0)) := by decide +kernel
theorem f_290_828 : rfI 290 828 = some (.iconst 1, (0, 0, 0, 0)) := by decide +kernel
theorem f_290_829 : rfI 290 829 = some (.iadd, (0, 0, 0, 0)) := by decide +kernel
theorem f_290_830 : rfI 290 830 = some (.iaload, (0, 0, 0, 0)) := by decide +kernel
theorem f_290_831 : rfI 290 831 = some (.aload_n 0, (0, 0, 0, 0)) := by decide +kernel
theorem f_290_832 : rfI 290 832 = some (.iload_n 3, (0, 0, 0, 0)) := by decide +kernel
theorem f_290_833 : rfI 290 833 = some (.iconst 2, (0, 0, 0, 0)) := by decide +kernel
theorem f_290_834 : rfI 290 834 = some (.iadd, (0, 0, 0, 0)) := by decide +kernel
theorem f_290_835 : rfI 290 835 = some (.iaload, (0, 0, 0, 0)) := by decide +kernel
theorem f_290_836 : rfI 290 836 = some (.aload_n 0, (0, 0, 0, 0)) := by decide +kernel
theorem f_290_837 : rfI 290 837 = some (.iload_n 3, (0, 0, 0, 0)) := by decide +kernel
theorem f_290_838 : rfI 290 838 = some (.iconst 3, (0, 0, 0, 0)) := by decide +kernel
theorem f_290_839 : rfI 290 839 = some (.iadd, (0, 0, 0, 0)) := by decide +kernel
theorem f_290_840 : rfI 290 840 = some (.iaload, (0, 0, 0, 0)) := by decide +kernel
theorem f_290_841 : rfI 290 841 = some (.invokevirtual 103, (260, 4, 11, 0)) := by decide +kernel
theorem f_290_844 : rfI 290 844 = some (.if_icmp .eq 443, (0, 0, 0, 0)) := by decide +kernel
theorem f_290_847 : rfI 290 847 = some (.iconst 0, (0, 0, 0, 0)) := by decide +kernel
theorem f_290_848 : rfI 290 848 = some (.ireturn, (0, 0, 0, 0)) := by decide +kernel
theorem f_290_849 : rfI 290 849 = some (.aload_n 1, (0, 0, 0, 0)) := by decide +kernel
theorem f_290_850 : rfI 290 850 = some (.aload_n 0, (0, 0, 0, 0)) := by decide +kernel
theorem f_290_851 : rfI 290 851 = some (.iload_n 3, (0, 0, 0, 0)) := by decide +kernel
theorem f_290_852 : rfI 290 852 = some (.iconst 1, (0, 0, 0, 0)) := by decide +kernel
theorem f_290_853 : rfI 290 853 = some (.iadd, (0, 0, 0, 0)) := by decide +kernel
theorem f_290_854 : rfI 290 854 = some (.iaload, (0, 0, 0, 0)) := by decide +kernel
theorem f_290_855 : rfI 290 855 = some (.aload_n 0, (0, 0, 0, 0)) := by decide +kernel
theorem f_290_856 : rfI 290 856 = some (.iload_n 3, (0, 0, 0, 0)) := by decide +kernel
theorem f_290_857 : rfI 290 857 = some (.iconst 2, (0, 0, 0, 0)) := by decide +kernel
theorem f_290_858 : rfI 290 858 = some (.iadd, (0, 0, 0, 0)) := by decide +kernel
theorem f_290_859 : rfI 290 859 = some (.iaload, (0, 0, 0, 0)) := by decide +kernel
theorem f_290_860 : rfI 290 860 = some (.invokevirtual 104, (155, 3, 11, 0)) := by decide +kernel
theorem f_290_863 : rfI 290 863 = some (.aload_n 2, (0, 0, 0, 0)) := by decide +kernel
theorem f_290_864 : rfI 290 864 = some (.aload_n 0, (0, 0, 0, 0)) := by decide +kernel
theorem f_290_865 : rfI 290 865 = some (.iload_n 3, (0, 0, 0, 0)) := by decide +kernel
theorem f_290_866 : rfI 290 866 = some (.iconst 1, (0, 0, 0, 0)) := by decide +kernel
theorem f_290_867 : rfI 290 867 = some (.iadd, (0, 0, 0, 0)) := by decide +kernel
theorem f_290_868 : rfI 290 868 = some (.iaload, (0, 0, 0, 0)) := by decide +kernel
theorem f_290_869 : rfI 290 869 = some (.aload_n 0, (0, 0, 0, 0)) := by decide +kernel
theorem f_290_870 : rfI 290 870 = some (.iload_n 3, (0, 0, 0, 0)) := by decide +kernel
theorem f_290_871 : rfI 290 871 = some (.iconst 2, (0, 0, 0, 0)) := by decide +kernel
theorem f_290_872 : rfI 290 872 = some (.iadd, (0, 0, 0, 0)) := by decide +kernel
theorem f_290_873 : rfI 290 873 = some (.iaload, (0, 0, 0, 0)) := by decide +kernel
theorem f_290_874 : rfI 290 874 = some (.invokevirtual 107, (261, 3, 11, 0)) := by decide +kernel
theorem f_290_877 : rfI 290 877 = some (.if_icmp .eq 410, (0, 0, 0, 0)) := by decide +kernel
theorem f_290_880 : rfI 290 880 = some (.iconst 0, (0, 0, 0, 0)) := by decide +kernel
theorem f_290_881 : rfI 290 881 = some (.ireturn, (0, 0, 0, 0)) := by decide +kernel
theorem f_290_882 : rfI 290 882 = some (.aload_n 1, (0, 0, 0, 0)) := by decide +kernel
theorem f_290_883 : rfI 290 883 = some (.aload_n 0, (0, 0, 0, 0)) := by decide +kernel
theorem f_290_884 : rfI 290 884 = some (.iload_n 3, (0, 0, 0, 0)) := by decide +kernel
theorem f_290_885 : rfI 290 885 = some (.iconst 1, (0, 0, 0, 0)) := by decide +kernel
theorem f_290_886 : rfI 290 886 = some (.iadd, (0, 0, 0, 0)) := by decide +kernel
theorem f_290_887 : rfI 290 887 = some (.iaload, (0, 0, 0, 0)) := by decide +kernel
theorem f_290_888 : rfI 290 888 = some (.aload_n 0, (0, 0, 0, 0)) := by decide +kernel
theorem f_290_889 : rfI 290 889 = some (.iload_n 3, (0, 0, 0, 0)) := by decide +kernel
theorem f_290_890 : rfI 290 890 = some (.iconst 2, (0, 0, 0, 0)) := by decide +kernel
theorem f_290_891 : rfI 290 891 = some (.iadd, (0, 0, 0, 0)) := by decide +kernel
theorem f_290_892 : rfI 290 892 = some (.iaload, (0, 0, 0, 0)) := by decide +kernel
theorem f_290_893 : rfI 290 893 = some (.invokevirtual 108, (156, 3, 11, 0)) := by decide +kernel
theorem f_290_896 : rfI 290 896 = some (.aload_n 2, (0, 0, 0, 0)) := by decide +kernel
theorem f_290_897 : rfI 290 897 = some (.aload_n 0, (0, 0, 0, 0)) := by decide +kernel
theorem f_290_898 : rfI 290 898 = some (.iload_n 3, (0, 0, 0, 0)) := by decide +kernel
theorem f_290_899 : rfI 290 899 = some (.iconst 1, (0, 0, 0, 0)) := by decide +kernel
theorem f_290_900 : rfI 290 900 = some (.iadd, (0, 0, 0, 0)) := by decide +kernel
theorem f_290_901 : rfI 290 901 = some (.iaload, (0, 0, 0, 0)) := by decide +kernel
theorem f_290_902 : rfI 290 902 = some (.aload_n 0, (0, 0, 0, 0)) := by decide +kernel
theorem f_290_903 : rfI 290 903 = some (.iload_n 3, (0, 0, 0, 0)) := by decide +kernel
theorem f_290_904 : rfI 290 904 = some (.iconst 2, (0, 0, 0, 0)) := by decide +kernel
theorem f_290_905 : rfI 290 905 = some (.iadd, (0, 0, 0, 0)) := by decide +kernel
theorem f_290_906 : rfI 290 906 = some (.iaload, (0, 0, 0, 0)) := by decide +kernel
theorem f_290_907 : rfI 290 907 = some (.invokevirtual 111, (264, 3, 11, 0)) := by decide +kernel
theorem f_290_910 : rfI 290 910 = some (.if_icmp .eq 377, (0, 0, 0, 0)) := by decide +kernel
theorem f_290_913 : rfI 290 913 = some (.iconst 0, (0, 0, 0, 0)) := by decide +kernel
theorem f_290_914 : rfI 290 914 = some (.ireturn, (0, 0, 0, 0)) := by decide +kernel
theorem f_290_915 : rfI 290 915 = some (.aload_n 1, (0, 0, 0, 0)) := by decide +kernel
theorem f_290_916 : rfI 290 916 = some (.aload_n 0, (0, 0, 0, 0)) := by decide +kernel
theorem f_290_917 : rfI 290 917 = some (.iload_n 3, (0, 0, 0, 0)) := by decide +kernel
theorem f_290_918 : rfI 290 918 = some (.iconst 1, (0, 0, 0, 0)) := by decide +kernel
theorem f_290_919 : rfI 290 919 = some (.iadd, (0, 0, 0, 0)) := by decide +kernel
theorem f_290_920 : rfI 290 920 = some (.iaload, (0, 0, 0, 0)) := by decide +kernel
theorem f_290_921 : rfI 290 921 = some (.invokevirtual 112, (157, 2, 11, 0)) := by decide +kernel
theorem f_290_924 : rfI 290 924 = some (.aload_n 2, (0, 0, 0, 0)) := by decide +kernel
theorem f_290_925 : rfI 290 925 = some (.aload_n 0, (0, 0, 0, 0)) := by decide +kernel
theorem f_290_926 : rfI 290 926 = some (.iload_n 3, (0, 0, 0, 0)) := by decide +kernel
theorem f_290_927 : rfI 290 927 = some (.iconst 1, (0, 0, 0, 0)) := by decide +kernel
theorem f_290_928 : rfI 290 928 = some (.iadd, (0, 0, 0, 0)) := by decide +kernel
theorem f_290_929 : rfI 290 929 = some (.iaload, (0, 0, 0, 0)) := by decide +kernel
theorem f_290_930 : rfI 290 930 = some (.invokevirtual 115, (266, 2, 11, 0)) := by decide +kernel
theorem f_290_933 : rfI 290 933 = some (.if_icmp .eq 354, (0, 0, 0, 0)) := by decide +kernel
theorem f_290_936 : rfI 290 936 = some (.iconst 0, (0, 0, 0, 0)) := by decide +kernel
theorem f_290_937 : rfI 290 937 = some (.ireturn, (0, 0, 0, 0)) := by decide +kernel
theorem f_290_938 : rfI 290 938 = some (.aload_n 1, (0, 0, 0, 0)) := by decide +kernel
theorem f_290_939 : rfI 290 939 = some (.aload_n 0, (0, 0, 0, 0)) := by decide +kernel
theorem f_290_940 : rfI 290 940 = some (.iload_n 3, (0, 0, 0, 0)) := by decide +kernel
theorem f_290_941 : rfI 290 941 = some (.iconst 1, (0, 0, 0, 0)) := by decide +kernel
theorem f_290_942 : rfI 290 942 = some (.iadd, (0, 0, 0, 0)) := by decide +kernel
theorem f_290_943 : rfI 290 943 = some (.iaload, (0, 0, 0, 0)) := by decide +kernel
theorem f_290_944 : rfI 290 944 = some (.aload_n 0, (0, 0, 0, 0)) := by decide +kernel
theorem f_290_945 : rfI 290 945 = some (.iload_n 3, (0, 0, 0, 0)) := by decide +kernel
theorem f_290_946 : rfI 290 946 = some (.iconst 2, (0, 0, 0, 0)) := by decide +kernel
theorem f_290_947 : rfI 290 947 = some (.iadd, (0, 0, 0, 0)) := by decide +kernel
theorem f_290_948 : rfI 290 948 = some (.iaload, (0, 0, 0, 0)) := by decide +kernel
theorem f_290_949 : rfI 290 949 = some (.aload_n 0, (0, 0, 0, 0)) := by decide +kernel
theorem f_290_950 : rfI 290 950 = some (.iload_n 3, (0, 0, 0, 0)) := by decide +kernel
theorem f_290_951 : rfI 290 951 = some (.iconst 3, (0, 0, 0, 0)) := by decide +kernel
theorem f_290_952 : rfI 290 952 = some (.iadd, (0, 0, 0, 0)) := by decide +kernel
theorem f_290_953 : rfI 290 953 = some (.iaload, (0, 0, 0, 0)) := by decide +kernel
theorem f_290_954 : rfI 290 954 = some (.invokevirtual 116, (159, 4, 11, 0)) := by decide +kernel
theorem f_290_957 : rfI 290 957 = some (.aload_n 2, (0, 0, 0, 0)) := by decide +kernel
theorem f_290_958 : rfI 290 958 = some (.aload_n 0, (0, 0, 0, 0)) := by decide +kernel
theorem f_290_959 : rfI 290 959 = some (.iload_n 3, (0, 0, 0, 0)) := by decide +kernel
theorem f_290_960 : rfI 290 960 = some (.iconst 1, (0, 0, 0, 0)) := by decide +kernel
theorem f_290_961 : rfI 290 961 = some (.iadd, (0, 0, 0, 0)) := by decide +kernel
theorem f_290_962 : rfI 290 962 = some (.iaload, (0, 0, 0, 0)) := by decide +kernel
theorem f_290_963 : rfI 290 963 = some (.aload_n 0, (0, 0, 0, 0)) := by decide +kernel
theorem f_290_964 : rfI 290 964 = some (.iload_n 3, (0, 0, 0, 0)) := by decide +kernel
theorem f_290_965 : rfI 290 965 = some (.iconst 2, (0, 0, 0, 0)) := by decide +kernel
theorem f_290_966 : rfI 290 966 = some (.iadd, (0, 0, 0, 0)) := by decide +kernel
theorem f_290_967 : rfI 290 967 = some (.iaload, (0, 0, 0, 0)) := by decide +kernel
theorem f_290_968 : rfI 290 968 = some (.aload_n 0, (0, 0, 0, 0)) := by decide +kernel
theorem f_290_969 : rfI 290 969 = some (.iload_n 3, (0, 0, 0, 0)) := by decide +kernel
theorem f_290_970 : rfI 290 970 = some (.iconst 3, (0, 0, 0, 0)) := by decide +kernel
theorem f_290_971 : rfI 290 971 = some (.iadd, (0, 0, 0, 0)) := by decide +kernel
theorem f_290_972 : rfI 290 972 = some (.iaload, (0, 0, 0, 0)) := by decide +kernel
theorem f_290_973 : rfI 290 973 = some (.invokevirtual 119, (267, 4, 11, 0)) := by decide +kernel
theorem f_290_976 : rfI 290 976 = some (.if_icmp .eq 311, (0, 0, 0, 0)) := by decide +kernel
theorem f_290_979 : rfI 290 979 = some (.iconst 0, (0, 0, 0, 0)) := by decide +kernel
theorem f_290_980 : rfI 290 980 = some (.ireturn, (0, 0, 0, 0)) := by decide +kernel
theorem f_290_981 : rfI 290 981 = some (.aload_n 1, (0, 0, 0, 0)) := by decide +kernel
theorem f_290_982 : rfI 290 982 = some (.aload_n 0, (0, 0, 0, 0)) := by decide +kernel
theorem f_290_983 : rfI 290 983 = some (.iload_n 3, (0, 0, 0, 0)) := by decide +kernel
theorem f_290_984 : rfI 290 984 = some (.iconst 1, (0, 0, 0, 0)) := by decide +kernel
theorem f_290_985 : rfI 290 985 = some (.iadd, (0, 0, 0, 0)) := by decide +kernel
theorem f_290_986 : rfI 290 986 = some (.iaload, (0, 0, 0, 0)) := by decide +kernel
theorem f_290_987 : rfI 290 987 = some (.aload_n 0, (0, 0, 0, 0)) := by decide +kernel
theorem f_290_988 : rfI 290 988 = some (.iload_n 3, (0, 0, 0, 0)) := by decide +kernel
theorem f_290_989 : rfI 290 989 = some (.iconst 2, (0, 0, 0, 0)) := by decide +kernel
theorem f_290_990 : rfI 290 990 = some (.iadd, (0, 0, 0, 0)) := by decide +kernel
theorem f_290_991 : rfI 290 991 = some (.iaload, (0, 0, 0, 0)) := by decide +kernel
theorem f_290_992 : rfI 290 992 = some (.aload_n 0, (0, 0, 0, 0)) := by decide +kernel
theorem f_290_993 : rfI 290 993 = some (.iload_n 3, (0, 0, 0, 0)) := by decide +kernel
theorem f_290_994 : rfI 290 994 = some (.iconst 3, (0, 0, 0, 0)) := by decide +kernel
theorem f_290_995 : rfI 290 995 = some (.iadd, (0, 0, 0, 0)) := by decide +kernel
theorem f_290_996 : rfI 290 996 = some (.iaload, (0, 0, 0, 0)) := by decide +kernel
theorem f_290_997 : rfI 290 997 = some (.invokevirtual 120, (162, 4, 11, 0)) := by decide +kernel
theorem f_290_1000 : rfI 290 1000 = some (.aload_n 2, (0, 0, 0, 0)) := by decide +kernel
theorem f_290_1001 : rfI 290 1001 = some (.aload_n 0, (0, 0, 0, 0)) := by decide +kernel
theorem f_290_1002 : rfI 290 1002 = some (.iload_n 3, (0, 0, 0, 0)) := by decide +kernel
theorem f_290_1003 : rfI 290 1003 = some (.iconst 1, (0, 0, 0, 0)) := by decide +kernel
theorem f_290_1004 : rfI 290 1004 = some (.iadd, (0, 0, 0, 0)) := by decide +kernel
theorem f_290_1005 : rfI 290 1005 = some (.iaload, (0, 0, 0, 0)) := by decide +kernel
theorem f_290_1006 : rfI 290 1006 = some (.aload_n 0, (0, 0, 0, 0)) := by decide +kernel
theorem f_290_1007 : rfI 290 1007 = some (.iload_n 3, (0, 0, 0, 0)) := by decide +kernel
theorem f_290_1008 : rfI 290 1008 = some (.iconst 2, (0, 0, 0, 0)) := by decide +kernel
theorem f_290_1009 : rfI 290 1009 = some (.iadd, (0, 0, 0, 0)) := by decide +kernel
theorem f_290_1010 : rfI 290 1010 = some (.iaload, (0, 0, 0, 0)) := by decide +kernel
theorem f_290_1011 : rfI 290 1011 = some (.aload_n 0, (0, 0, 0, 0)) := by decide +kernel
theorem f_290_1012 : rfI 290 1012 = some (.iload_n 3, (0, 0, 0, 0)) := by decide +kernel
theorem f_290_1013 : rfI 290 1013 = some (.iconst 3, (0, 0, 0, 0)) := by decide +kernel
theorem f_290_1014 : rfI 290 1014 = some (.iadd, (0, 0, 0, 0)) := by decide +kernel
theorem f_290_1015 : rfI 290 1015 = some (.iaload, (0, 0, 0, 0)) := by decide +kernel
theorem f_290_1016 : rfI 290 1016 = some (.invokevirtual 123, (269, 4, 11, 0)) := by decide +kernel
theorem f_290_1019 : rfI 290 1019 = some (.if_icmp .eq 268, (0, 0, 0, 0)) := by decide +kernel
theorem f_290_1022 : rfI 290 1022 = some (.iconst 0, (0, 0, 0, 0)) := by decide +kernel
theorem f_290_1023 : rfI 290 1023 = some (.ireturn, (0, 0, 0, 0)) := by decide +kernel
theorem f_290_1024 : rfI 290 1024 = some (.aload_n 1, (0, 0, 0, 0)) := by decide +kernel
theorem f_290_1025 : rfI 290 1025 = some (.aload_n 0, (0, 0, 0, 0)) := by decide +kernel
theorem f_290_1026 : rfI 290 1026 = some (.iload_n 3, (0, 0, 0, 0)) := by decide +kernel
theorem f_290_1027 : rfI 290 1027 = some (.iconst 1, (0, 0, 0, 0)) := by decide +kernel
theorem f_290_1028 : rfI 290 1028 = some (.iadd, (0, 0, 0, 0)) := by decide +kernel
theorem f_290_1029 : rfI 290 1029 = some (.iaload, (0, 0, 0, 0)) := by decide +kernel
theorem f_290_1030 : rfI 290 1030 = some (.aload_n 0, (0, 0, 0, 0)) := by decide +kernel
theorem f_290_1031 : rfI 290 1031 = some (.iload_n 3, (0, 0, 0, 0)) := by decide +kernel
theorem f_290_1032 : rfI 290 1032 = some (.iconst 2, (0, 0, 0, 0)) := by decide +kernel
theorem f_290_1033 : rfI 290 1033 = some (.iadd, (0, 0, 0, 0)) := by decide +kernel
theorem f_290_1034 : rfI 290 1034 = some (.iaload, (0, 0, 0, 0)) := by decide +kernel
theorem f_290_1035 : rfI 290 1035 = some (.aload_n 0, (0, 0, 0, 0)) := by decide +kernel
theorem f_290_1036 : rfI 290 1036 = some (.iload_n 3, (0, 0, 0, 0)) := by decide +kernel
theorem f_290_1037 : rfI 290 1037 = some (.iconst 3, (0, 0, 0, 0)) := by decide +kernel
theorem f_290_1038 : rfI 290 1038 = some (.iadd, (0, 0, 0, 0)) := by decide +kernel
theorem f_290_1039 : rfI 290 1039 = some (.iaload, (0, 0, 0, 0)) := by decide +kernel
theorem f_290_1040 : rfI 290 1040 = some (.invokevirtual 124, (165, 4, 11, 0)) := by decide +kernel
theorem f_290_1043 : rfI 290 1043 = some (.aload_n 2, (0, 0, 0, 0)) := by decide +kernel
theorem f_290_1044 : rfI 290 1044 = some (.aload_n 0, (0, 0, 0, 0)) := by decide +kernel
theorem f_290_1045 : rfI 290 1045 = some (.iload_n 3, (0, 0, 0, 0)) := by decide +kernel
theorem f_290_1046 : rfI 290 1046 = some (.iconst 1, (0, 0, 0, 0)) := by decide +kernel
theorem f_290_1047 : rfI 290 1047 = some (.iadd, (0, 0, 0, 0)) := by decide +kernel
theorem f_290_1048 : rfI 290 1048 = some (.iaload, (0, 0, 0, 0)) := by decide +kernel
theorem f_290_1049 : rfI 290 1049 = some (.aload_n 0, (0, 0, 0, 0)) := by decide +kernel
theorem f_290_1050 : rfI 290 1050 = some (.iload_n 3, (0, 0, 0, 0)) := by decide +kernel
theorem f_290_1051 : rfI 290 1051 = some (.iconst 2, (0, 0, 0, 0)) := by decide +kernel
theorem f_290_1052 : rfI 290 1052 = some (.iadd, (0, 0, 0, 0)) := by decide +kernel
theorem f_290_1053 : rfI 290 1053 = some (.iaload, (0, 0, 0, 0)) := by decide +kernel
theorem f_290_1054 : rfI 290 1054 = some (.aload_n 0, (0, 0, 0, 0)) := by decide +kernel
theorem f_290_1055 : rfI 290 1055 = some (.iload_n 3, (0, 0, 0, 0)) := by decide +kernel
theorem f_290_1056 : rfI 290 1056 = some (.iconst 3, (0, 0, 0, 0)) := by decide +kernel
theorem f_290_1057 : rfI 290 1057 = some (.iadd, (0, 0, 0, 0)) := by decide +kernel
theorem f_290_1058 : rfI 290 1058 = some (.iaload, (0, 0, 0, 0)) := by decide +kernel
theorem f_290_1059 : rfI 290 1059 = some (.invokevirtual 127, (270, 4, 11, 0)) := by decide +kernel
theorem f_290_1062 : rfI 290 1062 = some (.if_icmp .eq 225, (0, 0, 0, 0)) := by decide +kernel
theorem f_290_1065 : rfI 290 1065 = some (.iconst 0, (0, 0, 0, 0)) := by decide +kernel
theorem f_290_1066 : rfI 290 1066 = some (.ireturn, (0, 0, 0, 0)) := by decide +kernel
theorem f_290_1067 : rfI 290 1067 = some (.aload_n 1, (0, 0, 0, 0)) := by decide +kernel
theorem f_290_1068 : rfI 290 1068 = some (.aload_n 0, (0, 0, 0, 0)) := by decide +kernel
theorem f_290_1069 : rfI 290 1069 = some (.iload_n 3, (0, 0, 0, 0)) := by decide +kernel
theorem f_290_1070 : rfI 290 1070 = some (.iconst 1, (0, 0, 0, 0)) := by decide +kernel
theorem f_290_1071 : rfI 290 1071 = some (.iadd, (0, 0, 0, 0)) := by decide +kernel
theorem f_290_1072 : rfI 290 1072 = some (.iaload, (0, 0, 0, 0)) := by decide +kernel
theorem f_290_1073 : rfI 290 1073 = some (.aload_n 0, (0, 0, 0, 0)) := by decide +kernel
theorem f_290_1074 : rfI 290 1074 = some (.iload_n 3, (0, 0, 0, 0)) := by decide +kernel
theorem f_290_1075 : rfI 290 1075 = some (.iconst 2, (0, 0, 0, 0)) := by decide +kernel
theorem f_290_1076 : rfI 290 1076 = some (.iadd, (0, 0, 0, 0)) := by decide +kernel
theorem f_290_1077 : rfI 290 1077 = some (.iaload, (0, 0, 0, 0)) := by decide +kernel
theorem f_290_1078 : rfI 290 1078 = some (.invokevirtual 128, (166, 3, 11, 0)) := by decide +kernel
theorem f_290_1081 : rfI 290 1081 = some (.aload_n 2, (0, 0, 0, 0)) := by decide +kernel
theorem f_290_1082 : rfI 290 1082 = some (.aload_n 0, (0, 0, 0, 0)) := by decide +kernel
theorem f_290_1083 : rfI 290 1083 = some (.iload_n 3, (0, 0, 0, 0)) := by decide +kernel
theorem f_290_1084 : rfI 290 1084 = some (.iconst 1, (0, 0, 0, 0)) := by decide +kernel
theorem f_290_1085 : rfI 290 1085 = some (.iadd, (0, 0, 0, 0)) := by decide +kernel
theorem f_290_1086 : rfI 290 1086 = some (.iaload, (0, 0, 0, 0)) := by decide +kernel
theorem f_290_1087 : rfI 290 1087 = some (.aload_n 0, (0, 0, 0, 0)) := by decide +kernel
theorem f_290_1088 : rfI 290 1088 = some (.iload_n 3, (0, 0, 0, 0)) := by decide +kernel
theorem f_290_1089 : rfI 290 1089 = some (.iconst 2, (0, 0, 0, 0)) := by decide +kernel
theorem f_290_1090 : rfI 290 1090 = some (.iadd, (0, 0, 0, 0)) := by decide +kernel
theorem f_290_1091 : rfI 290 1091 = some (.iaload, (0, 0, 0, 0)) := by decide +kernel
theorem f_290_1092 : rfI 290 1092 = some (.invokevirtual 131, (273, 3, 11, 0)) := by decide +kernel
theorem f_290_1095 : rfI 290 1095 = some (.if_icmp .eq 192, (0, 0, 0, 0)) := by decide +kernel
theorem f_290_1098 : rfI 290 1098 = some (.iconst 0, (0, 0, 0, 0)) := by decide +kernel
theorem f_290_1099 : rfI 290 1099 = some (.ireturn, (0, 0, 0, 0)) := by decide +kernel
theorem f_290_1100 : rfI 290 1100 = some (.aload_n 1, (0, 0, 0, 0)) := by decide +kernel
theorem f_290_1101 : rfI 290 1101 = some (.aload_n 0, (0, 0, 0, 0)) := by decide +kernel
theorem f_290_1102 : rfI 290 1102 = some (.iload_n 3, (0, 0, 0, 0)) := by decide +kernel
theorem f_290_1103 : rfI 290 1103 = some (.iconst 1, (0, 0, 0, 0)) := by decide +kernel
theorem f_290_1104 : rfI 290 1104 = some (.iadd, (0, 0, 0, 0)) := by decide +kernel
theorem f_290_1105 : rfI 290 1105 = some (.iaload, (0, 0, 0, 0)) := by decide +kernel
theorem f_290_1106 : rfI 290 1106 = some (.aload_n 0, (0, 0, 0, 0)) := by decide +kernel
theorem f_290_1107 : rfI 290 1107 = some (.iload_n 3, (0, 0, 0, 0)) := by decide +kernel
theorem f_290_1108 : rfI 290 1108 = some (.iconst 2, (0, 0, 0, 0)) := by decide +kernel
theorem f_290_1109 : rfI 290 1109 = some (.iadd, (0, 0, 0, 0)) := by decide +kernel
theorem f_290_1110 : rfI 290 1110 = some (.iaload, (0, 0, 0, 0)) := by decide +kernel
theorem f_290_1111 : rfI 290 1111 = some (.invokevirtual 132, (167, 3, 11, 0)) := by decide +kernel
theorem f_290_1114 : rfI 290 1114 = some (.aload_n 2, (0, 0, 0, 0)) := by decide +kernel
theorem f_290_1115 : rfI 290 1115 = some (.aload_n 0, (0, 0, 0, 0)) := by decide +kernel
theorem f_290_1116 : rfI 290 1116 = some (.iload_n 3, (0, 0, 0, 0)) := by decide +kernel
theorem f_290_1117 : rfI 290 1117 = some (.iconst 1, (0, 0, 0, 0)) := by decide +kernel
theorem f_290_1118 : rfI 290 1118 = some (.iadd, (0, 0, 0, 0)) := by decide +kernel
theorem f_290_1119 : rfI 290 1119 = some (.iaload, (0, 0, 0, 0)) := by decide +kernel
theorem f_290_1120 : rfI 290 1120 = some (.aload_n 0, (0, 0, 0, 0)) := by decide +kernel
theorem f_290_1121 : rfI 290 1121 = some (.iload_n 3, (0, 0, 0, 0)) := by decide +kernel
theorem f_290_1122 : rfI 290 1122 = some (.iconst 2, (0, 0, 0, 0)) := by decide +kernel
theorem f_290_1123 : rfI 290 1123 = some (.iadd, (0, 0, 0, 0)) := by decide +kernel
theorem f_290_1124 : rfI 290 1124 = some (.iaload, (0, 0, 0, 0)) := by decide +kernel
theorem f_290_1125 : rfI 290 1125 = some (.invokevirtual 135, (275, 3, 11, 0)) := by decide +kernel
theorem f_290_1128 : rfI 290 1128 = some (.if_icmp .eq 159, (0, 0, 0, 0)) := by decide +kernel
theorem f_290_1131 : rfI 290 1131 = some (.iconst 0, (0, 0, 0, 0)) := by decide +kernel
theorem f_290_1132 : rfI 290 1132 = some (.ireturn, (0, 0, 0, 0)) := by decide +kernel
theorem f_290_1133 : rfI 290 1133 = some (.aload_n 1, (0, 0, 0, 0)) := by decide +kernel
theorem f_290_1134 : rfI 290 1134 = some (.invokevirtual 136, (169, 1, 11, 0)) := by decide +kernel
theorem f_290_1137 : rfI 290 1137 = some (.aload_n 2, (0, 0, 0, 0)) := by decide +kernel
theorem f_290_1138 : rfI 290 1138 = some (.invokevirtual 139, (277, 1, 11, 0)) := by decide +kernel
theorem f_290_1141 : rfI 290 1141 = some (.if_icmp .eq 146, (0, 0, 0, 0)) := by decide +kernel
theorem f_290_1144 : rfI 290 1144 = some (.iconst 0, (0, 0, 0, 0)) := by decide +kernel
theorem f_290_1145 : rfI 290 1145 = some (.ireturn, (0, 0, 0, 0)) := by decide +kernel
theorem f_290_1146 : rfI 290 1146 = some (.aload_n 1, (0, 0, 0, 0)) := by decide +kernel
theorem f_290_1147 : rfI 290 1147 = some (.aload_n 0, (0, 0, 0, 0)) := by decide +kernel
theorem f_290_1148 : rfI 290 1148 = some (.iload_n 3, (0, 0, 0, 0)) := by decide +kernel
theorem f_290_1149 : rfI 290 1149 = some (.iconst 1, (0, 0, 0, 0)) := by decide +kernel
theorem f_290_1150 : rfI 290 1150 = some (.iadd, (0, 0, 0, 0)) := by decide +kernel
theorem f_290_1151 : rfI 290 1151 = some (.iaload, (0, 0, 0, 0)) := by decide +kernel
theorem f_290_1152 : rfI 290 1152 = some (.invokevirtual 140, (170, 2, 11, 0)) := by decide +kernel
theorem f_290_1155 : rfI 290 1155 = some (.aload_n 2, (0, 0, 0, 0)) := by decide +kernel
theorem f_290_1156 : rfI 290 1156 = some (.aload_n 0, (0, 0, 0, 0)) := by decide +kernel
theorem f_290_1157 : rfI 290 1157 = some (.iload_n 3, (0, 0, 0, 0)) := by decide +kernel
theorem f_290_1158 : rfI 290 1158 = some (.iconst 1, (0, 0, 0, 0)) := by decide +kernel
theorem f_290_1159 : rfI 290 1159 = some (.iadd, (0, 0, 0, 0)) := by decide +kernel
theorem f_290_1160 : rfI 290 1160 = some (.iaload, (0, 0, 0, 0)) := by decide +kernel
theorem f_290_1161 : rfI 290 1161 = some (.invokevirtual 143, (279, 2, 11, 0)) := by decide +kernel
theorem f_290_1164 : rfI 290 1164 = some (.if_icmp .eq 123, (0, 0, 0, 0)) := by decide +kernel
theorem f_290_1167 : rfI 290 1167 = some (.iconst 0, (0, 0, 0, 0)) := by decide +kernel
theorem f_290_1168 : rfI 290 1168 = some (.ireturn, (0, 0, 0, 0)) := by decide +kernel
theorem f_290_1169 : rfI 290 1169 = some (.aload_n 1, (0, 0, 0, 0)) := by decide +kernel
theorem f_290_1170 : rfI 290 1170 = some (.aload_n 0, (0, 0, 0, 0)) := by decide +kernel
theorem f_290_1171 : rfI 290 1171 = some (.iload_n 3, (0, 0, 0, 0)) := by decide +kernel
theorem f_290_1172 : rfI 290 1172 = some (.iconst 1, (0, 0, 0, 0)) := by decide +kernel
theorem f_290_1173 : rfI 290 1173 = some (.iadd, (0, 0, 0, 0)) := by decide +kernel
theorem f_290_1174 : rfI 290 1174 = some (.iaload, (0, 0, 0, 0)) := by decide +kernel
theorem f_290_1175 : rfI 290 1175 = some (.invokevirtual 144, (171, 2, 11, 0)) := by decide +kernel
theorem f_290_1178 : rfI 290 1178 = some (.aload_n 2, (0, 0, 0, 0)) := by decide +kernel
theorem f_290_1179 : rfI 290 1179 = some (.aload_n 0, (0, 0, 0, 0)) := by decide +kernel
theorem f_290_1180 : rfI 290 1180 = some (.iload_n 3, (0, 0, 0, 0)) := by decide +kernel
theorem f_290_1181 : rfI 290 1181 = some (.iconst 1, (0, 0, 0, 0)) := by decide +kernel
theorem f_290_1182 : rfI 290 1182 = some (.iadd, (0, 0, 0, 0)) := by decide +kernel
theorem f_290_1183 : rfI 290 1183 = some (.iaload, (0, 0, 0, 0)) := by decide +kernel
theorem f_290_1184 : rfI 290 1184 = some (.invokevirtual 147, (281, 2, 11, 0)) := by decide +kernel
theorem f_290_1187 : rfI 290 1187 = some (.if_icmp .eq 100, (0, 0, 0, 0)) := by decide +kernel
theorem f_290_1190 : rfI 290 1190 = some (.iconst 0, (0, 0, 0, 0)) := by decide +kernel
theorem f_290_1191 : rfI 290 1191 = some (.ireturn, (0, 0, 0, 0)) := by decide +kernel
theorem f_290_1192 : rfI 290 1192 = some (.aload_n 1, (0, 0, 0, 0)) := by decide +kernel
theorem f_290_1193 : rfI 290 1193 = some (.aload_n 0, (0, 0, 0, 0)) := by decide +kernel
theorem f_290_1194 : rfI 290 1194 = some (.iload_n 3, (0, 0, 0, 0)) := by decide +kernel
theorem f_290_1195 : rfI 290 1195 = some (.iconst 1, (0, 0, 0, 0)) := by decide +kernel
theorem f_290_1196 : rfI 290 1196 = some (.iadd, (0, 0, 0, 0)) := by decide +kernel
theorem f_290_1197 : rfI 290 1197 = some (.iaload, (0, 0, 0, 0)) := by decide +kernel
theorem f_290_1198 : rfI 290 1198 = some (.invokevirtual 148, (172, 2, 11, 0)) := by decide +kernel
theorem f_290_1201 : rfI 290 1201 = some (.aload_n 2, (0, 0, 0, 0)) := by decide +kernel
theorem f_290_1202 : rfI 290 1202 = some (.aload_n 0, (0, 0, 0, 0)) := by decide +kernel
theorem f_290_1203 : rfI 290 1203 = some (.iload_n 3, (0, 0, 0, 0)) := by decide +kernel
theorem f_290_1204 : rfI 290 1204 = some (.iconst 1, (0, 0, 0, 0)) := by decide +kernel
theorem f_290_1205 : rfI 290 1205 = some (.iadd, (0, 0, 0, 0)) := by decide +kernel
theorem f_290_1206 : rfI 290 1206 = some (.iaload, (0, 0, 0, 0)) := by decide +kernel
theorem f_290_1207 : rfI 290 1207 = some (.invokevirtual 152, (282, 2, 11, 0)) := by decide +kernel
theorem f_290_1210 : rfI 290 1210 = some (.if_icmp .eq 77, (0, 0, 0, 0)) := by decide +kernel
theorem f_290_1213 : rfI 290 1213 = some (.iconst 0, (0, 0, 0, 0)) := by decide +kernel
theorem f_290_1214 : rfI 290 1214 = some (.ireturn, (0, 0, 0, 0)) := by decide +kernel
theorem f_290_1215 : rfI 290 1215 = some (.aload_n 1, (0, 0, 0, 0)) := by decide +kernel
theorem f_290_1216 : rfI 290 1216 = some (.invokevirtual 153, (173, 1, 11, 0)) := by decide +kernel
theorem f_290_1219 : rfI 290 1219 = some (.aload_n 2, (0, 0, 0, 0)) := by decide +kernel
theorem f_290_1220 : rfI 290 1220 = some (.invokevirtual 156, (283, 1, 11, 0)) := by decide +kernel
theorem f_290_1223 : rfI 290 1223 = some (.if_icmp .eq 64, (0, 0, 0, 0)) := by decide +kernel
theorem f_290_1226 : rfI 290 1226 = some (.iconst 0, (0, 0, 0, 0)) := by decide +kernel
theorem f_290_1227 : rfI 290 1227 = some (.ireturn, (0, 0, 0, 0)) := by decide +kernel
theorem f_290_1228 : rfI 290 1228 = some (.aload_n 1, (0, 0, 0, 0)) := by decide +kernel
theorem f_290_1229 : rfI 290 1229 = some (.invokevirtual 157, (174, 1, 11, 0)) := by decide +kernel
theorem f_290_1232 : rfI 290 1232 = some (.aload_n 2, (0, 0, 0, 0)) := by decide +kernel
theorem f_290_1233 : rfI 290 1233 = some (.invokevirtual 161, (284, 1, 11, 0)) := by decide +kernel
theorem f_290_1236 : rfI 290 1236 = some (.if_icmp .eq 51, (0, 0, 0, 0)) := by decide +kernel
theorem f_290_1239 : rfI 290 1239 = some (.iconst 0, (0, 0, 0, 0)) := by decide +kernel
theorem f_290_1240 : rfI 290 1240 = some (.ireturn, (0, 0, 0, 0)) := by decide +kernel
theorem f_290_1241 : rfI 290 1241 = some (.aload_n 1, (0, 0, 0, 0)) := by decide +kernel
theorem f_290_1242 : rfI 290 1242 = some (.aload_n 0, (0, 0, 0, 0)) := by decide +kernel
theorem f_290_1243 : rfI 290 1243 = some (.iload_n 3, (0, 0, 0, 0)) := by decide +kernel
theorem f_290_1244 : rfI 290 1244 = some (.iconst 1, (0, 0, 0, 0)) := by decide +kernel
theorem f_290_1245 : rfI 290 1245 = some (.iadd, (0, 0, 0, 0)) := by decide +kernel
theorem f_290_1246 : rfI 290 1246 = some (.iaload, (0, 0, 0, 0)) := by decide +kernel
theorem f_290_1247 : rfI 290 1247 = some (.invokevirtual 162, (175, 2, 11, 0)) := by decide +kernel
theorem f_290_1250 : rfI 290 1250 = some (.aload_n 2, (0, 0, 0, 0)) := by decide +kernel
theorem f_290_1251 : rfI 290 1251 = some (.aload_n 0, (0, 0, 0, 0)) := by decide +kernel
theorem f_290_1252 : rfI 290 1252 = some (.iload_n 3, (0, 0, 0, 0)) := by decide +kernel
theorem f_290_1253 : rfI 290 1253 = some (.iconst 1, (0, 0, 0, 0)) := by decide +kernel
theorem f_290_1254 : rfI 290 1254 = some (.iadd, (0, 0, 0, 0)) := by decide +kernel
theorem f_290_1255 : rfI 290 1255 = some (.iaload, (0, 0, 0, 0)) := by decide +kernel
theorem f_290_1256 : rfI 290 1256 = some (.invokevirtual 165, (285, 2, 11, 0)) := by decide +kernel
theorem f_290_1259 : rfI 290 1259 = some (.if_icmp .eq 28, (0, 0, 0, 0)) := by decide +kernel
theorem f_290_1262 : rfI 290 1262 = some (.iconst 0, (0, 0, 0, 0)) := by decide +kernel
theorem f_290_1263 : rfI 290 1263 = some (.ireturn, (0, 0, 0, 0)) := by decide +kernel
theorem f_290_1264 : rfI 290 1264 = some (.aload_n 1, (0, 0, 0, 0)) := by decide +kernel
theorem f_290_1265 : rfI 290 1265 = some (.aload_n 0, (0, 0, 0, 0)) := by decide +kernel
theorem f_290_1266 : rfI 290 1266 = some (.iload_n 3, (0, 0, 0, 0)) := by decide +kernel
theorem f_290_1267 : rfI 290 1267 = some (.iconst 1, (0, 0, 0, 0)) := by decide +kernel
theorem f_290_1268 : rfI 290 1268 = some (.iadd, (0, 0, 0, 0)) := by decide +kernel
theorem f_290_1269 : rfI 290 1269 = some (.iaload, (0, 0, 0, 0)) := by decide +kernel
theorem f_290_1270 : rfI 290 1270 = some (.invokevirtual 166, (176, 2, 11, 0)) := by decide +kernel
theorem f_290_1273 : rfI 290 1273 = some (.aload_n 2, (0, 0, 0, 0)) := by decide +kernel
theorem f_290_1274 : rfI 290 1274 = some (.aload_n 0, (0, 0, 0, 0)) := by decide +kernel
theorem f_290_1275 : rfI 290 1275 = some (.iload_n 3, (0, 0, 0, 0)) := by decide +kernel
theorem f_290_1276 : rfI 290 1276 = some (.iconst 1, (0, 0, 0, 0)) := by decide +kernel
theorem f_290_1277 : rfI 290 1277 = some (.iadd, (0, 0, 0, 0)) := by decide +kernel
theorem f_290_1278 : rfI 290 1278 = some (.iaload, (0, 0, 0, 0)) := by decide +kernel
theorem f_290_1279 : rfI 290 1279 = some (.invokevirtual 169, (286, 2, 11, 0)) := by decide +kernel
theorem f_290_1282 : rfI 290 1282 = some (.if_icmp .eq 5, (0, 0, 0, 0)) := by decide +kernel
theorem f_290_1285 : rfI 290 1285 = some (.iconst 0, (0, 0, 0, 0)) := by decide +kernel
theorem f_290_1286 : rfI 290 1286 = some (.ireturn, (0, 0, 0, 0)) := by decide +kernel
theorem f_290_1287 : rfI 290 1287 = some (.iinc 3 6, (0, 0, 0, 0)) := by decide +kernel
theorem f_290_1290 : rfI 290 1290 = some (.goto (-1272), (0, 0, 0, 0)) := by decide +kernel
theorem f_290_1293 : rfI 290 1293 = some (.iconst 1, (0, 0, 0, 0)) := by decide +kernel
theorem f_290_1294 : rfI 290 1294 = some (.ireturn, (0, 0, 0, 0)) := by decide +kernel
