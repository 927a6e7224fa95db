theorem f_198_34 : rfI 198 34 = some (.iload 4, (0, 0, 0, 0)) := by decide +kernel
theorem f_198_36 : rfI 198 36 = some (.iload 5, (0, 0, 0, 0)) := by decide +kernel
theorem f_198_38 : rfI 198 38 = some (.iload_n 1, (0, 0, 0, 0)) := by decide +kernel
theorem f_198_39 : rfI 198 39 = some (.if_icmp .ne 7, (0, 0, 0, 0)) := by decide +kernel
theorem f_198_42 : rfI 198 42 = some (.iconst 0, (0, 0, 0, 0)) := by decide +kernel
theorem f_198_43 : rfI 198 43 = some (.goto 14, (0, 0, 0, 0)) := by decide +kernel
theorem f_198_46 : rfI 198 46 = some (.aload_n 0, (0, 0, 0, 0)) := by decide +kernel
theorem f_198_47 : rfI 198 47 = some (.getfield 7, (12, 0, 2, 0)) := by decide +kernel
theorem f_198_50 : rfI 198 50 = some (.iload 5, (0, 0, 0, 0)) := by decide +kernel
theorem f_198_52 : rfI 198 52 = some (.iload_n 2, (0, 0, 0, 0)) := by decide +kernel
theorem f_198_53 : rfI 198 53 = some (.invokestatic 145, (191, 2, 10, 0)) := by decide +kernel
theorem f_198_56 : rfI 198 56 = some (.iaload, (0, 0, 0, 0)) := by decide +kernel
theorem f_198_57 : rfI 198 57 = some (.iadd, (0, 0, 0, 0)) := by decide +kernel
theorem f_198_58 : rfI 198 58 = some (.istore 4, (0, 0, 0, 0)) := by decide +kernel
theorem f_198_60 : rfI 198 60 = some (.iinc 5 1, (0, 0, 0, 0)) := by decide +kernel
theorem f_198_63 : rfI 198 63 = some (.goto (-36), (0, 0, 0, 0)) := by decide +kernel
theorem f_198_66 : rfI 198 66 = some (.iload 4, (0, 0, 0, 0)) := by decide +kernel
theorem f_198_68 : rfI 198 68 = some (.bipush 100, (0, 0, 0, 0)) := by decide +kernel
theorem f_198_70 : rfI 198 70 = some (.if_icmp .le 5, (0, 0, 0, 0)) := by decide +kernel
theorem f_198_73 : rfI 198 73 = some (.iconst 0, (0, 0, 0, 0)) := by decide +kernel
theorem f_198_74 : rfI 198 74 = some (.ireturn, (0, 0, 0, 0)) := by decide +kernel
theorem f_198_75 : rfI 198 75 = some (.aload_n 0, (0, 0, 0, 0)) := by decide +kernel
theorem f_198_76 : rfI 198 76 = some (.getfield 7, (12, 0, 2, 0)) := by decide +kernel
theorem f_198_79 : rfI 198 79 = some (.iload_n 1, (0, 0, 0, 0)) := by decide +kernel
theorem f_198_80 : rfI 198 80 = some (.iload_n 2, (0, 0, 0, 0)) := by decide +kernel
theorem f_198_81 : rfI 198 81 = some (.invokestatic 145, (191, 2, 10, 0)) := by decide +kernel
theorem f_198_84 : rfI 198 84 = some (.iload_n 3, (0, 0, 0, 0)) := by decide +kernel
theorem f_198_85 : rfI 198 85 = some (.iastore, (0, 0, 0, 0)) := by decide +kernel
theorem f_198_86 : rfI 198 86 = some (.iconst 1, (0, 0, 0, 0)) := by decide +kernel
theorem f_198_87 : rfI 198 87 = some (.ireturn, (0, 0, 0, 0)) := by decide +kernel
theorem f_199_0 : rfI 199 0 = some (.iconst 3, (0, 0, 0, 0)) := by decide +kernel
theorem f_199_1 : rfI 199 1 = some (.istore_n 2, (0, 0, 0, 0)) := by decide +kernel
theorem f_199_2 : rfI 199 2 = some (.iload_n 2, (0, 0, 0, 0)) := by decide +kernel
theorem f_199_3 : rfI 199 3 = some (.ifCond .lt 35, (0, 0, 0, 0)) := by decide +kernel
theorem f_199_6 : rfI 199 6 = some (.aload_n 0, (0, 0, 0, 0)) := by decide +kernel
theorem f_199_7 : rfI 199 7 = some (.getfield 19, (12, 3, 2, 0)) := by decide +kernel
theorem f_199_10 : rfI 199 10 = some (.aload_n 0, (0, 0, 0, 0)) := by decide +kernel
theorem f_199_11 : rfI 199 11 = some (.getfield 148, (12, 4, 0, 0)) := by decide +kernel
theorem f_199_14 : rfI 199 14 = some (.iload_n 1, (0, 0, 0, 0)) := by decide +kernel
theorem f_199_15 : rfI 199 15 = some (.bipush 8, (0, 0, 0, 0)) := by decide +kernel
theorem f_199_17 : rfI 199 17 = some (.iload_n 2, (0, 0, 0, 0)) := by decide +kernel
theorem f_199_18 : rfI 199 18 = some (.imul, (0, 0, 0, 0)) := by decide +kernel
theorem f_199_19 : rfI 199 19 = some (.ishr, (0, 0, 0, 0)) := by decide +kernel
theorem f_199_20 : rfI 199 20 = some (.i2b, (0, 0, 0, 0)) := by decide +kernel
theorem f_199_21 : rfI 199 21 = some (.bastore, (0, 0, 0, 0)) := by decide +kernel
theorem f_199_22 : rfI 199 22 = some (.aload_n 0, (0, 0, 0, 0)) := by decide +kernel
theorem f_199_23 : rfI 199 23 = some (.aload_n 0, (0, 0, 0, 0)) := by decide +kernel
theorem f_199_24 : rfI 199 24 = some (.getfield 148, (12, 4, 0, 0)) := by decide +kernel
theorem f_199_27 : rfI 199 27 = some (.iconst 1, (0, 0, 0, 0)) := by decide +kernel
theorem f_199_28 : rfI 199 28 = some (.iadd, (0, 0, 0, 0)) := by decide +kernel
theorem f_199_29 : rfI 199 29 = some (.putfield 148, (12, 4, 0, 0)) := by decide +kernel
theorem f_199_32 : rfI 199 32 = some (.iinc 2 (-1), (0, 0, 0, 0)) := by decide +kernel
theorem f_199_35 : rfI 199 35 = some (.goto (-33), (0, 0, 0, 0)) := by decide +kernel
theorem f_199_38 : rfI 199 38 = some (.return_, (0, 0, 0, 0)) := by decide +kernel
theorem f_200_0 : rfI 200 0 = some (.aload_n 0, (0, 0, 0, 0)) := by decide +kernel
theorem f_200_1 : rfI 200 1 = some (.getfield 148, (12, 4, 0, 0)) := by decide +kernel
theorem f_200_4 : rfI 200 4 = some (.bipush 20, (0, 0, 0, 0)) := by decide +kernel
theorem f_200_6 : rfI 200 6 = some (.iadd, (0, 0, 0, 0)) := by decide +kernel
theorem f_200_7 : rfI 200 7 = some (.sipush 260, (0, 0, 0, 0)) := by decide +kernel
theorem f_200_10 : rfI 200 10 = some (.if_icmp .le 5, (0, 0, 0, 0)) := by decide +kernel
theorem f_200_13 : rfI 200 13 = some (.iconst (-1), (0, 0, 0, 0)) := by decide +kernel
theorem f_200_14 : rfI 200 14 = some (.ireturn, (0, 0, 0, 0)) := by decide +kernel
theorem f_200_15 : rfI 200 15 = some (.aload_n 0, (0, 0, 0, 0)) := by decide +kernel
theorem f_200_16 : rfI 200 16 = some (.iload_n 1, (0, 0, 0, 0)) := by decide +kernel
theorem f_200_17 : rfI 200 17 = some (.invokevirtual 152, (199, 2, 11, 0)) := by decide +kernel
theorem f_200_20 : rfI 200 20 = some (.aload_n 0, (0, 0, 0, 0)) := by decide +kernel
theorem f_200_21 : rfI 200 21 = some (.iload_n 2, (0, 0, 0, 0)) := by decide +kernel
theorem f_200_22 : rfI 200 22 = some (.invokevirtual 152, (199, 2, 11, 0)) := by decide +kernel
theorem f_200_25 : rfI 200 25 = some (.aload_n 0, (0, 0, 0, 0)) := by decide +kernel
theorem f_200_26 : rfI 200 26 = some (.iload_n 3, (0, 0, 0, 0)) := by decide +kernel
theorem f_200_27 : rfI 200 27 = some (.invokevirtual 152, (199, 2, 11, 0)) := by decide +kernel
theorem f_200_30 : rfI 200 30 = some (.aload_n 0, (0, 0, 0, 0)) := by decide +kernel
theorem f_200_31 : rfI 200 31 = some (.iload 4, (0, 0, 0, 0)) := by decide +kernel
theorem f_200_33 : rfI 200 33 = some (.invokevirtual 152, (199, 2, 11, 0)) := by decide +kernel
theorem f_200_36 : rfI 200 36 = some (.aload_n 0, (0, 0, 0, 0)) := by decide +kernel
theorem f_200_37 : rfI 200 37 = some (.iload 5, (0, 0, 0, 0)) := by decide +kernel
theorem f_200_39 : rfI 200 39 = some (.invokevirtual 152, (199, 2, 11, 0)) := by decide +kernel
theorem f_200_42 : rfI 200 42 = some (.aload_n 0, (0, 0, 0, 0)) := by decide +kernel
theorem f_200_43 : rfI 200 43 = some (.getfield 148, (12, 4, 0, 0)) := by decide +kernel
theorem f_200_46 : rfI 200 46 = some (.ireturn, (0, 0, 0, 0)) := by decide +kernel
theorem f_201_0 : rfI 201 0 = some (.aload_n 0, (0, 0, 0, 0)) := by decide +kernel
theorem f_201_1 : rfI 201 1 = some (.getfield 19, (12, 3, 2, 0)) := by decide +kernel
theorem f_201_4 : rfI 201 4 = some (.iload_n 1, (0, 0, 0, 0)) := by decide +kernel
theorem f_201_5 : rfI 201 5 = some (.baload, (0, 0, 0, 0)) := by decide +kernel
theorem f_201_6 : rfI 201 6 = some (.sipush 255, (0, 0, 0, 0)) := by decide +kernel
theorem f_201_9 : rfI 201 9 = some (.iand, (0, 0, 0, 0)) := by decide +kernel
theorem f_201_10 : rfI 201 10 = some (.ireturn, (0, 0, 0, 0)) := by decide +kernel
theorem f_202_0 : rfI 202 0 = some (.aload_n 0, (0, 0, 0, 0)) := by decide +kernel
theorem f_202_1 : rfI 202 1 = some (.getfield 156, (12, 5, 0, 0)) := by decide +kernel
theorem f_202_4 : rfI 202 4 = some (.aload_n 0, (0, 0, 0, 0)) := by decide +kernel
theorem f_202_5 : rfI 202 5 = some (.getfield 159, (12, 6, 0, 0)) := by decide +kernel
theorem f_202_8 : rfI 202 8 = some (.if_icmp .ge 19, (0, 0, 0, 0)) := by decide +kernel
theorem f_202_11 : rfI 202 11 = some (.aload_n 0, (0, 0, 0, 0)) := by decide +kernel
theorem f_202_12 : rfI 202 12 = some (.getfield 19, (12, 3, 2, 0)) := by decide +kernel
theorem f_202_15 : rfI 202 15 = some (.aload_n 0, (0, 0, 0, 0)) := by decide +kernel
theorem f_202_16 : rfI 202 16 = some (.getfield 156, (12, 5, 0, 0)) := by decide +kernel
theorem f_202_19 : rfI 202 19 = some (.baload, (0, 0, 0, 0)) := by decide +kernel
theorem f_202_20 : rfI 202 20 = some (.sipush 255, (0, 0, 0, 0)) := by decide +kernel
theorem f_202_23 : rfI 202 23 = some (.iand, (0, 0, 0, 0)) := by decide +kernel
theorem f_202_24 : rfI 202 24 = some (.goto 4, (0, 0, 0, 0)) := by decide +kernel
theorem f_202_27 : rfI 202 27 = some (.iconst (-1), (0, 0, 0, 0)) := by decide +kernel
theorem f_202_28 : rfI 202 28 = some (.ireturn, (0, 0, 0, 0)) := by decide +kernel
theorem f_203_0 : rfI 203 0 = some (.aload_n 0, (0, 0, 0, 0)) := by decide +kernel
theorem f_203_1 : rfI 203 1 = some (.invokevirtual 162, (202, 1, 11, 0)) := by decide +kernel
theorem f_203_4 : rfI 203 4 = some (.bipush 48, (0, 0, 0, 0)) := by decide +kernel
theorem f_203_6 : rfI 203 6 = some (.if_icmp .lt 16, (0, 0, 0, 0)) := by decide +kernel
theorem f_203_9 : rfI 203 9 = some (.aload_n 0, (0, 0, 0, 0)) := by decide +kernel
theorem f_203_10 : rfI 203 10 = some (.invokevirtual 162, (202, 1, 11, 0)) := by decide +kernel
theorem f_203_13 : rfI 203 13 = some (.bipush 57, (0, 0, 0, 0)) := by decide +kernel
theorem f_203_15 : rfI 203 15 = some (.if_icmp .gt 7, (0, 0, 0, 0)) := by decide +kernel
theorem f_203_18 : rfI 203 18 = some (.iconst 1, (0, 0, 0, 0)) := by decide +kernel
theorem f_203_19 : rfI 203 19 = some (.goto 4, (0, 0, 0, 0)) := by decide +kernel
theorem f_203_22 : rfI 203 22 = some (.iconst 0, (0, 0, 0, 0)) := by decide +kernel
theorem f_203_23 : rfI 203 23 = some (.ireturn, (0, 0, 0, 0)) := by decide +kernel
theorem f_204_0 : rfI 204 0 = some (.aload_n 0, (0, 0, 0, 0)) := by decide +kernel
theorem f_204_1 : rfI 204 1 = some (.sipush (-1000), (0, 0, 0, 0)) := by decide +kernel
theorem f_204_4 : rfI 204 4 = some (.iload_n 1, (0, 0, 0, 0)) := by decide +kernel
theorem f_204_5 : rfI 204 5 = some (.imul, (0, 0, 0, 0)) := by decide +kernel
theorem f_204_6 : rfI 204 6 = some (.iload_n 2, (0, 0, 0, 0)) := by decide +kernel
theorem f_204_7 : rfI 204 7 = some (.isub, (0, 0, 0, 0)) := by decide +kernel
theorem f_204_8 : rfI 204 8 = some (.putfield 166, (12, 7, 0, 0)) := by decide +kernel
theorem f_204_11 : rfI 204 11 = some (.iconst 0, (0, 0, 0, 0)) := by decide +kernel
theorem f_204_12 : rfI 204 12 = some (.ireturn, (0, 0, 0, 0)) := by decide +kernel
theorem f_205_0 : rfI 205 0 = some (.aload_n 0, (0, 0, 0, 0)) := by decide +kernel
theorem f_205_1 : rfI 205 1 = some (.invokevirtual 162, (202, 1, 11, 0)) := by decide +kernel
theorem f_205_4 : rfI 205 4 = some (.iload_n 1, (0, 0, 0, 0)) := by decide +kernel
theorem f_205_5 : rfI 205 5 = some (.if_icmp .eq 13, (0, 0, 0, 0)) := by decide +kernel
theorem f_205_8 : rfI 205 8 = some (.aload_n 0, (0, 0, 0, 0)) := by decide +kernel
theorem f_205_9 : rfI 205 9 = some (.iconst 1, (0, 0, 0, 0)) := by decide +kernel
theorem f_205_10 : rfI 205 10 = some (.aload_n 0, (0, 0, 0, 0)) := by decide +kernel
theorem f_205_11 : rfI 205 11 = some (.getfield 156, (12, 5, 0, 0)) := by decide +kernel
theorem f_205_14 : rfI 205 14 = some (.invokevirtual 169, (204, 3, 11, 0)) := by decide +kernel
theorem f_205_17 : rfI 205 17 = some (.ireturn, (0, 0, 0, 0)) := by decide +kernel
theorem f_205_18 : rfI 205 18 = some (.aload_n 0, (0, 0, 0, 0)) := by decide +kernel
theorem f_205_19 : rfI 205 19 = some (.aload_n 0, (0, 0, 0, 0)) := by decide +kernel
theorem f_205_20 : rfI 205 20 = some (.getfield 156, (12, 5, 0, 0)) := by decide +kernel
theorem f_205_23 : rfI 205 23 = some (.iconst 1, (0, 0, 0, 0)) := by decide +kernel
theorem f_205_24 : rfI 205 24 = some (.iadd, (0, 0, 0, 0)) := by decide +kernel
theorem f_205_25 : rfI 205 25 = some (.putfield 156, (12, 5, 0, 0)) := by decide +kernel
theorem f_205_28 : rfI 205 28 = some (.iconst 1, (0, 0, 0, 0)) := by decide +kernel
theorem f_205_29 : rfI 205 29 = some (.ireturn, (0, 0, 0, 0)) := by decide +kernel
theorem f_206_0 : rfI 206 0 = some (.aload_n 0, (0, 0, 0, 0)) := by decide +kernel
theorem f_206_1 : rfI 206 1 = some (.getfield 156, (12, 5, 0, 0)) := by decide +kernel
theorem f_206_4 : rfI 206 4 = some (.istore_n 1, (0, 0, 0, 0)) := by decide +kernel
theorem f_206_5 : rfI 206 5 = some (.aload_n 0, (0, 0, 0, 0)) := by decide +kernel
theorem f_206_6 : rfI 206 6 = some (.iconst 0, (0, 0, 0, 0)) := by decide +kernel
theorem f_206_7 : rfI 206 7 = some (.putfield 172, (12, 8, 0, 0)) := by decide +kernel
theorem f_206_10 : rfI 206 10 = some (.aload_n 0, (0, 0, 0, 0)) := by decide +kernel
theorem f_206_11 : rfI 206 11 = some (.invokevirtual 175, (203, 1, 11, 0)) := by decide +kernel
theorem f_206_14 : rfI 206 14 = some (.ifCond .eq 55, (0, 0, 0, 0)) := by decide +kernel
theorem f_206_17 : rfI 206 17 = some (.aload_n 0, (0, 0, 0, 0)) := by decide +kernel
theorem f_206_18 : rfI 206 18 = some (.getfield 156, (12, 5, 0, 0)) := by decide +kernel
theorem f_206_21 : rfI 206 21 = some (.iload_n 1, (0, 0, 0, 0)) := by decide +kernel
theorem f_206_22 : rfI 206 22 = some (.iconst 5, (0, 0, 0, 0)) := by decide +kernel
theorem f_206_23 : rfI 206 23 = some (.iadd, (0, 0, 0, 0)) := by decide +kernel
theorem f_206_24 : rfI 206 24 = some (.if_icmp .ne 13, (0, 0, 0, 0)) := by decide +kernel
theorem f_206_27 : rfI 206 27 = some (.aload_n 0, (0, 0, 0, 0)) := by decide +kernel
theorem f_206_28 : rfI 206 28 = some (.iconst 2, (0, 0, 0, 0)) := by decide +kernel
theorem f_206_29 : rfI 206 29 = some (.aload_n 0, (0, 0, 0, 0)) := by decide +kernel
theorem f_206_30 : rfI 206 30 = some (.getfield 156, (12, 5, 0, 0)) := by decide +kernel
theorem f_206_33 : rfI 206 33 = some (.invokevirtual 169, (204, 3, 11, 0)) := by decide +kernel
theorem f_206_36 : rfI 206 36 = some (.ireturn, (0, 0, 0, 0)) := by decide +kernel
theorem f_206_37 : rfI 206 37 = some (.aload_n 0, (0, 0, 0, 0)) := by decide +kernel
theorem f_206_38 : rfI 206 38 = some (.bipush 10, (0, 0, 0, 0)) := by decide +kernel
theorem f_206_40 : rfI 206 40 = some (.aload_n 0, (0, 0, 0, 0)) := by decide +kernel
theorem f_206_41 : rfI 206 41 = some (.getfield 172, (12, 8, 0, 0)) := by decide +kernel
theorem f_206_44 : rfI 206 44 = some (.imul, (0, 0, 0, 0)) := by decide +kernel
theorem f_206_45 : rfI 206 45 = some (.aload_n 0, (0, 0, 0, 0)) := by decide +kernel
theorem f_206_46 : rfI 206 46 = some (.invokevirtual 162, (202, 1, 11, 0)) := by decide +kernel
theorem f_206_49 : rfI 206 49 = some (.iadd, (0, 0, 0, 0)) := by decide +kernel
theorem f_206_50 : rfI 206 50 = some (.bipush 48, (0, 0, 0, 0)) := by decide +kernel
theorem f_206_52 : rfI 206 52 = some (.isub, (0, 0, 0, 0)) := by decide +kernel
theorem f_206_53 : rfI 206 53 = some (.putfield 172, (12, 8, 0, 0)) := by decide +kernel
theorem f_206_56 : rfI 206 56 = some (.aload_n 0, (0, 0, 0, 0)) := by decide +kernel
theorem f_206_57 : rfI 206 57 = some (.aload_n 0, (0, 0, 0, 0)) := by decide +kernel
theorem f_206_58 : rfI 206 58 = some (.getfield 156, (12, 5, 0, 0)) := by decide +kernel
theorem f_206_61 : rfI 206 61 = some (.iconst 1, (0, 0, 0, 0)) := by decide +kernel
theorem f_206_62 : rfI 206 62 = some (.iadd, (0, 0, 0, 0)) := by decide +kernel
theorem f_206_63 : rfI 206 63 = some (.putfield 156, (12, 5, 0, 0)) := by decide +kernel
theorem f_206_66 : rfI 206 66 = some (.goto (-56), (0, 0, 0, 0)) := by decide +kernel
theorem f_206_69 : rfI 206 69 = some (.iconst 1, (0, 0, 0, 0)) := by decide +kernel
theorem f_206_70 : rfI 206 70 = some (.ireturn, (0, 0, 0, 0)) := by decide +kernel
theorem f_207_0 : rfI 207 0 = some (.aload_n 0, (0, 0, 0, 0)) := by decide +kernel
theorem f_207_1 : rfI 207 1 = some (.getfield 23, (12, 14, 2, 0)) := by decide +kernel
theorem f_207_4 : rfI 207 4 = some (.aload_n 0, (0, 0, 0, 0)) := by decide +kernel
theorem f_207_5 : rfI 207 5 = some (.getfield 179, (12, 10, 0, 0)) := by decide +kernel
theorem f_207_8 : rfI 207 8 = some (.ldc 182, (4, 4, 4, 1048576)) := by decide +kernel
theorem f_207_10 : rfI 207 10 = some (.iload_n 1, (0, 0, 0, 0)) := by decide +kernel
theorem f_207_11 : rfI 207 11 = some (.imul, (0, 0, 0, 0)) := by decide +kernel
theorem f_207_12 : rfI 207 12 = some (.iload_n 2, (0, 0, 0, 0)) := by decide +kernel
theorem f_207_13 : rfI 207 13 = some (.iadd, (0, 0, 0, 0)) := by decide +kernel
theorem f_207_14 : rfI 207 14 = some (.iastore, (0, 0, 0, 0)) := by decide +kernel
theorem f_207_15 : rfI 207 15 = some (.aload_n 0, (0, 0, 0, 0)) := by decide +kernel
theorem f_207_16 : rfI 207 16 = some (.aload_n 0, (0, 0, 0, 0)) := by decide +kernel
theorem f_207_17 : rfI 207 17 = some (.getfield 179, (12, 10, 0, 0)) := by decide +kernel
theorem f_207_20 : rfI 207 20 = some (.iconst 1, (0, 0, 0, 0)) := by decide +kernel
theorem f_207_21 : rfI 207 21 = some (.iadd, (0, 0, 0, 0)) := by decide +kernel
theorem f_207_22 : rfI 207 22 = some (.putfield 179, (12, 10, 0, 0)) := by decide +kernel
theorem f_207_25 : rfI 207 25 = some (.return_, (0, 0, 0, 0)) := by decide +kernel
theorem f_208_0 : rfI 208 0 = some (.aload_n 0, (0, 0, 0, 0)) := by decide +kernel
theorem f_208_1 : rfI 208 1 = some (.getfield 183, (12, 9, 0, 0)) := by decide +kernel
theorem f_208_4 : rfI 208 4 = some (.bipush 6, (0, 0, 0, 0)) := by decide +kernel
theorem f_208_6 : rfI 208 6 = some (.if_icmp .ne 13, (0, 0, 0, 0)) := by decide +kernel
theorem f_208_9 : rfI 208 9 = some (.aload_n 0, (0, 0, 0, 0)) := by decide +kernel
theorem f_208_10 : rfI 208 10 = some (.iconst 5, (0, 0, 0, 0)) := by decide +kernel
theorem f_208_11 : rfI 208 11 = some (.aload_n 0, (0, 0, 0, 0)) := by decide +kernel
theorem f_208_12 : rfI 208 12 = some (.getfield 156, (12, 5, 0, 0)) := by decide +kernel
theorem f_208_15 : rfI 208 15 = some (.invokevirtual 169, (204, 3, 11, 0)) := by decide +kernel
theorem f_208_18 : rfI 208 18 = some (.ireturn, (0, 0, 0, 0)) := by decide +kernel
theorem f_208_19 : rfI 208 19 = some (.aload_n 0, (0, 0, 0, 0)) := by decide +kernel
theorem f_208_20 : rfI 208 20 = some (.aload_n 0, (0, 0, 0, 0)) := by decide +kernel
theorem f_208_21 : rfI 208 21 = some (.getfield 183, (12, 9, 0, 0)) := by decide +kernel
theorem f_208_24 : rfI 208 24 = some (.iconst 1, (0, 0, 0, 0)) := by decide +kernel
theorem f_208_25 : rfI 208 25 = some (.iadd, (0, 0, 0, 0)) := by decide +kernel
theorem f_208_26 : rfI 208 26 = some (.putfield 183, (12, 9, 0, 0)) := by decide +kernel
theorem f_208_29 : rfI 208 29 = some (.aload_n 0, (0, 0, 0, 0)) := by decide +kernel
theorem f_208_30 : rfI 208 30 = some (.getfield 26, (12, 15, 2, 0)) := by decide +kernel
theorem f_208_33 : rfI 208 33 = some (.aload_n 0, (0, 0, 0, 0)) := by decide +kernel
theorem f_208_34 : rfI 208 34 = some (.getfield 186, (12, 11, 0, 0)) := by decide +kernel
theorem f_208_37 : rfI 208 37 = some (.ldc 182, (4, 4, 4, 1048576)) := by decide +kernel
theorem f_208_39 : rfI 208 39 = some (.iload_n 1, (0, 0, 0, 0)) := by decide +kernel
theorem f_208_40 : rfI 208 40 = some (.imul, (0, 0, 0, 0)) := by decide +kernel
theorem f_208_41 : rfI 208 41 = some (.iastore, (0, 0, 0, 0)) := by decide +kernel
theorem f_208_42 : rfI 208 42 = some (.aload_n 0, (0, 0, 0, 0)) := by decide +kernel
theorem f_208_43 : rfI 208 43 = some (.aload_n 0, (0, 0, 0, 0)) := by decide +kernel
theorem f_208_44 : rfI 208 44 = some (.getfield 186, (12, 11, 0, 0)) := by decide +kernel
theorem f_208_47 : rfI 208 47 = some (.iconst 1, (0, 0, 0, 0)) := by decide +kernel
theorem f_208_48 : rfI 208 48 = some (.iadd, (0, 0, 0, 0)) := by decide +kernel
theorem f_208_49 : rfI 208 49 = some (.putfield 186, (12, 11, 0, 0)) := by decide +kernel
theorem f_208_52 : rfI 208 52 = some (.aload_n 0, (0, 0, 0, 0)) := by decide +kernel
theorem f_208_53 : rfI 208 53 = some (.aload_n 0, (0, 0, 0, 0)) := by decide +kernel
theorem f_208_54 : rfI 208 54 = some (.getfield 156, (12, 5, 0, 0)) := by decide +kernel
theorem f_208_57 : rfI 208 57 = some (.iconst 1, (0, 0, 0, 0)) := by decide +kernel
theorem f_208_58 : rfI 208 58 = some (.iadd, (0, 0, 0, 0)) := by decide +kernel
theorem f_208_59 : rfI 208 59 = some (.putfield 156, (12, 5, 0, 0)) := by decide +kernel
theorem f_208_62 : rfI 208 62 = some (.iconst 1, (0, 0, 0, 0)) := by decide +kernel
theorem f_208_63 : rfI 208 63 = some (.ireturn, (0, 0, 0, 0)) := by decide +kernel
theorem f_209_0 : rfI 209 0 = some (.aload_n 0, (0, 0, 0, 0)) := by decide +kernel
theorem f_209_1 : rfI 209 1 = some (.getfield 186, (12, 11, 0, 0)) := by decide +kernel
theorem f_209_4 : rfI 209 4 = some (.ifCond .ne 7, (0, 0, 0, 0)) := by decide +kernel
theorem f_209_7 : rfI 209 7 = some (.iconst (-1), (0, 0, 0, 0)) := by decide +kernel
theorem f_209_8 : rfI 209 8 = some (.goto 17, (0, 0, 0, 0)) := by decide +kernel
theorem f_209_11 : rfI 209 11 = some (.aload_n 0, (0, 0, 0, 0)) := by decide +kernel
theorem f_209_12 : rfI 209 12 = some (.getfield 26, (12, 15, 2, 0)) := by decide +kernel
theorem f_209_15 : rfI 209 15 = some (.aload_n 0, (0, 0, 0, 0)) := by decide +kernel
theorem f_209_16 : rfI 209 16 = some (.getfield 186, (12, 11, 0, 0)) := by decide +kernel
theorem f_209_19 : rfI 209 19 = some (.iconst 1, (0, 0, 0, 0)) := by decide +kernel
theorem f_209_20 : rfI 209 20 = some (.isub, (0, 0, 0, 0)) := by decide +kernel
theorem f_209_21 : rfI 209 21 = some (.iaload, (0, 0, 0, 0)) := by decide +kernel
theorem f_209_22 : rfI 209 22 = some (.ldc 182, (4, 4, 4, 1048576)) := by decide +kernel
theorem f_209_24 : rfI 209 24 = some (.idiv, (0, 0, 0, 0)) := by decide +kernel
theorem f_209_25 : rfI 209 25 = some (.ireturn, (0, 0, 0, 0)) := by decide +kernel
theorem f_210_0 : rfI 210 0 = some (.iload_n 0, (0, 0, 0, 0)) := by decide +kernel
theorem f_210_1 : rfI 210 1 = some (.tableswitch 86 98 111 #[71, 73, 81, 79, 86, 77, 86, 86, 86, 86, 86, 83, 86, 75], (0, 0, 0, 0)) := by decide +kernel
theorem f_210_72 : rfI 210 72 = some (.iconst 0, (0, 0, 0, 0)) := by decide +kernel
theorem f_210_73 : rfI 210 73 = some (.ireturn, (0, 0, 0, 0)) := by decide +kernel
theorem f_210_74 : rfI 210 74 = some (.iconst 1, (0, 0, 0, 0)) := by decide +kernel
theorem f_210_75 : rfI 210 75 = some (.ireturn, (0, 0, 0, 0)) := by decide +kernel
theorem f_210_76 : rfI 210 76 = some (.iconst 2, (0, 0, 0, 0)) := by decide +kernel
theorem f_210_77 : rfI 210 77 = some (.ireturn, (0, 0, 0, 0)) := by decide +kernel
theorem f_210_78 : rfI 210 78 = some (.iconst 3, (0, 0, 0, 0)) := by decide +kernel
theorem f_210_79 : rfI 210 79 = some (.ireturn, (0, 0, 0, 0)) := by decide +kernel
theorem f_210_80 : rfI 210 80 = some (.iconst 4, (0, 0, 0, 0)) := by decide +kernel
theorem f_210_81 : rfI 210 81 = some (.ireturn, (0, 0, 0, 0)) := by decide +kernel
theorem f_210_82 : rfI 210 82 = some (.iconst 5, (0, 0, 0, 0)) := by decide +kernel
theorem f_210_83 : rfI 210 83 = some (.ireturn, (0, 0, 0, 0)) := by decide +kernel
theorem f_210_84 : rfI 210 84 = some (.bipush 6, (0, 0, 0, 0)) := by decide +kernel
theorem f_210_86 : rfI 210 86 = some (.ireturn, (0, 0, 0, 0)) := by decide +kernel
theorem f_210_87 : rfI 210 87 = some (.iconst (-1), (0, 0, 0, 0)) := by decide +kernel
theorem f_210_88 : rfI 210 88 = some (.ireturn, (0, 0, 0, 0)) := by decide +kernel
theorem f_211_0 : rfI 211 0 = some (.iload_n 0, (0, 0, 0, 0)) := by decide +kernel
theorem f_211_1 : rfI 211 1 = some (.bipush 43, (0, 0, 0, 0)) := by decide +kernel
theorem f_211_3 : rfI 211 3 = some (.if_icmp .ne 7, (0, 0, 0, 0)) := by decide +kernel
theorem f_211_6 : rfI 211 6 = some (.iconst 2, (0, 0, 0, 0)) := by decide +kernel
theorem f_211_7 : rfI 211 7 = some (.goto 45, (0, 0, 0, 0)) := by decide +kernel
theorem f_211_10 : rfI 211 10 = some (.iload_n 0, (0, 0, 0, 0)) := by decide +kernel
theorem f_211_11 : rfI 211 11 = some (.bipush 45, (0, 0, 0, 0)) := by decide +kernel
theorem f_211_13 : rfI 211 13 = some (.if_icmp .ne 7, (0, 0, 0, 0)) := by decide +kernel
theorem f_211_16 : rfI 211 16 = some (.iconst 3, (0, 0, 0, 0)) := by decide +kernel
theorem f_211_17 : rfI 211 17 = some (.goto 35, (0, 0, 0, 0)) := by decide +kernel
theorem f_211_20 : rfI 211 20 = some (.iload_n 0, (0, 0, 0, 0)) := by decide +kernel
theorem f_211_21 : rfI 211 21 = some (.bipush 42, (0, 0, 0, 0)) := by decide +kernel
theorem f_211_23 : rfI 211 23 = some (.if_icmp .ne 7, (0, 0, 0, 0)) := by decide +kernel
theorem f_211_26 : rfI 211 26 = some (.iconst 4, (0, 0, 0, 0)) := by decide +kernel
theorem f_211_27 : rfI 211 27 = some (.goto 25, (0, 0, 0, 0)) := by decide +kernel
theorem f_211_30 : rfI 211 30 = some (.iload_n 0, (0, 0, 0, 0)) := by decide +kernel
theorem f_211_31 : rfI 211 31 = some (.bipush 47, (0, 0, 0, 0)) := by decide +kernel
theorem f_211_33 : rfI 211 33 = some (.if_icmp .ne 7, (0, 0, 0, 0)) := by decide +kernel
theorem f_211_36 : rfI 211 36 = some (.iconst 5, (0, 0, 0, 0)) := by decide +kernel
theorem f_211_37 : rfI 211 37 = some (.goto 15, (0, 0, 0, 0)) := by decide +kernel
theorem f_211_40 : rfI 211 40 = some (.iload_n 0, (0, 0, 0, 0)) := by decide +kernel
theorem f_211_41 : rfI 211 41 = some (.bipush 37, (0, 0, 0, 0)) := by decide +kernel
theorem f_211_43 : rfI 211 43 = some (.if_icmp .ne 8, (0, 0, 0, 0)) := by decide +kernel
theorem f_211_46 : rfI 211 46 = some (.bipush 6, (0, 0, 0, 0)) := by decide +kernel
theorem f_211_48 : rfI 211 48 = some (.goto 4, (0, 0, 0, 0)) := by decide +kernel
theorem f_211_51 : rfI 211 51 = some (.iconst (-1), (0, 0, 0, 0)) := by decide +kernel
theorem f_211_52 : rfI 211 52 = some (.ireturn, (0, 0, 0, 0)) := by decide +kernel
theorem f_212_0 : rfI 212 0 = some (.aload_n 0, (0, 0, 0, 0)) := by decide +kernel
theorem f_212_1 : rfI 212 1 = some (.invokevirtual 189, (209, 1, 11, 0)) := by decide +kernel
theorem f_212_4 : rfI 212 4 = some (.iconst 4, (0, 0, 0, 0)) := by decide +kernel
theorem f_212_5 : rfI 212 5 = some (.if_icmp .lt 12, (0, 0, 0, 0)) := by decide +kernel
theorem f_212_8 : rfI 212 8 = some (.aload_n 0, (0, 0, 0, 0)) := by decide +kernel
theorem f_212_9 : rfI 212 9 = some (.invokevirtual 189, (209, 1, 11, 0)) := by decide +kernel
theorem f_212_12 : rfI 212 12 = some (.bipush 6, (0, 0, 0, 0)) := by decide +kernel
theorem f_212_14 : rfI 212 14 = some (.if_icmp .le 23, (0, 0, 0, 0)) := by decide +kernel
theorem f_212_17 : rfI 212 17 = some (.iload_n 1, (0, 0, 0, 0)) := by decide +kernel
theorem f_212_18 : rfI 212 18 = some (.ifCond .eq 41, (0, 0, 0, 0)) := by decide +kernel
theorem f_212_21 : rfI 212 21 = some (.aload_n 0, (0, 0, 0, 0)) := by decide +kernel
theorem f_212_22 : rfI 212 22 = some (.invokevirtual 189, (209, 1, 11, 0)) := by decide +kernel
theorem f_212_25 : rfI 212 25 = some (.iconst 2, (0, 0, 0, 0)) := by decide +kernel
theorem f_212_26 : rfI 212 26 = some (.if_icmp .eq 11, (0, 0, 0, 0)) := by decide +kernel
theorem f_212_29 : rfI 212 29 = some (.aload_n 0, (0, 0, 0, 0)) := by decide +kernel
theorem f_212_30 : rfI 212 30 = some (.invokevirtual 189, (209, 1, 11, 0)) := by decide +kernel
theorem f_212_33 : rfI 212 33 = some (.iconst 3, (0, 0, 0, 0)) := by decide +kernel
theorem f_212_34 : rfI 212 34 = some (.if_icmp .ne 25, (0, 0, 0, 0)) := by decide +kernel
theorem f_212_37 : rfI 212 37 = some (.aload_n 0, (0, 0, 0, 0)) := by decide +kernel
theorem f_212_38 : rfI 212 38 = some (.aload_n 0, (0, 0, 0, 0)) := by decide +kernel
theorem f_212_39 : rfI 212 39 = some (.invokevirtual 189, (209, 1, 11, 0)) := by decide +kernel
theorem f_212_42 : rfI 212 42 = some (.iconst 0, (0, 0, 0, 0)) := by decide +kernel
theorem f_212_43 : rfI 212 43 = some (.invokevirtual 192, (207, 3, 11, 0)) := by decide +kernel
theorem f_212_46 : rfI 212 46 = some (.aload_n 0, (0, 0, 0, 0)) := by decide +kernel
theorem f_212_47 : rfI 212 47 = some (.aload_n 0, (0, 0, 0, 0)) := by decide +kernel
theorem f_212_48 : rfI 212 48 = some (.getfield 186, (12, 11, 0, 0)) := by decide +kernel
theorem f_212_51 : rfI 212 51 = some (.iconst 1, (0, 0, 0, 0)) := by decide +kernel
theorem f_212_52 : rfI 212 52 = some (.isub, (0, 0, 0, 0)) := by decide +kernel
theorem f_212_53 : rfI 212 53 = some (.putfield 186, (12, 11, 0, 0)) := by decide +kernel
theorem f_212_56 : rfI 212 56 = some (.goto (-56), (0, 0, 0, 0)) := by decide +kernel
theorem f_212_59 : rfI 212 59 = some (.return_, (0, 0, 0, 0)) := by decide +kernel
theorem f_213_0 : rfI 213 0 = some (.aload_n 0, (0, 0, 0, 0)) := by decide +kernel
theorem f_213_1 : rfI 213 1 = some (.invokevirtual 162, (202, 1, 11, 0)) := by decide +kernel
theorem f_213_4 : rfI 213 4 = some (.bipush 91, (0, 0, 0, 0)) := by decide +kernel
theorem f_213_6 : rfI 213 6 = some (.if_icmp .ne 14, (0, 0, 0, 0)) := by decide +kernel
theorem f_213_9 : rfI 213 9 = some (.aload_n 0, (0, 0, 0, 0)) := by decide +kernel
theorem f_213_10 : rfI 213 10 = some (.bipush 14, (0, 0, 0, 0)) := by decide +kernel
theorem f_213_12 : rfI 213 12 = some (.invokevirtual 196, (208, 2, 11, 0)) := by decide +kernel
theorem f_213_15 : rfI 213 15 = some (.ifCond .ne (-15), (0, 0, 0, 0)) := by decide +kernel
theorem f_213_18 : rfI 213 18 = some (.iconst 0, (0, 0, 0, 0)) := by decide +kernel
theorem f_213_19 : rfI 213 19 = some (.ireturn, (0, 0, 0, 0)) := by decide +kernel
theorem f_213_20 : rfI 213 20 = some (.aload_n 0, (0, 0, 0, 0)) := by decide +kernel
theorem f_213_21 : rfI 213 21 = some (.invokevirtual 175, (203, 1, 11, 0)) := by decide +kernel
theorem f_213_24 : rfI 213 24 = some (.ifCond .eq 23, (0, 0, 0, 0)) := by decide +kernel
theorem f_213_27 : rfI 213 27 = some (.aload_n 0, (0, 0, 0, 0)) := by decide +kernel
theorem f_213_28 : rfI 213 28 = some (.invokevirtual 199, (206, 1, 11, 0)) := by decide +kernel
theorem f_213_31 : rfI 213 31 = some (.ifCond .ne 5, (0, 0, 0, 0)) := by decide +kernel
theorem f_213_34 : rfI 213 34 = some (.iconst 0, (0, 0, 0, 0)) := by decide +kernel
theorem f_213_35 : rfI 213 35 = some (.ireturn, (0, 0, 0, 0)) := by decide +kernel
theorem f_213_36 : rfI 213 36 = some (.aload_n 0, (0, 0, 0, 0)) := by decide +kernel
theorem f_213_37 : rfI 213 37 = some (.iconst 0, (0, 0, 0, 0)) := by decide +kernel
theorem f_213_38 : rfI 213 38 = some (.aload_n 0, (0, 0, 0, 0)) := by decide +kernel
theorem f_213_39 : rfI 213 39 = some (.getfield 172, (12, 8, 0, 0)) := by decide +kernel
theorem f_213_42 : rfI 213 42 = some (.invokevirtual 192, (207, 3, 11, 0)) := by decide +kernel
theorem f_213_45 : rfI 213 45 = some (.iconst 1, (0, 0, 0, 0)) := by decide +kernel
theorem f_213_46 : rfI 213 46 = some (.ireturn, (0, 0, 0, 0)) := by decide +kernel
theorem f_213_47 : rfI 213 47 = some (.aload_n 0, (0, 0, 0, 0)) := by decide +kernel
theorem f_213_48 : rfI 213 48 = some (.invokevirtual 162, (202, 1, 11, 0)) := by decide +kernel
theorem f_213_51 : rfI 213 51 = some (.invokestatic 202, (210, 1, 10, 0)) := by decide +kernel
theorem f_213_54 : rfI 213 54 = some (.istore_n 1, (0, 0, 0, 0)) := by decide +kernel
theorem f_213_55 : rfI 213 55 = some (.iload_n 1, (0, 0, 0, 0)) := by decide +kernel
theorem f_213_56 : rfI 213 56 = some (.iconst (-1), (0, 0, 0, 0)) := by decide +kernel
theorem f_213_57 : rfI 213 57 = some (.if_icmp .ne 13, (0, 0, 0, 0)) := by decide +kernel
theorem f_213_60 : rfI 213 60 = some (.aload_n 0, (0, 0, 0, 0)) := by decide +kernel
theorem f_213_61 : rfI 213 61 = some (.iconst 1, (0, 0, 0, 0)) := by decide +kernel
theorem f_213_62 : rfI 213 62 = some (.aload_n 0, (0, 0, 0, 0)) := by decide +kernel
theorem f_213_63 : rfI 213 63 = some (.getfield 156, (12, 5, 0, 0)) := by decide +kernel
theorem f_213_66 : rfI 213 66 = some (.invokevirtual 169, (204, 3, 11, 0)) := by decide +kernel
theorem f_213_69 : rfI 213 69 = some (.ireturn, (0, 0, 0, 0)) := by decide +kernel
theorem f_213_70 : rfI 213 70 = some (.aload_n 0, (0, 0, 0, 0)) := by decide +kernel
theorem f_213_71 : rfI 213 71 = some (.iconst 1, (0, 0, 0, 0)) := by decide +kernel
theorem f_213_72 : rfI 213 72 = some (.iload_n 1, (0, 0, 0, 0)) := by decide +kernel
theorem f_213_73 : rfI 213 73 = some (.invokevirtual 192, (207, 3, 11, 0)) := by decide +kernel
theorem f_213_76 : rfI 213 76 = some (.aload_n 0, (0, 0, 0, 0)) := by decide +kernel
theorem f_213_77 : rfI 213 77 = some (.aload_n 0, (0, 0, 0, 0)) := by decide +kernel
theorem f_213_78 : rfI 213 78 = some (.getfield 156, (12, 5, 0, 0)) := by decide +kernel
theorem f_213_81 : rfI 213 81 = some (.iconst 1, (0, 0, 0, 0)) := by decide +kernel
theorem f_213_82 : rfI 213 82 = some (.iadd, (0, 0, 0, 0)) := by decide +kernel
theorem f_213_83 : rfI 213 83 = some (.putfield 156, (12, 5, 0, 0)) := by decide +kernel
theorem f_213_86 : rfI 213 86 = some (.iconst 1, (0, 0, 0, 0)) := by decide +kernel
theorem f_213_87 : rfI 213 87 = some (.ireturn, (0, 0, 0, 0)) := by decide +kernel
theorem f_214_0 : rfI 214 0 = some (.iload_n 1, (0, 0, 0, 0)) := by decide +kernel
theorem f_214_1 : rfI 214 1 = some (.istore_n 2, (0, 0, 0, 0)) := by decide +kernel
theorem f_214_2 : rfI 214 2 = some (.iload_n 2, (0, 0, 0, 0)) := by decide +kernel
theorem f_214_3 : rfI 214 3 = some (.aload_n 0, (0, 0, 0, 0)) := by decide +kernel
theorem f_214_4 : rfI 214 4 = some (.getfield 186, (12, 11, 0, 0)) := by decide +kernel
theorem f_214_7 : rfI 214 7 = some (.if_icmp .ge 25, (0, 0, 0, 0)) := by decide +kernel
theorem f_214_10 : rfI 214 10 = some (.aload_n 0, (0, 0, 0, 0)) := by decide +kernel
theorem f_214_11 : rfI 214 11 = some (.getfield 26, (12, 15, 2, 0)) := by decide +kernel
theorem f_214_14 : rfI 214 14 = some (.iload_n 2, (0, 0, 0, 0)) := by decide +kernel
theorem f_214_15 : rfI 214 15 = some (.iaload, (0, 0, 0, 0)) := by decide +kernel
theorem f_214_16 : rfI 214 16 = some (.ldc 182, (4, 4, 4, 1048576)) := by decide +kernel
theorem f_214_18 : rfI 214 18 = some (.idiv, (0, 0, 0, 0)) := by decide +kernel
theorem f_214_19 : rfI 214 19 = some (.bipush 14, (0, 0, 0, 0)) := by decide +kernel
theorem f_214_21 : rfI 214 21 = some (.if_icmp .ne 5, (0, 0, 0, 0)) := by decide +kernel
theorem f_214_24 : rfI 214 24 = some (.iconst 1, (0, 0, 0, 0)) := by decide +kernel
theorem f_214_25 : rfI 214 25 = some (.ireturn, (0, 0, 0, 0)) := by decide +kernel
theorem f_214_26 : rfI 214 26 = some (.iinc 2 1, (0, 0, 0, 0)) := by decide +kernel
theorem f_214_29 : rfI 214 29 = some (.goto (-27), (0, 0, 0, 0)) := by decide +kernel
theorem f_214_32 : rfI 214 32 = some (.iconst 0, (0, 0, 0, 0)) := by decide +kernel
theorem f_214_33 : rfI 214 33 = some (.ireturn, (0, 0, 0, 0)) := by decide +kernel
theorem f_215_0 : rfI 215 0 = some (.aload_n 0, (0, 0, 0, 0)) := by decide +kernel
theorem f_215_1 : rfI 215 1 = some (.getfield 186, (12, 11, 0, 0)) := by decide +kernel
theorem f_215_4 : rfI 215 4 = some (.istore_n 1, (0, 0, 0, 0)) := by decide +kernel
theorem f_215_5 : rfI 215 5 = some (.aload_n 0, (0, 0, 0, 0)) := by decide +kernel
theorem f_215_6 : rfI 215 6 = some (.invokevirtual 205, (213, 1, 11, 0)) := by decide +kernel
theorem f_215_9 : rfI 215 9 = some (.ifCond .ne 5, (0, 0, 0, 0)) := by decide +kernel
theorem f_215_12 : rfI 215 12 = some (.iconst 0, (0, 0, 0, 0)) := by decide +kernel
theorem f_215_13 : rfI 215 13 = some (.ireturn, (0, 0, 0, 0)) := by decide +kernel
theorem f_215_14 : rfI 215 14 = some (.aload_n 0, (0, 0, 0, 0)) := by decide +kernel
theorem f_215_15 : rfI 215 15 = some (.invokevirtual 162, (202, 1, 11, 0)) := by decide +kernel
theorem f_215_18 : rfI 215 18 = some (.invokestatic 208, (211, 1, 10, 0)) := by decide +kernel
theorem f_215_21 : rfI 215 21 = some (.istore_n 2, (0, 0, 0, 0)) := by decide +kernel
theorem f_215_22 : rfI 215 22 = some (.iload_n 2, (0, 0, 0, 0)) := by decide +kernel
theorem f_215_23 : rfI 215 23 = some (.iconst (-1), (0, 0, 0, 0)) := by decide +kernel
theorem f_215_24 : rfI 215 24 = some (.if_icmp .eq 59, (0, 0, 0, 0)) := by decide +kernel
theorem f_215_27 : rfI 215 27 = some (.aload_n 0, (0, 0, 0, 0)) := by decide +kernel
theorem f_215_28 : rfI 215 28 = some (.iload_n 2, (0, 0, 0, 0)) := by decide +kernel
theorem f_215_29 : rfI 215 29 = some (.iconst 4, (0, 0, 0, 0)) := by decide +kernel
theorem f_215_30 : rfI 215 30 = some (.if_icmp .ge 7, (0, 0, 0, 0)) := by decide +kernel
theorem f_215_33 : rfI 215 33 = some (.iconst 1, (0, 0, 0, 0)) := by decide +kernel
theorem f_215_34 : rfI 215 34 = some (.goto 4, (0, 0, 0, 0)) := by decide +kernel
theorem f_215_37 : rfI 215 37 = some (.iconst 0, (0, 0, 0, 0)) := by decide +kernel
theorem f_215_38 : rfI 215 38 = some (.invokevirtual 211, (212, 2, 11, 0)) := by decide +kernel
theorem f_215_41 : rfI 215 41 = some (.aload_n 0, (0, 0, 0, 0)) := by decide +kernel
theorem f_215_42 : rfI 215 42 = some (.getfield 26, (12, 15, 2, 0)) := by decide +kernel
theorem f_215_45 : rfI 215 45 = some (.aload_n 0, (0, 0, 0, 0)) := by decide +kernel
theorem f_215_46 : rfI 215 46 = some (.getfield 186, (12, 11, 0, 0)) := by decide +kernel
theorem f_215_49 : rfI 215 49 = some (.ldc 182, (4, 4, 4, 1048576)) := by decide +kernel
theorem f_215_51 : rfI 215 51 = some (.iload_n 2, (0, 0, 0, 0)) := by decide +kernel
theorem f_215_52 : rfI 215 52 = some (.imul, (0, 0, 0, 0)) := by decide +kernel
theorem f_215_53 : rfI 215 53 = some (.iastore, (0, 0, 0, 0)) := by decide +kernel
theorem f_215_54 : rfI 215 54 = some (.aload_n 0, (0, 0, 0, 0)) := by decide +kernel
theorem f_215_55 : rfI 215 55 = some (.aload_n 0, (0, 0, 0, 0)) := by decide +kernel
theorem f_215_56 : rfI 215 56 = some (.getfield 186, (12, 11, 0, 0)) := by decide +kernel
theorem f_215_59 : rfI 215 59 = some (.iconst 1, (0, 0, 0, 0)) := by decide +kernel
theorem f_215_60 : rfI 215 60 = some (.iadd, (0, 0, 0, 0)) := by decide +kernel
theorem f_215_61 : rfI 215 61 = some (.putfield 186, (12, 11, 0, 0)) := by decide +kernel
theorem f_215_64 : rfI 215 64 = some (.aload_n 0, (0, 0, 0, 0)) := by decide +kernel
theorem f_215_65 : rfI 215 65 = some (.aload_n 0, (0, 0, 0, 0)) := by decide +kernel
theorem f_215_66 : rfI 215 66 = some (.getfield 156, (12, 5, 0, 0)) := by decide +kernel
theorem f_215_69 : rfI 215 69 = some (.iconst 1, (0, 0, 0, 0)) := by decide +kernel
theorem f_215_70 : rfI 215 70 = some (.iadd, (0, 0, 0, 0)) := by decide +kernel
theorem f_215_71 : rfI 215 71 = some (.putfield 156, (12, 5, 0, 0)) := by decide +kernel
theorem f_215_74 : rfI 215 74 = some (.aload_n 0, (0, 0, 0, 0)) := by decide +kernel
theorem f_215_75 : rfI 215 75 = some (.invokevirtual 205, (213, 1, 11, 0)) := by decide +kernel
theorem f_215_78 : rfI 215 78 = some (.ifCond .ne 85, (0, 0, 0, 0)) := by decide +kernel
theorem f_215_81 : rfI 215 81 = some (.iconst 0, (0, 0, 0, 0)) := by decide +kernel
theorem f_215_82 : rfI 215 82 = some (.ireturn, (0, 0, 0, 0)) := by decide +kernel
theorem f_215_83 : rfI 215 83 = some (.aload_n 0, (0, 0, 0, 0)) := by decide +kernel
theorem f_215_84 : rfI 215 84 = some (.invokevirtual 162, (202, 1, 11, 0)) := by decide +kernel
theorem f_215_87 : rfI 215 87 = some (.bipush 93, (0, 0, 0, 0)) := by decide +kernel
theorem f_215_89 : rfI 215 89 = some (.if_icmp .ne 49, (0, 0, 0, 0)) := by decide +kernel
theorem f_215_92 : rfI 215 92 = some (.aload_n 0, (0, 0, 0, 0)) := by decide +kernel
theorem f_215_93 : rfI 215 93 = some (.iload_n 1, (0, 0, 0, 0)) := by decide +kernel
theorem f_215_94 : rfI 215 94 = some (.invokevirtual 215, (214, 2, 11, 0)) := by decide +kernel
theorem f_215_97 : rfI 215 97 = some (.ifCond .eq 41, (0, 0, 0, 0)) := by decide +kernel
theorem f_215_100 : rfI 215 100 = some (.aload_n 0, (0, 0, 0, 0)) := by decide +kernel
theorem f_215_101 : rfI 215 101 = some (.iconst 1, (0, 0, 0, 0)) := by decide +kernel
theorem f_215_102 : rfI 215 102 = some (.invokevirtual 211, (212, 2, 11, 0)) := by decide +kernel
theorem f_215_105 : rfI 215 105 = some (.aload_n 0, (0, 0, 0, 0)) := by decide +kernel
theorem f_215_106 : rfI 215 106 = some (.aload_n 0, (0, 0, 0, 0)) := by decide +kernel
theorem f_215_107 : rfI 215 107 = some (.getfield 186, (12, 11, 0, 0)) := by decide +kernel
theorem f_215_110 : rfI 215 110 = some (.iconst 1, (0, 0, 0, 0)) := by decide +kernel
theorem f_215_111 : rfI 215 111 = some (.isub, (0, 0, 0, 0)) := by decide +kernel
theorem f_215_112 : rfI 215 112 = some (.putfield 186, (12, 11, 0, 0)) := by decide +kernel
theorem f_215_115 : rfI 215 115 = some (.aload_n 0, (0, 0, 0, 0)) := by decide +kernel
theorem f_215_116 : rfI 215 116 = some (.aload_n 0, (0, 0, 0, 0)) := by decide +kernel
theorem f_215_117 : rfI 215 117 = some (.getfield 183, (12, 9, 0, 0)) := by decide +kernel
theorem f_215_120 : rfI 215 120 = some (.iconst 1, (0, 0, 0, 0)) := by decide +kernel
theorem f_215_121 : rfI 215 121 = some (.isub, (0, 0, 0, 0)) := by decide +kernel
theorem f_215_122 : rfI 215 122 = some (.putfield 183, (12, 9, 0, 0)) := by decide +kernel
theorem f_215_125 : rfI 215 125 = some (.aload_n 0, (0, 0, 0, 0)) := by decide +kernel
theorem f_215_126 : rfI 215 126 = some (.aload_n 0, (0, 0, 0, 0)) := by decide +kernel
theorem f_215_127 : rfI 215 127 = some (.getfield 156, (12, 5, 0, 0)) := by decide +kernel
theorem f_215_130 : rfI 215 130 = some (.iconst 1, (0, 0, 0, 0)) := by decide +kernel
theorem f_215_131 : rfI 215 131 = some (.iadd, (0, 0, 0, 0)) := by decide +kernel
theorem f_215_132 : rfI 215 132 = some (.putfield 156, (12, 5, 0, 0)) := by decide +kernel
theorem f_215_135 : rfI 215 135 = some (.goto 28, (0, 0, 0, 0)) := by decide +kernel
theorem f_215_138 : rfI 215 138 = some (.aload_n 0, (0, 0, 0, 0)) := by decide +kernel
theorem f_215_139 : rfI 215 139 = some (.iload_n 1, (0, 0, 0, 0)) := by decide +kernel
theorem f_215_140 : rfI 215 140 = some (.invokevirtual 215, (214, 2, 11, 0)) := by decide +kernel
theorem f_215_143 : rfI 215 143 = some (.ifCond .eq 13, (0, 0, 0, 0)) := by decide +kernel
theorem f_215_146 : rfI 215 146 = some (.aload_n 0, (0, 0, 0, 0)) := by decide +kernel
theorem f_215_147 : rfI 215 147 = some (.iconst 1, (0, 0, 0, 0)) := by decide +kernel
theorem f_215_148 : rfI 215 148 = some (.aload_n 0, (0, 0, 0, 0)) := by decide +kernel
theorem f_215_149 : rfI 215 149 = some (.getfield 156, (12, 5, 0, 0)) := by decide +kernel
theorem f_215_152 : rfI 215 152 = some (.invokevirtual 169, (204, 3, 11, 0)) := by decide +kernel
theorem f_215_155 : rfI 215 155 = some (.ireturn, (0, 0, 0, 0)) := by decide +kernel
theorem f_215_156 : rfI 215 156 = some (.aload_n 0, (0, 0, 0, 0)) := by decide +kernel
theorem f_215_157 : rfI 215 157 = some (.iconst 1, (0, 0, 0, 0)) := by decide +kernel
theorem f_215_158 : rfI 215 158 = some (.invokevirtual 211, (212, 2, 11, 0)) := by decide +kernel
theorem f_215_161 : rfI 215 161 = some (.iconst 1, (0, 0, 0, 0)) := by decide +kernel
theorem f_215_162 : rfI 215 162 = some (.ireturn, (0, 0, 0, 0)) := by decide +kernel
theorem f_215_163 : rfI 215 163 = some (.goto (-149), (0, 0, 0, 0)) := by decide +kernel
theorem f_216_0 : rfI 216 0 = some (.aload_n 0, (0, 0, 0, 0)) := by decide +kernel
theorem f_216_1 : rfI 216 1 = some (.invokevirtual 189, (209, 1, 11, 0)) := by decide +kernel
theorem f_216_4 : rfI 216 4 = some (.bipush 10, (0, 0, 0, 0)) := by decide +kernel
theorem f_216_6 : rfI 216 6 = some (.if_icmp .ne 33, (0, 0, 0, 0)) := by decide +kernel
theorem f_216_9 : rfI 216 9 = some (.aload_n 0, (0, 0, 0, 0)) := by decide +kernel
theorem f_216_10 : rfI 216 10 = some (.bipush 10, (0, 0, 0, 0)) := by decide +kernel
theorem f_216_12 : rfI 216 12 = some (.iconst 0, (0, 0, 0, 0)) := by decide +kernel
theorem f_216_13 : rfI 216 13 = some (.invokevirtual 192, (207, 3, 11, 0)) := by decide +kernel
theorem f_216_16 : rfI 216 16 = some (.aload_n 0, (0, 0, 0, 0)) := by decide +kernel
theorem f_216_17 : rfI 216 17 = some (.aload_n 0, (0, 0, 0, 0)) := by decide +kernel
theorem f_216_18 : rfI 216 18 = some (.getfield 186, (12, 11, 0, 0)) := by decide +kernel
theorem f_216_21 : rfI 216 21 = some (.iconst 1, (0, 0, 0, 0)) := by decide +kernel
theorem f_216_22 : rfI 216 22 = some (.isub, (0, 0, 0, 0)) := by decide +kernel
theorem f_216_23 : rfI 216 23 = some (.putfield 186, (12, 11, 0, 0)) := by decide +kernel
theorem f_216_26 : rfI 216 26 = some (.aload_n 0, (0, 0, 0, 0)) := by decide +kernel
theorem f_216_27 : rfI 216 27 = some (.aload_n 0, (0, 0, 0, 0)) := by decide +kernel
theorem f_216_28 : rfI 216 28 = some (.getfield 183, (12, 9, 0, 0)) := by decide +kernel
theorem f_216_31 : rfI 216 31 = some (.iconst 1, (0, 0, 0, 0)) := by decide +kernel
theorem f_216_32 : rfI 216 32 = some (.isub, (0, 0, 0, 0)) := by decide +kernel
theorem f_216_33 : rfI 216 33 = some (.putfield 183, (12, 9, 0, 0)) := by decide +kernel
theorem f_216_36 : rfI 216 36 = some (.goto (-36), (0, 0, 0, 0)) := by decide +kernel
theorem f_216_39 : rfI 216 39 = some (.return_, (0, 0, 0, 0)) := by decide +kernel
theorem f_217_0 : rfI 217 0 = some (.aload_n 0, (0, 0, 0, 0)) := by decide +kernel
theorem f_217_1 : rfI 217 1 = some (.invokevirtual 189, (209, 1, 11, 0)) := by decide +kernel
theorem f_217_4 : rfI 217 4 = some (.bipush 11, (0, 0, 0, 0)) := by decide +kernel
theorem f_217_6 : rfI 217 6 = some (.if_icmp .eq 16, (0, 0, 0, 0)) := by decide +kernel
theorem f_217_9 : rfI 217 9 = some (.iload_n 1, (0, 0, 0, 0)) := by decide +kernel
theorem f_217_10 : rfI 217 10 = some (.ifCond .eq 63, (0, 0, 0, 0)) := by decide +kernel
theorem f_217_13 : rfI 217 13 = some (.aload_n 0, (0, 0, 0, 0)) := by decide +kernel
theorem f_217_14 : rfI 217 14 = some (.invokevirtual 189, (209, 1, 11, 0)) := by decide +kernel
theorem f_217_17 : rfI 217 17 = some (.bipush 12, (0, 0, 0, 0)) := by decide +kernel
theorem f_217_19 : rfI 217 19 = some (.if_icmp .ne 54, (0, 0, 0, 0)) := by decide +kernel
theorem f_217_22 : rfI 217 22 = some (.aload_n 0, (0, 0, 0, 0)) := by decide +kernel
theorem f_217_23 : rfI 217 23 = some (.getfield 26, (12, 15, 2, 0)) := by decide +kernel
theorem f_217_26 : rfI 217 26 = some (.aload_n 0, (0, 0, 0, 0)) := by decide +kernel
theorem f_217_27 : rfI 217 27 = some (.getfield 186, (12, 11, 0, 0)) := by decide +kernel
theorem f_217_30 : rfI 217 30 = some (.iconst 1, (0, 0, 0, 0)) := by decide +kernel
theorem f_217_31 : rfI 217 31 = some (.isub, (0, 0, 0, 0)) := by decide +kernel
theorem f_217_32 : rfI 217 32 = some (.iaload, (0, 0, 0, 0)) := by decide +kernel
theorem f_217_33 : rfI 217 33 = some (.ldc 182, (4, 4, 4, 1048576)) := by decide +kernel
theorem f_217_35 : rfI 217 35 = some (.irem, (0, 0, 0, 0)) := by decide +kernel
theorem f_217_36 : rfI 217 36 = some (.istore_n 2, (0, 0, 0, 0)) := by decide +kernel
theorem f_217_37 : rfI 217 37 = some (.aload_n 0, (0, 0, 0, 0)) := by decide +kernel
theorem f_217_38 : rfI 217 38 = some (.getfield 23, (12, 14, 2, 0)) := by decide +kernel
theorem f_217_41 : rfI 217 41 = some (.iload_n 2, (0, 0, 0, 0)) := by decide +kernel
theorem f_217_42 : rfI 217 42 = some (.ldc 182, (4, 4, 4, 1048576)) := by decide +kernel
theorem f_217_44 : rfI 217 44 = some (.aload_n 0, (0, 0, 0, 0)) := by decide +kernel
theorem f_217_45 : rfI 217 45 = some (.getfield 23, (12, 14, 2, 0)) := by decide +kernel
theorem f_217_48 : rfI 217 48 = some (.iload_n 2, (0, 0, 0, 0)) := by decide +kernel
theorem f_217_49 : rfI 217 49 = some (.iaload, (0, 0, 0, 0)) := by decide +kernel
theorem f_217_50 : rfI 217 50 = some (.ldc 182, (4, 4, 4, 1048576)) := by decide +kernel
theorem f_217_52 : rfI 217 52 = some (.idiv, (0, 0, 0, 0)) := by decide +kernel
theorem f_217_53 : rfI 217 53 = some (.imul, (0, 0, 0, 0)) := by decide +kernel
theorem f_217_54 : rfI 217 54 = some (.aload_n 0, (0, 0, 0, 0)) := by decide +kernel
theorem f_217_55 : rfI 217 55 = some (.getfield 179, (12, 10, 0, 0)) := by decide +kernel
theorem f_217_58 : rfI 217 58 = some (.iadd, (0, 0, 0, 0)) := by decide +kernel
theorem f_217_59 : rfI 217 59 = some (.iastore, (0, 0, 0, 0)) := by decide +kernel
theorem f_217_60 : rfI 217 60 = some (.aload_n 0, (0, 0, 0, 0)) := by decide +kernel
theorem f_217_61 : rfI 217 61 = some (.aload_n 0, (0, 0, 0, 0)) := by decide +kernel
theorem f_217_62 : rfI 217 62 = some (.getfield 186, (12, 11, 0, 0)) := by decide +kernel
theorem f_217_65 : rfI 217 65 = some (.iconst 1, (0, 0, 0, 0)) := by decide +kernel
theorem f_217_66 : rfI 217 66 = some (.isub, (0, 0, 0, 0)) := by decide +kernel
theorem f_217_67 : rfI 217 67 = some (.putfield 186, (12, 11, 0, 0)) := by decide +kernel
theorem f_217_70 : rfI 217 70 = some (.goto (-70), (0, 0, 0, 0)) := by decide +kernel
theorem f_217_73 : rfI 217 73 = some (.return_, (0, 0, 0, 0)) := by decide +kernel
theorem f_218_0 : rfI 218 0 = some (.aload_n 0, (0, 0, 0, 0)) := by decide +kernel
theorem f_218_1 : rfI 218 1 = some (.getfield 26, (12, 15, 2, 0)) := by decide +kernel
theorem f_218_4 : rfI 218 4 = some (.aload_n 0, (0, 0, 0, 0)) := by decide +kernel
theorem f_218_5 : rfI 218 5 = some (.getfield 186, (12, 11, 0, 0)) := by decide +kernel
theorem f_218_8 : rfI 218 8 = some (.ldc 182, (4, 4, 4, 1048576)) := by decide +kernel
theorem f_218_10 : rfI 218 10 = some (.iload_n 1, (0, 0, 0, 0)) := by decide +kernel
theorem f_218_11 : rfI 218 11 = some (.imul, (0, 0, 0, 0)) := by decide +kernel
theorem f_218_12 : rfI 218 12 = some (.aload_n 0, (0, 0, 0, 0)) := by decide +kernel
theorem f_218_13 : rfI 218 13 = some (.getfield 179, (12, 10, 0, 0)) := by decide +kernel
theorem f_218_16 : rfI 218 16 = some (.iadd, (0, 0, 0, 0)) := by decide +kernel
theorem f_218_17 : rfI 218 17 = some (.iastore, (0, 0, 0, 0)) := by decide +kernel
theorem f_218_18 : rfI 218 18 = some (.aload_n 0, (0, 0, 0, 0)) := by decide +kernel
theorem f_218_19 : rfI 218 19 = some (.aload_n 0, (0, 0, 0, 0)) := by decide +kernel
theorem f_218_20 : rfI 218 20 = some (.getfield 186, (12, 11, 0, 0)) := by decide +kernel
theorem f_218_23 : rfI 218 23 = some (.iconst 1, (0, 0, 0, 0)) := by decide +kernel
theorem f_218_24 : rfI 218 24 = some (.iadd, (0, 0, 0, 0)) := by decide +kernel
theorem f_218_25 : rfI 218 25 = some (.putfield 186, (12, 11, 0, 0)) := by decide +kernel
theorem f_218_28 : rfI 218 28 = some (.aload_n 0, (0, 0, 0, 0)) := by decide +kernel
theorem f_218_29 : rfI 218 29 = some (.iload_n 1, (0, 0, 0, 0)) := by decide +kernel
theorem f_218_30 : rfI 218 30 = some (.iconst 0, (0, 0, 0, 0)) := by decide +kernel
theorem f_218_31 : rfI 218 31 = some (.invokevirtual 192, (207, 3, 11, 0)) := by decide +kernel
theorem f_218_34 : rfI 218 34 = some (.aload_n 0, (0, 0, 0, 0)) := by decide +kernel
theorem f_218_35 : rfI 218 35 = some (.aload_n 0, (0, 0, 0, 0)) := by decide +kernel
theorem f_218_36 : rfI 218 36 = some (.getfield 156, (12, 5, 0, 0)) := by decide +kernel
theorem f_218_39 : rfI 218 39 = some (.iconst 1, (0, 0, 0, 0)) := by decide +kernel
theorem f_218_40 : rfI 218 40 = some (.iadd, (0, 0, 0, 0)) := by decide +kernel
theorem f_218_41 : rfI 218 41 = some (.putfield 156, (12, 5, 0, 0)) := by decide +kernel
theorem f_218_44 : rfI 218 44 = some (.return_, (0, 0, 0, 0)) := by decide +kernel
theorem f_219_0 : rfI 219 0 = some (.aload_n 0, (0, 0, 0, 0)) := by decide +kernel
theorem f_219_1 : rfI 219 1 = some (.invokevirtual 218, (215, 1, 11, 0)) := by decide +kernel
theorem f_219_4 : rfI 219 4 = some (.ifCond .ne 5, (0, 0, 0, 0)) := by decide +kernel
theorem f_219_7 : rfI 219 7 = some (.iconst 0, (0, 0, 0, 0)) := by decide +kernel
theorem f_219_8 : rfI 219 8 = some (.ireturn, (0, 0, 0, 0)) := by decide +kernel
theorem f_219_9 : rfI 219 9 = some (.aload_n 0, (0, 0, 0, 0)) := by decide +kernel
theorem f_219_10 : rfI 219 10 = some (.invokevirtual 162, (202, 1, 11, 0)) := by decide +kernel
theorem f_219_13 : rfI 219 13 = some (.bipush 60, (0, 0, 0, 0)) := by decide +kernel
theorem f_219_15 : rfI 219 15 = some (.if_icmp .ne 8, (0, 0, 0, 0)) := by decide +kernel
theorem f_219_18 : rfI 219 18 = some (.bipush 7, (0, 0, 0, 0)) := by decide +kernel
theorem f_219_20 : rfI 219 20 = some (.goto 32, (0, 0, 0, 0)) := by decide +kernel
theorem f_219_23 : rfI 219 23 = some (.aload_n 0, (0, 0, 0, 0)) := by decide +kernel
theorem f_219_24 : rfI 219 24 = some (.invokevirtual 162, (202, 1, 11, 0)) := by decide +kernel
theorem f_219_27 : rfI 219 27 = some (.bipush 62, (0, 0, 0, 0)) := by decide +kernel
theorem f_219_29 : rfI 219 29 = some (.if_icmp .ne 8, (0, 0, 0, 0)) := by decide +kernel
theorem f_219_32 : rfI 219 32 = some (.bipush 8, (0, 0, 0, 0)) := by decide +kernel
theorem f_219_34 : rfI 219 34 = some (.goto 18, (0, 0, 0, 0)) := by decide +kernel
theorem f_219_37 : rfI 219 37 = some (.aload_n 0, (0, 0, 0, 0)) := by decide +kernel
theorem f_219_38 : rfI 219 38 = some (.invokevirtual 162, (202, 1, 11, 0)) := by decide +kernel
theorem f_219_41 : rfI 219 41 = some (.bipush 61, (0, 0, 0, 0)) := by decide +kernel
theorem f_219_43 : rfI 219 43 = some (.if_icmp .ne 8, (0, 0, 0, 0)) := by decide +kernel
theorem f_219_46 : rfI 219 46 = some (.bipush 9, (0, 0, 0, 0)) := by decide +kernel
theorem f_219_48 : rfI 219 48 = some (.goto 4, (0, 0, 0, 0)) := by decide +kernel
theorem f_219_51 : rfI 219 51 = some (.iconst (-1), (0, 0, 0, 0)) := by decide +kernel
theorem f_219_52 : rfI 219 52 = some (.istore_n 1, (0, 0, 0, 0)) := by decide +kernel
theorem f_219_53 : rfI 219 53 = some (.iload_n 1, (0, 0, 0, 0)) := by decide +kernel
theorem f_219_54 : rfI 219 54 = some (.iconst (-1), (0, 0, 0, 0)) := by decide +kernel
theorem f_219_55 : rfI 219 55 = some (.if_icmp .ne 13, (0, 0, 0, 0)) := by decide +kernel
theorem f_219_58 : rfI 219 58 = some (.aload_n 0, (0, 0, 0, 0)) := by decide +kernel
theorem f_219_59 : rfI 219 59 = some (.iconst 1, (0, 0, 0, 0)) := by decide +kernel
theorem f_219_60 : rfI 219 60 = some (.aload_n 0, (0, 0, 0, 0)) := by decide +kernel
theorem f_219_61 : rfI 219 61 = some (.getfield 156, (12, 5, 0, 0)) := by decide +kernel
theorem f_219_64 : rfI 219 64 = some (.invokevirtual 169, (204, 3, 11, 0)) := by decide +kernel
theorem f_219_67 : rfI 219 67 = some (.ireturn, (0, 0, 0, 0)) := by decide +kernel
theorem f_219_68 : rfI 219 68 = some (.aload_n 0, (0, 0, 0, 0)) := by decide +kernel
theorem f_219_69 : rfI 219 69 = some (.aload_n 0, (0, 0, 0, 0)) := by decide +kernel
theorem f_219_70 : rfI 219 70 = some (.getfield 156, (12, 5, 0, 0)) := by decide +kernel
theorem f_219_73 : rfI 219 73 = some (.iconst 1, (0, 0, 0, 0)) := by decide +kernel
theorem f_219_74 : rfI 219 74 = some (.iadd, (0, 0, 0, 0)) := by decide +kernel
theorem f_219_75 : rfI 219 75 = some (.putfield 156, (12, 5, 0, 0)) := by decide +kernel
theorem f_219_78 : rfI 219 78 = some (.aload_n 0, (0, 0, 0, 0)) := by decide +kernel
theorem f_219_79 : rfI 219 79 = some (.invokevirtual 218, (215, 1, 11, 0)) := by decide +kernel
theorem f_219_82 : rfI 219 82 = some (.ifCond .ne 5, (0, 0, 0, 0)) := by decide +kernel
theorem f_219_85 : rfI 219 85 = some (.iconst 0, (0, 0, 0, 0)) := by decide +kernel
theorem f_219_86 : rfI 219 86 = some (.ireturn, (0, 0, 0, 0)) := by decide +kernel
theorem f_219_87 : rfI 219 87 = some (.aload_n 0, (0, 0, 0, 0)) := by decide +kernel
theorem f_219_88 : rfI 219 88 = some (.iload_n 1, (0, 0, 0, 0)) := by decide +kernel
theorem f_219_89 : rfI 219 89 = some (.iconst 0, (0, 0, 0, 0)) := by decide +kernel
theorem f_219_90 : rfI 219 90 = some (.invokevirtual 192, (207, 3, 11, 0)) := by decide +kernel
theorem f_219_93 : rfI 219 93 = some (.aload_n 0, (0, 0, 0, 0)) := by decide +kernel
theorem f_219_94 : rfI 219 94 = some (.invokevirtual 221, (216, 1, 11, 0)) := by decide +kernel
theorem f_219_97 : rfI 219 97 = some (.iconst 1, (0, 0, 0, 0)) := by decide +kernel
theorem f_219_98 : rfI 219 98 = some (.ireturn, (0, 0, 0, 0)) := by decide +kernel
theorem f_220_0 : rfI 220 0 = some (.aload_n 0, (0, 0, 0, 0)) := by decide +kernel
theorem f_220_1 : rfI 220 1 = some (.invokevirtual 162, (202, 1, 11, 0)) := by decide +kernel
theorem f_220_4 : rfI 220 4 = some (.bipush 40, (0, 0, 0, 0)) := by decide +kernel
theorem f_220_6 : rfI 220 6 = some (.if_icmp .eq 13, (0, 0, 0, 0)) := by decide +kernel
theorem f_220_9 : rfI 220 9 = some (.aload_n 0, (0, 0, 0, 0)) := by decide +kernel
theorem f_220_10 : rfI 220 10 = some (.iconst 1, (0, 0, 0, 0)) := by decide +kernel
theorem f_220_11 : rfI 220 11 = some (.aload_n 0, (0, 0, 0, 0)) := by decide +kernel
theorem f_220_12 : rfI 220 12 = some (.getfield 156, (12, 5, 0, 0)) := by decide +kernel
theorem f_220_15 : rfI 220 15 = some (.invokevirtual 169, (204, 3, 11, 0)) := by decide +kernel
theorem f_220_18 : rfI 220 18 = some (.ireturn, (0, 0, 0, 0)) := by decide +kernel
theorem f_220_19 : rfI 220 19 = some (.aload_n 0, (0, 0, 0, 0)) := by decide +kernel
theorem f_220_20 : rfI 220 20 = some (.iconst 0, (0, 0, 0, 0)) := by decide +kernel
theorem f_220_21 : rfI 220 21 = some (.putfield 183, (12, 9, 0, 0)) := by decide +kernel
theorem f_220_24 : rfI 220 24 = some (.aload_n 0, (0, 0, 0, 0)) := by decide +kernel
theorem f_220_25 : rfI 220 25 = some (.iconst 0, (0, 0, 0, 0)) := by decide +kernel
theorem f_220_26 : rfI 220 26 = some (.putfield 186, (12, 11, 0, 0)) := by decide +kernel
theorem f_220_29 : rfI 220 29 = some (.aload_n 0, (0, 0, 0, 0)) := by decide +kernel
theorem f_220_30 : rfI 220 30 = some (.bipush 13, (0, 0, 0, 0)) := by decide +kernel
theorem f_220_32 : rfI 220 32 = some (.invokevirtual 196, (208, 2, 11, 0)) := by decide +kernel
theorem f_220_35 : rfI 220 35 = some (.ifCond .ne 5, (0, 0, 0, 0)) := by decide +kernel
theorem f_220_38 : rfI 220 38 = some (.iconst 0, (0, 0, 0, 0)) := by decide +kernel
theorem f_220_39 : rfI 220 39 = some (.ireturn, (0, 0, 0, 0)) := by decide +kernel
theorem f_220_40 : rfI 220 40 = some (.aload_n 0, (0, 0, 0, 0)) := by decide +kernel
theorem f_220_41 : rfI 220 41 = some (.invokevirtual 162, (202, 1, 11, 0)) := by decide +kernel
theorem f_220_44 : rfI 220 44 = some (.bipush 33, (0, 0, 0, 0)) := by decide +kernel
theorem f_220_46 : rfI 220 46 = some (.if_icmp .eq 12, (0, 0, 0, 0)) := by decide +kernel
theorem f_220_49 : rfI 220 49 = some (.aload_n 0, (0, 0, 0, 0)) := by decide +kernel
theorem f_220_50 : rfI 220 50 = some (.invokevirtual 162, (202, 1, 11, 0)) := by decide +kernel
theorem f_220_53 : rfI 220 53 = some (.bipush 40, (0, 0, 0, 0)) := by decide +kernel
theorem f_220_55 : rfI 220 55 = some (.if_icmp .ne 28, (0, 0, 0, 0)) := by decide +kernel
theorem f_220_58 : rfI 220 58 = some (.aload_n 0, (0, 0, 0, 0)) := by decide +kernel
theorem f_220_59 : rfI 220 59 = some (.aload_n 0, (0, 0, 0, 0)) := by decide +kernel
theorem f_220_60 : rfI 220 60 = some (.invokevirtual 162, (202, 1, 11, 0)) := by decide +kernel
theorem f_220_63 : rfI 220 63 = some (.bipush 33, (0, 0, 0, 0)) := by decide +kernel
theorem f_220_65 : rfI 220 65 = some (.if_icmp .ne 8, (0, 0, 0, 0)) := by decide +kernel
theorem f_220_68 : rfI 220 68 = some (.bipush 10, (0, 0, 0, 0)) := by decide +kernel
theorem f_220_70 : rfI 220 70 = some (.goto 5, (0, 0, 0, 0)) := by decide +kernel
theorem f_220_73 : rfI 220 73 = some (.bipush 13, (0, 0, 0, 0)) := by decide +kernel
theorem f_220_75 : rfI 220 75 = some (.invokevirtual 196, (208, 2, 11, 0)) := by decide +kernel
theorem f_220_78 : rfI 220 78 = some (.ifCond .ne (-38), (0, 0, 0, 0)) := by decide +kernel
theorem f_220_81 : rfI 220 81 = some (.iconst 0, (0, 0, 0, 0)) := by decide +kernel
theorem f_220_82 : rfI 220 82 = some (.ireturn, (0, 0, 0, 0)) := by decide +kernel
theorem f_220_83 : rfI 220 83 = some (.aload_n 0, (0, 0, 0, 0)) := by decide +kernel
theorem f_220_84 : rfI 220 84 = some (.invokevirtual 224, (219, 1, 11, 0)) := by decide +kernel
theorem f_220_87 : rfI 220 87 = some (.ifCond .ne 5, (0, 0, 0, 0)) := by decide +kernel
theorem f_220_90 : rfI 220 90 = some (.iconst 0, (0, 0, 0, 0)) := by decide +kernel
theorem f_220_91 : rfI 220 91 = some (.ireturn, (0, 0, 0, 0)) := by decide +kernel
theorem f_220_92 : rfI 220 92 = some (.aload_n 0, (0, 0, 0, 0)) := by decide +kernel
theorem f_220_93 : rfI 220 93 = some (.invokevirtual 162, (202, 1, 11, 0)) := by decide +kernel
theorem f_220_96 : rfI 220 96 = some (.bipush 41, (0, 0, 0, 0)) := by decide +kernel
theorem f_220_98 : rfI 220 98 = some (.if_icmp .ne 54, (0, 0, 0, 0)) := by decide +kernel
theorem f_220_101 : rfI 220 101 = some (.aload_n 0, (0, 0, 0, 0)) := by decide +kernel
theorem f_220_102 : rfI 220 102 = some (.iconst 1, (0, 0, 0, 0)) := by decide +kernel
theorem f_220_103 : rfI 220 103 = some (.invokevirtual 227, (217, 2, 11, 0)) := by decide +kernel
theorem f_220_106 : rfI 220 106 = some (.aload_n 0, (0, 0, 0, 0)) := by decide +kernel
theorem f_220_107 : rfI 220 107 = some (.aload_n 0, (0, 0, 0, 0)) := by decide +kernel
theorem f_220_108 : rfI 220 108 = some (.getfield 186, (12, 11, 0, 0)) := by decide +kernel
theorem f_220_111 : rfI 220 111 = some (.iconst 1, (0, 0, 0, 0)) := by decide +kernel
theorem f_220_112 : rfI 220 112 = some (.isub, (0, 0, 0, 0)) := by decide +kernel
theorem f_220_113 : rfI 220 113 = some (.putfield 186, (12, 11, 0, 0)) := by decide +kernel
theorem f_220_116 : rfI 220 116 = some (.aload_n 0, (0, 0, 0, 0)) := by decide +kernel
theorem f_220_117 : rfI 220 117 = some (.aload_n 0, (0, 0, 0, 0)) := by decide +kernel
theorem f_220_118 : rfI 220 118 = some (.getfield 183, (12, 9, 0, 0)) := by decide +kernel
theorem f_220_121 : rfI 220 121 = some (.iconst 1, (0, 0, 0, 0)) := by decide +kernel
theorem f_220_122 : rfI 220 122 = some (.isub, (0, 0, 0, 0)) := by decide +kernel
theorem f_220_123 : rfI 220 123 = some (.putfield 183, (12, 9, 0, 0)) := by decide +kernel
theorem f_220_126 : rfI 220 126 = some (.aload_n 0, (0, 0, 0, 0)) := by decide +kernel
theorem f_220_127 : rfI 220 127 = some (.aload_n 0, (0, 0, 0, 0)) := by decide +kernel
theorem f_220_128 : rfI 220 128 = some (.getfield 156, (12, 5, 0, 0)) := by decide +kernel
theorem f_220_131 : rfI 220 131 = some (.iconst 1, (0, 0, 0, 0)) := by decide +kernel
theorem f_220_132 : rfI 220 132 = some (.iadd, (0, 0, 0, 0)) := by decide +kernel
theorem f_220_133 : rfI 220 133 = some (.putfield 156, (12, 5, 0, 0)) := by decide +kernel
theorem f_220_136 : rfI 220 136 = some (.aload_n 0, (0, 0, 0, 0)) := by decide +kernel
theorem f_220_137 : rfI 220 137 = some (.getfield 186, (12, 11, 0, 0)) := by decide +kernel
theorem f_220_140 : rfI 220 140 = some (.ifCond .ne 5, (0, 0, 0, 0)) := by decide +kernel
theorem f_220_143 : rfI 220 143 = some (.iconst 1, (0, 0, 0, 0)) := by decide +kernel
theorem f_220_144 : rfI 220 144 = some (.ireturn, (0, 0, 0, 0)) := by decide +kernel
theorem f_220_145 : rfI 220 145 = some (.aload_n 0, (0, 0, 0, 0)) := by decide +kernel
theorem f_220_146 : rfI 220 146 = some (.invokevirtual 221, (216, 1, 11, 0)) := by decide +kernel
theorem f_220_149 : rfI 220 149 = some (.goto (-57), (0, 0, 0, 0)) := by decide +kernel
theorem f_220_152 : rfI 220 152 = some (.aload_n 0, (0, 0, 0, 0)) := by decide +kernel
theorem f_220_153 : rfI 220 153 = some (.invokevirtual 162, (202, 1, 11, 0)) := by decide +kernel
theorem f_220_156 : rfI 220 156 = some (.bipush 38, (0, 0, 0, 0)) := by decide +kernel
theorem f_220_158 : rfI 220 158 = some (.if_icmp .eq 22, (0, 0, 0, 0)) := by decide +kernel
theorem f_220_161 : rfI 220 161 = some (.aload_n 0, (0, 0, 0, 0)) := by decide +kernel
theorem f_220_162 : rfI 220 162 = some (.invokevirtual 162, (202, 1, 11, 0)) := by decide +kernel
theorem f_220_165 : rfI 220 165 = some (.bipush 124, (0, 0, 0, 0)) := by decide +kernel
theorem f_220_167 : rfI 220 167 = some (.if_icmp .eq 13, (0, 0, 0, 0)) := by decide +kernel
theorem f_220_170 : rfI 220 170 = some (.aload_n 0, (0, 0, 0, 0)) := by decide +kernel
theorem f_220_171 : rfI 220 171 = some (.iconst 1, (0, 0, 0, 0)) := by decide +kernel
theorem f_220_172 : rfI 220 172 = some (.aload_n 0, (0, 0, 0, 0)) := by decide +kernel
theorem f_220_173 : rfI 220 173 = some (.getfield 156, (12, 5, 0, 0)) := by decide +kernel
theorem f_220_176 : rfI 220 176 = some (.invokevirtual 169, (204, 3, 11, 0)) := by decide +kernel
theorem f_220_179 : rfI 220 179 = some (.ireturn, (0, 0, 0, 0)) := by decide +kernel
theorem f_220_180 : rfI 220 180 = some (.aload_n 0, (0, 0, 0, 0)) := by decide +kernel
theorem f_220_181 : rfI 220 181 = some (.aload_n 0, (0, 0, 0, 0)) := by decide +kernel
theorem f_220_182 : rfI 220 182 = some (.invokevirtual 162, (202, 1, 11, 0)) := by decide +kernel
theorem f_220_185 : rfI 220 185 = some (.bipush 124, (0, 0, 0, 0)) := by decide +kernel
theorem f_220_187 : rfI 220 187 = some (.if_icmp .ne 7, (0, 0, 0, 0)) := by decide +kernel
theorem f_220_190 : rfI 220 190 = some (.iconst 1, (0, 0, 0, 0)) := by decide +kernel
theorem f_220_191 : rfI 220 191 = some (.goto 4, (0, 0, 0, 0)) := by decide +kernel
theorem f_220_194 : rfI 220 194 = some (.iconst 0, (0, 0, 0, 0)) := by decide +kernel
theorem f_220_195 : rfI 220 195 = some (.invokevirtual 227, (217, 2, 11, 0)) := by decide +kernel
theorem f_220_198 : rfI 220 198 = some (.aload_n 0, (0, 0, 0, 0)) := by decide +kernel
theorem f_220_199 : rfI 220 199 = some (.aload_n 0, (0, 0, 0, 0)) := by decide +kernel
theorem f_220_200 : rfI 220 200 = some (.invokevirtual 162, (202, 1, 11, 0)) := by decide +kernel
theorem f_220_203 : rfI 220 203 = some (.bipush 38, (0, 0, 0, 0)) := by decide +kernel
theorem f_220_205 : rfI 220 205 = some (.if_icmp .ne 8, (0, 0, 0, 0)) := by decide +kernel
theorem f_220_208 : rfI 220 208 = some (.bipush 11, (0, 0, 0, 0)) := by decide +kernel
theorem f_220_210 : rfI 220 210 = some (.goto 5, (0, 0, 0, 0)) := by decide +kernel
theorem f_220_213 : rfI 220 213 = some (.bipush 12, (0, 0, 0, 0)) := by decide +kernel
theorem f_220_215 : rfI 220 215 = some (.invokevirtual 230, (218, 2, 11, 0)) := by decide +kernel
theorem f_220_218 : rfI 220 218 = some (.goto (-178), (0, 0, 0, 0)) := by decide +kernel
theorem f_221_0 : rfI 221 0 = some (.aload_n 0, (0, 0, 0, 0)) := by decide +kernel
theorem f_221_1 : rfI 221 1 = some (.invokevirtual 162, (202, 1, 11, 0)) := by decide +kernel
theorem f_221_4 : rfI 221 4 = some (.istore_n 1, (0, 0, 0, 0)) := by decide +kernel
theorem f_221_5 : rfI 221 5 = some (.iload_n 1, (0, 0, 0, 0)) := by decide +kernel
theorem f_221_6 : rfI 221 6 = some (.bipush 102, (0, 0, 0, 0)) := by decide +kernel
theorem f_221_8 : rfI 221 8 = some (.if_icmp .eq 37, (0, 0, 0, 0)) := by decide +kernel
theorem f_221_11 : rfI 221 11 = some (.iload_n 1, (0, 0, 0, 0)) := by decide +kernel
theorem f_221_12 : rfI 221 12 = some (.bipush 119, (0, 0, 0, 0)) := by decide +kernel
theorem f_221_14 : rfI 221 14 = some (.if_icmp .eq 31, (0, 0, 0, 0)) := by decide +kernel
theorem f_221_17 : rfI 221 17 = some (.iload_n 1, (0, 0, 0, 0)) := by decide +kernel
theorem f_221_18 : rfI 221 18 = some (.bipush 113, (0, 0, 0, 0)) := by decide +kernel
theorem f_221_20 : rfI 221 20 = some (.if_icmp .eq 25, (0, 0, 0, 0)) := by decide +kernel
theorem f_221_23 : rfI 221 23 = some (.iload_n 1, (0, 0, 0, 0)) := by decide +kernel
theorem f_221_24 : rfI 221 24 = some (.bipush 105, (0, 0, 0, 0)) := by decide +kernel
theorem f_221_26 : rfI 221 26 = some (.if_icmp .eq 19, (0, 0, 0, 0)) := by decide +kernel
theorem f_221_29 : rfI 221 29 = some (.iload_n 1, (0, 0, 0, 0)) := by decide +kernel
theorem f_221_30 : rfI 221 30 = some (.bipush 120, (0, 0, 0, 0)) := by decide +kernel
theorem f_221_32 : rfI 221 32 = some (.if_icmp .eq 13, (0, 0, 0, 0)) := by decide +kernel
theorem f_221_35 : rfI 221 35 = some (.aload_n 0, (0, 0, 0, 0)) := by decide +kernel
theorem f_221_36 : rfI 221 36 = some (.iconst 1, (0, 0, 0, 0)) := by decide +kernel
theorem f_221_37 : rfI 221 37 = some (.aload_n 0, (0, 0, 0, 0)) := by decide +kernel
theorem f_221_38 : rfI 221 38 = some (.getfield 156, (12, 5, 0, 0)) := by decide +kernel
theorem f_221_41 : rfI 221 41 = some (.invokevirtual 169, (204, 3, 11, 0)) := by decide +kernel
theorem f_221_44 : rfI 221 44 = some (.ireturn, (0, 0, 0, 0)) := by decide +kernel
theorem f_221_45 : rfI 221 45 = some (.aload_n 0, (0, 0, 0, 0)) := by decide +kernel
theorem f_221_46 : rfI 221 46 = some (.getfield 233, (12, 12, 0, 0)) := by decide +kernel
theorem f_221_49 : rfI 221 49 = some (.bipush 16, (0, 0, 0, 0)) := by decide +kernel
theorem f_221_51 : rfI 221 51 = some (.if_icmp .ne 13, (0, 0, 0, 0)) := by decide +kernel
theorem f_221_54 : rfI 221 54 = some (.aload_n 0, (0, 0, 0, 0)) := by decide +kernel
theorem f_221_55 : rfI 221 55 = some (.iconst 4, (0, 0, 0, 0)) := by decide +kernel
theorem f_221_56 : rfI 221 56 = some (.aload_n 0, (0, 0, 0, 0)) := by decide +kernel
theorem f_221_57 : rfI 221 57 = some (.getfield 156, (12, 5, 0, 0)) := by decide +kernel
theorem f_221_60 : rfI 221 60 = some (.invokevirtual 169, (204, 3, 11, 0)) := by decide +kernel
theorem f_221_63 : rfI 221 63 = some (.ireturn, (0, 0, 0, 0)) := by decide +kernel
theorem f_221_64 : rfI 221 64 = some (.aload_n 0, (0, 0, 0, 0)) := by decide +kernel
theorem f_221_65 : rfI 221 65 = some (.getfield 29, (12, 16, 2, 0)) := by decide +kernel
theorem f_221_68 : rfI 221 68 = some (.aload_n 0, (0, 0, 0, 0)) := by decide +kernel
theorem f_221_69 : rfI 221 69 = some (.getfield 233, (12, 12, 0, 0)) := by decide +kernel
theorem f_221_72 : rfI 221 72 = some (.iload_n 1, (0, 0, 0, 0)) := by decide +kernel
theorem f_221_73 : rfI 221 73 = some (.iastore, (0, 0, 0, 0)) := by decide +kernel
theorem f_221_74 : rfI 221 74 = some (.aload_n 0, (0, 0, 0, 0)) := by decide +kernel
theorem f_221_75 : rfI 221 75 = some (.aload_n 0, (0, 0, 0, 0)) := by decide +kernel
theorem f_221_76 : rfI 221 76 = some (.getfield 156, (12, 5, 0, 0)) := by decide +kernel
theorem f_221_79 : rfI 221 79 = some (.iconst 1, (0, 0, 0, 0)) := by decide +kernel
theorem f_221_80 : rfI 221 80 = some (.iadd, (0, 0, 0, 0)) := by decide +kernel
theorem f_221_81 : rfI 221 81 = some (.putfield 156, (12, 5, 0, 0)) := by decide +kernel
theorem f_221_84 : rfI 221 84 = some (.aload_n 0, (0, 0, 0, 0)) := by decide +kernel
theorem f_221_85 : rfI 221 85 = some (.getfield 32, (12, 17, 2, 0)) := by decide +kernel
theorem f_221_88 : rfI 221 88 = some (.aload_n 0, (0, 0, 0, 0)) := by decide +kernel
theorem f_221_89 : rfI 221 89 = some (.getfield 233, (12, 12, 0, 0)) := by decide +kernel
theorem f_221_92 : rfI 221 92 = some (.aload_n 0, (0, 0, 0, 0)) := by decide +kernel
theorem f_221_93 : rfI 221 93 = some (.getfield 179, (12, 10, 0, 0)) := by decide +kernel
theorem f_221_96 : rfI 221 96 = some (.iastore, (0, 0, 0, 0)) := by decide +kernel
theorem f_221_97 : rfI 221 97 = some (.aload_n 0, (0, 0, 0, 0)) := by decide +kernel
theorem f_221_98 : rfI 221 98 = some (.iconst 0, (0, 0, 0, 0)) := by decide +kernel
theorem f_221_99 : rfI 221 99 = some (.putfield 183, (12, 9, 0, 0)) := by decide +kernel
theorem f_221_102 : rfI 221 102 = some (.aload_n 0, (0, 0, 0, 0)) := by decide +kernel
theorem f_221_103 : rfI 221 103 = some (.iconst 0, (0, 0, 0, 0)) := by decide +kernel
theorem f_221_104 : rfI 221 104 = some (.putfield 186, (12, 11, 0, 0)) := by decide +kernel
theorem f_221_107 : rfI 221 107 = some (.iload_n 1, (0, 0, 0, 0)) := by decide +kernel
theorem f_221_108 : rfI 221 108 = some (.bipush 120, (0, 0, 0, 0)) := by decide +kernel
theorem f_221_110 : rfI 221 110 = some (.if_icmp .eq 12, (0, 0, 0, 0)) := by decide +kernel
theorem f_221_113 : rfI 221 113 = some (.aload_n 0, (0, 0, 0, 0)) := by decide +kernel
theorem f_221_114 : rfI 221 114 = some (.invokevirtual 218, (215, 1, 11, 0)) := by decide +kernel
theorem f_221_117 : rfI 221 117 = some (.ifCond .ne 5, (0, 0, 0, 0)) := by decide +kernel
theorem f_221_120 : rfI 221 120 = some (.iconst 0, (0, 0, 0, 0)) := by decide +kernel
theorem f_221_121 : rfI 221 121 = some (.ireturn, (0, 0, 0, 0)) := by decide +kernel
theorem f_221_122 : rfI 221 122 = some (.aload_n 0, (0, 0, 0, 0)) := by decide +kernel
theorem f_221_123 : rfI 221 123 = some (.getfield 35, (12, 18, 2, 0)) := by decide +kernel
theorem f_221_126 : rfI 221 126 = some (.aload_n 0, (0, 0, 0, 0)) := by decide +kernel
theorem f_221_127 : rfI 221 127 = some (.getfield 233, (12, 12, 0, 0)) := by decide +kernel
theorem f_221_130 : rfI 221 130 = some (.aload_n 0, (0, 0, 0, 0)) := by decide +kernel
theorem f_221_131 : rfI 221 131 = some (.getfield 179, (12, 10, 0, 0)) := by decide +kernel
theorem f_221_134 : rfI 221 134 = some (.iastore, (0, 0, 0, 0)) := by decide +kernel
theorem f_221_135 : rfI 221 135 = some (.aload_n 0, (0, 0, 0, 0)) := by decide +kernel
theorem f_221_136 : rfI 221 136 = some (.invokevirtual 236, (220, 1, 11, 0)) := by decide +kernel
theorem f_221_139 : rfI 221 139 = some (.ifCond .ne 5, (0, 0, 0, 0)) := by decide +kernel
theorem f_221_142 : rfI 221 142 = some (.iconst 0, (0, 0, 0, 0)) := by decide +kernel
theorem f_221_143 : rfI 221 143 = some (.ireturn, (0, 0, 0, 0)) := by decide +kernel
theorem f_221_144 : rfI 221 144 = some (.aload_n 0, (0, 0, 0, 0)) := by decide +kernel
theorem f_221_145 : rfI 221 145 = some (.getfield 38, (12, 19, 2, 0)) := by decide +kernel
theorem f_221_148 : rfI 221 148 = some (.aload_n 0, (0, 0, 0, 0)) := by decide +kernel
theorem f_221_149 : rfI 221 149 = some (.getfield 233, (12, 12, 0, 0)) := by decide +kernel
theorem f_221_152 : rfI 221 152 = some (.aload_n 0, (0, 0, 0, 0)) := by decide +kernel
theorem f_221_153 : rfI 221 153 = some (.getfield 179, (12, 10, 0, 0)) := by decide +kernel
theorem f_221_156 : rfI 221 156 = some (.iastore, (0, 0, 0, 0)) := by decide +kernel
theorem f_221_157 : rfI 221 157 = some (.aload_n 0, (0, 0, 0, 0)) := by decide +kernel
theorem f_221_158 : rfI 221 158 = some (.aload_n 0, (0, 0, 0, 0)) := by decide +kernel
theorem f_221_159 : rfI 221 159 = some (.getfield 233, (12, 12, 0, 0)) := by decide +kernel
theorem f_221_162 : rfI 221 162 = some (.iconst 1, (0, 0, 0, 0)) := by decide +kernel
theorem f_221_163 : rfI 221 163 = some (.iadd, (0, 0, 0, 0)) := by decide +kernel
theorem f_221_164 : rfI 221 164 = some (.putfield 233, (12, 12, 0, 0)) := by decide +kernel
theorem f_221_167 : rfI 221 167 = some (.iconst 1, (0, 0, 0, 0)) := by decide +kernel
theorem f_221_168 : rfI 221 168 = some (.ireturn, (0, 0, 0, 0)) := by decide +kernel
theorem f_222_0 : rfI 222 0 = some (.aload_n 0, (0, 0, 0, 0)) := by decide +kernel
theorem f_222_1 : rfI 222 1 = some (.iconst 0, (0, 0, 0, 0)) := by decide +kernel
theorem f_222_2 : rfI 222 2 = some (.putfield 156, (12, 5, 0, 0)) := by decide +kernel
theorem f_222_5 : rfI 222 5 = some (.aload_n 0, (0, 0, 0, 0)) := by decide +kernel
theorem f_222_6 : rfI 222 6 = some (.iload_n 1, (0, 0, 0, 0)) := by decide +kernel
theorem f_222_7 : rfI 222 7 = some (.putfield 159, (12, 6, 0, 0)) := by decide +kernel
theorem f_222_10 : rfI 222 10 = some (.aload_n 0, (0, 0, 0, 0)) := by decide +kernel
theorem f_222_11 : rfI 222 11 = some (.iconst 0, (0, 0, 0, 0)) := by decide +kernel
theorem f_222_12 : rfI 222 12 = some (.putfield 179, (12, 10, 0, 0)) := by decide +kernel
theorem f_222_15 : rfI 222 15 = some (.aload_n 0, (0, 0, 0, 0)) := by decide +kernel
theorem f_222_16 : rfI 222 16 = some (.iconst 0, (0, 0, 0, 0)) := by decide +kernel
theorem f_222_17 : rfI 222 17 = some (.putfield 233, (12, 12, 0, 0)) := by decide +kernel
theorem f_222_20 : rfI 222 20 = some (.return_, (0, 0, 0, 0)) := by decide +kernel
theorem f_223_0 : rfI 223 0 = some (.iload_n 1, (0, 0, 0, 0)) := by decide +kernel
theorem f_223_1 : rfI 223 1 = some (.iconst 1, (0, 0, 0, 0)) := by decide +kernel
theorem f_223_2 : rfI 223 2 = some (.sipush 240, (0, 0, 0, 0)) := by decide +kernel
theorem f_223_5 : rfI 223 5 = some (.invokestatic 116, (181, 3, 10, 0)) := by decide +kernel
theorem f_223_8 : rfI 223 8 = some (.ifCond .eq 11, (0, 0, 0, 0)) := by decide +kernel
theorem f_223_11 : rfI 223 11 = some (.iload_n 1, (0, 0, 0, 0)) := by decide +kernel
theorem f_223_12 : rfI 223 12 = some (.aload_n 0, (0, 0, 0, 0)) := by decide +kernel
theorem f_223_13 : rfI 223 13 = some (.getfield 148, (12, 4, 0, 0)) := by decide +kernel
theorem f_223_16 : rfI 223 16 = some (.if_icmp .le 5, (0, 0, 0, 0)) := by decide +kernel
theorem f_223_19 : rfI 223 19 = some (.iconst (-1), (0, 0, 0, 0)) := by decide +kernel
theorem f_223_20 : rfI 223 20 = some (.ireturn, (0, 0, 0, 0)) := by decide +kernel
theorem f_223_21 : rfI 223 21 = some (.aload_n 0, (0, 0, 0, 0)) := by decide +kernel
theorem f_223_22 : rfI 223 22 = some (.iload_n 1, (0, 0, 0, 0)) := by decide +kernel
theorem f_223_23 : rfI 223 23 = some (.invokevirtual 239, (222, 2, 11, 0)) := by decide +kernel
theorem f_223_26 : rfI 223 26 = some (.aload_n 0, (0, 0, 0, 0)) := by decide +kernel
theorem f_223_27 : rfI 223 27 = some (.invokevirtual 242, (221, 1, 11, 0)) := by decide +kernel
theorem f_223_30 : rfI 223 30 = some (.istore_n 2, (0, 0, 0, 0)) := by decide +kernel
theorem f_223_31 : rfI 223 31 = some (.iload_n 2, (0, 0, 0, 0)) := by decide +kernel
theorem f_223_32 : rfI 223 32 = some (.ifCond .eq 39, (0, 0, 0, 0)) := by decide +kernel
theorem f_223_35 : rfI 223 35 = some (.aload_n 0, (0, 0, 0, 0)) := by decide +kernel
theorem f_223_36 : rfI 223 36 = some (.getfield 156, (12, 5, 0, 0)) := by decide +kernel
theorem f_223_39 : rfI 223 39 = some (.aload_n 0, (0, 0, 0, 0)) := by decide +kernel
theorem f_223_40 : rfI 223 40 = some (.getfield 159, (12, 6, 0, 0)) := by decide +kernel
theorem f_223_43 : rfI 223 43 = some (.if_icmp .ge 28, (0, 0, 0, 0)) := by decide +kernel
theorem f_223_46 : rfI 223 46 = some (.aload_n 0, (0, 0, 0, 0)) := by decide +kernel
theorem f_223_47 : rfI 223 47 = some (.bipush 59, (0, 0, 0, 0)) := by decide +kernel
theorem f_223_49 : rfI 223 49 = some (.invokevirtual 245, (205, 2, 11, 0)) := by decide +kernel
theorem f_223_52 : rfI 223 52 = some (.ifCond .eq 14, (0, 0, 0, 0)) := by decide +kernel
theorem f_223_55 : rfI 223 55 = some (.aload_n 0, (0, 0, 0, 0)) := by decide +kernel
theorem f_223_56 : rfI 223 56 = some (.invokevirtual 242, (221, 1, 11, 0)) := by decide +kernel
theorem f_223_59 : rfI 223 59 = some (.ifCond .eq 7, (0, 0, 0, 0)) := by decide +kernel
theorem f_223_62 : rfI 223 62 = some (.iconst 1, (0, 0, 0, 0)) := by decide +kernel
theorem f_223_63 : rfI 223 63 = some (.goto 4, (0, 0, 0, 0)) := by decide +kernel
theorem f_223_66 : rfI 223 66 = some (.iconst 0, (0, 0, 0, 0)) := by decide +kernel
theorem f_223_67 : rfI 223 67 = some (.istore_n 2, (0, 0, 0, 0)) := by decide +kernel
theorem f_223_68 : rfI 223 68 = some (.goto (-37), (0, 0, 0, 0)) := by decide +kernel
theorem f_223_71 : rfI 223 71 = some (.aload_n 0, (0, 0, 0, 0)) := by decide +kernel
theorem f_223_72 : rfI 223 72 = some (.iconst 0, (0, 0, 0, 0)) := by decide +kernel
theorem f_223_73 : rfI 223 73 = some (.putfield 148, (12, 4, 0, 0)) := by decide +kernel
theorem f_223_76 : rfI 223 76 = some (.iload_n 2, (0, 0, 0, 0)) := by decide +kernel
theorem f_223_77 : rfI 223 77 = some (.ifCond .ne 8, (0, 0, 0, 0)) := by decide +kernel
theorem f_223_80 : rfI 223 80 = some (.aload_n 0, (0, 0, 0, 0)) := by decide +kernel
theorem f_223_81 : rfI 223 81 = some (.getfield 166, (12, 7, 0, 0)) := by decide +kernel
theorem f_223_84 : rfI 223 84 = some (.ireturn, (0, 0, 0, 0)) := by decide +kernel
theorem f_223_85 : rfI 223 85 = some (.aload_n 0, (0, 0, 0, 0)) := by decide +kernel
theorem f_223_86 : rfI 223 86 = some (.aload_n 0, (0, 0, 0, 0)) := by decide +kernel
theorem f_223_87 : rfI 223 87 = some (.getfield 233, (12, 12, 0, 0)) := by decide +kernel
theorem f_223_90 : rfI 223 90 = some (.putfield 248, (12, 13, 0, 0)) := by decide +kernel
theorem f_223_93 : rfI 223 93 = some (.iconst 0, (0, 0, 0, 0)) := by decide +kernel
theorem f_223_94 : rfI 223 94 = some (.istore_n 3, (0, 0, 0, 0)) := by decide +kernel
theorem f_223_95 : rfI 223 95 = some (.iload_n 3, (0, 0, 0, 0)) := by decide +kernel
theorem f_223_96 : rfI 223 96 = some (.aload_n 0, (0, 0, 0, 0)) := by decide +kernel
theorem f_223_97 : rfI 223 97 = some (.getfield 179, (12, 10, 0, 0)) := by decide +kernel
theorem f_223_100 : rfI 223 100 = some (.if_icmp .ge 21, (0, 0, 0, 0)) := by decide +kernel
theorem f_223_103 : rfI 223 103 = some (.aload_n 0, (0, 0, 0, 0)) := by decide +kernel
theorem f_223_104 : rfI 223 104 = some (.getfield 41, (12, 20, 2, 0)) := by decide +kernel
theorem f_223_107 : rfI 223 107 = some (.iload_n 3, (0, 0, 0, 0)) := by decide +kernel
theorem f_223_108 : rfI 223 108 = some (.aload_n 0, (0, 0, 0, 0)) := by decide +kernel
theorem f_223_109 : rfI 223 109 = some (.getfield 23, (12, 14, 2, 0)) := by decide +kernel
theorem f_223_112 : rfI 223 112 = some (.iload_n 3, (0, 0, 0, 0)) := by decide +kernel
theorem f_223_113 : rfI 223 113 = some (.iaload, (0, 0, 0, 0)) := by decide +kernel
theorem f_223_114 : rfI 223 114 = some (.iastore, (0, 0, 0, 0)) := by decide +kernel
theorem f_223_115 : rfI 223 115 = some (.iinc 3 1, (0, 0, 0, 0)) := by decide +kernel
theorem f_223_118 : rfI 223 118 = some (.goto (-23), (0, 0, 0, 0)) := by decide +kernel
theorem f_223_121 : rfI 223 121 = some (.iconst 0, (0, 0, 0, 0)) := by decide +kernel
theorem f_223_122 : rfI 223 122 = some (.istore_n 3, (0, 0, 0, 0)) := by decide +kernel
theorem f_223_123 : rfI 223 123 = some (.iload_n 3, (0, 0, 0, 0)) := by decide +kernel
theorem f_223_124 : rfI 223 124 = some (.aload_n 0, (0, 0, 0, 0)) := by decide +kernel
theorem f_223_125 : rfI 223 125 = some (.getfield 233, (12, 12, 0, 0)) := by decide +kernel
theorem f_223_128 : rfI 223 128 = some (.if_icmp .ge 57, (0, 0, 0, 0)) := by decide +kernel
theorem f_223_131 : rfI 223 131 = some (.aload_n 0, (0, 0, 0, 0)) := by decide +kernel
theorem f_223_132 : rfI 223 132 = some (.getfield 44, (12, 21, 2, 0)) := by decide +kernel
theorem f_223_135 : rfI 223 135 = some (.iload_n 3, (0, 0, 0, 0)) := by decide +kernel
theorem f_223_136 : rfI 223 136 = some (.aload_n 0, (0, 0, 0, 0)) := by decide +kernel
theorem f_223_137 : rfI 223 137 = some (.getfield 29, (12, 16, 2, 0)) := by decide +kernel
theorem f_223_140 : rfI 223 140 = some (.iload_n 3, (0, 0, 0, 0)) := by decide +kernel
theorem f_223_141 : rfI 223 141 = some (.iaload, (0, 0, 0, 0)) := by decide +kernel
theorem f_223_142 : rfI 223 142 = some (.iastore, (0, 0, 0, 0)) := by decide +kernel
theorem f_223_143 : rfI 223 143 = some (.aload_n 0, (0, 0, 0, 0)) := by decide +kernel
theorem f_223_144 : rfI 223 144 = some (.getfield 47, (12, 22, 2, 0)) := by decide +kernel
theorem f_223_147 : rfI 223 147 = some (.iload_n 3, (0, 0, 0, 0)) := by decide +kernel
theorem f_223_148 : rfI 223 148 = some (.aload_n 0, (0, 0, 0, 0)) := by decide +kernel
theorem f_223_149 : rfI 223 149 = some (.getfield 32, (12, 17, 2, 0)) := by decide +kernel
theorem f_223_152 : rfI 223 152 = some (.iload_n 3, (0, 0, 0, 0)) := by decide +kernel
theorem f_223_153 : rfI 223 153 = some (.iaload, (0, 0, 0, 0)) := by decide +kernel
theorem f_223_154 : rfI 223 154 = some (.iastore, (0, 0, 0, 0)) := by decide +kernel
theorem f_223_155 : rfI 223 155 = some (.aload_n 0, (0, 0, 0, 0)) := by decide +kernel
theorem f_223_156 : rfI 223 156 = some (.getfield 50, (12, 23, 2, 0)) := by decide +kernel
theorem f_223_159 : rfI 223 159 = some (.iload_n 3, (0, 0, 0, 0)) := by decide +kernel
theorem f_223_160 : rfI 223 160 = some (.aload_n 0, (0, 0, 0, 0)) := by decide +kernel
theorem f_223_161 : rfI 223 161 = some (.getfield 35, (12, 18, 2, 0)) := by decide +kernel
theorem f_223_164 : rfI 223 164 = some (.iload_n 3, (0, 0, 0, 0)) := by decide +kernel
theorem f_223_165 : rfI 223 165 = some (.iaload, (0, 0, 0, 0)) := by decide +kernel
theorem f_223_166 : rfI 223 166 = some (.iastore, (0, 0, 0, 0)) := by decide +kernel
theorem f_223_167 : rfI 223 167 = some (.aload_n 0, (0, 0, 0, 0)) := by decide +kernel
theorem f_223_168 : rfI 223 168 = some (.getfield 53, (12, 24, 2, 0)) := by decide +kernel
theorem f_223_171 : rfI 223 171 = some (.iload_n 3, (0, 0, 0, 0)) := by decide +kernel
theorem f_223_172 : rfI 223 172 = some (.aload_n 0, (0, 0, 0, 0)) := by decide +kernel
theorem f_223_173 : rfI 223 173 = some (.getfield 38, (12, 19, 2, 0)) := by decide +kernel
theorem f_223_176 : rfI 223 176 = some (.iload_n 3, (0, 0, 0, 0)) := by decide +kernel
theorem f_223_177 : rfI 223 177 = some (.iaload, (0, 0, 0, 0)) := by decide +kernel
theorem f_223_178 : rfI 223 178 = some (.iastore, (0, 0, 0, 0)) := by decide +kernel
theorem f_223_179 : rfI 223 179 = some (.iinc 3 1, (0, 0, 0, 0)) := by decide +kernel
theorem f_223_182 : rfI 223 182 = some (.goto (-59), (0, 0, 0, 0)) := by decide +kernel
theorem f_223_185 : rfI 223 185 = some (.aload_n 0, (0, 0, 0, 0)) := by decide +kernel
theorem f_223_186 : rfI 223 186 = some (.getfield 233, (12, 12, 0, 0)) := by decide +kernel
theorem f_223_189 : rfI 223 189 = some (.ireturn, (0, 0, 0, 0)) := by decide +kernel
theorem f_224_0 : rfI 224 0 = some (.iload_n 0, (0, 0, 0, 0)) := by decide +kernel
theorem f_224_1 : rfI 224 1 = some (.tableswitch 85 2 8 #[43, 47, 51, 55, 59, 63, 74], (0, 0, 0, 0)) := by decide +kernel
theorem f_224_44 : rfI 224 44 = some (.iload_n 1, (0, 0, 0, 0)) := by decide +kernel
theorem f_224_45 : rfI 224 45 = some (.iload_n 2, (0, 0, 0, 0)) := by decide +kernel
theorem f_224_46 : rfI 224 46 = some (.iadd, (0, 0, 0, 0)) := by decide +kernel
theorem f_224_47 : rfI 224 47 = some (.ireturn, (0, 0, 0, 0)) := by decide +kernel
theorem f_224_48 : rfI 224 48 = some (.iload_n 1, (0, 0, 0, 0)) := by decide +kernel
theorem f_224_49 : rfI 224 49 = some (.iload_n 2, (0, 0, 0, 0)) := by decide +kernel
theorem f_224_50 : rfI 224 50 = some (.isub, (0, 0, 0, 0)) := by decide +kernel
theorem f_224_51 : rfI 224 51 = some (.ireturn, (0, 0, 0, 0)) := by decide +kernel
theorem f_224_52 : rfI 224 52 = some (.iload_n 1, (0, 0, 0, 0)) := by decide +kernel
theorem f_224_53 : rfI 224 53 = some (.iload_n 2, (0, 0, 0, 0)) := by decide +kernel
theorem f_224_54 : rfI 224 54 = some (.imul, (0, 0, 0, 0)) := by decide +kernel
theorem f_224_55 : rfI 224 55 = some (.ireturn, (0, 0, 0, 0)) := by decide +kernel
theorem f_224_56 : rfI 224 56 = some (.iload_n 1, (0, 0, 0, 0)) := by decide +kernel
theorem f_224_57 : rfI 224 57 = some (.iload_n 2, (0, 0, 0, 0)) := by decide +kernel
theorem f_224_58 : rfI 224 58 = some (.idiv, (0, 0, 0, 0)) := by decide +kernel
theorem f_224_59 : rfI 224 59 = some (.ireturn, (0, 0, 0, 0)) := by decide +kernel
theorem f_224_60 : rfI 224 60 = some (.iload_n 1, (0, 0, 0, 0)) := by decide +kernel
theorem f_224_61 : rfI 224 61 = some (.iload_n 2, (0, 0, 0, 0)) := by decide +kernel
theorem f_224_62 : rfI 224 62 = some (.irem, (0, 0, 0, 0)) := by decide +kernel
theorem f_224_63 : rfI 224 63 = some (.ireturn, (0, 0, 0, 0)) := by decide +kernel
theorem f_224_64 : rfI 224 64 = some (.iload_n 1, (0, 0, 0, 0)) := by decide +kernel
theorem f_224_65 : rfI 224 65 = some (.iload_n 2, (0, 0, 0, 0)) := by decide +kernel
theorem f_224_66 : rfI 224 66 = some (.if_icmp .ge 7, (0, 0, 0, 0)) := by decide +kernel
theorem f_224_69 : rfI 224 69 = some (.iconst 1, (0, 0, 0, 0)) := by decide +kernel
theorem f_224_70 : rfI 224 70 = some (.goto 4, (0, 0, 0, 0)) := by decide +kernel
theorem f_224_73 : rfI 224 73 = some (.iconst 0, (0, 0, 0, 0)) := by decide +kernel
theorem f_224_74 : rfI 224 74 = some (.ireturn, (0, 0, 0, 0)) := by decide +kernel
theorem f_224_75 : rfI 224 75 = some (.iload_n 1, (0, 0, 0, 0)) := by decide +kernel
theorem f_224_76 : rfI 224 76 = some (.iload_n 2, (0, 0, 0, 0)) := by decide +kernel
theorem f_224_77 : rfI 224 77 = some (.if_icmp .le 7, (0, 0, 0, 0)) := by decide +kernel
theorem f_224_80 : rfI 224 80 = some (.iconst 1, (0, 0, 0, 0)) := by decide +kernel
theorem f_224_81 : rfI 224 81 = some (.goto 4, (0, 0, 0, 0)) := by decide +kernel
theorem f_224_84 : rfI 224 84 = some (.iconst 0, (0, 0, 0, 0)) := by decide +kernel
theorem f_224_85 : rfI 224 85 = some (.ireturn, (0, 0, 0, 0)) := by decide +kernel
theorem f_224_86 : rfI 224 86 = some (.iload_n 1, (0, 0, 0, 0)) := by decide +kernel
theorem f_224_87 : rfI 224 87 = some (.iload_n 2, (0, 0, 0, 0)) := by decide +kernel
theorem f_224_88 : rfI 224 88 = some (.if_icmp .ne 7, (0, 0, 0, 0)) := by decide +kernel
theorem f_224_91 : rfI 224 91 = some (.iconst 1, (0, 0, 0, 0)) := by decide +kernel
theorem f_224_92 : rfI 224 92 = some (.goto 4, (0, 0, 0, 0)) := by decide +kernel
theorem f_224_95 : rfI 224 95 = some (.iconst 0, (0, 0, 0, 0)) := by decide +kernel
theorem f_224_96 : rfI 224 96 = some (.ireturn, (0, 0, 0, 0)) := by decide +kernel
theorem f_225_0 : rfI 225 0 = some (.iconst 0, (0, 0, 0, 0)) := by decide +kernel
theorem f_225_1 : rfI 225 1 = some (.istore_n 3, (0, 0, 0, 0)) := by decide +kernel
theorem f_225_2 : rfI 225 2 = some (.sipush 260, (0, 0, 0, 0)) := by decide +kernel
theorem f_225_5 : rfI 225 5 = some (.iload_n 1, (0, 0, 0, 0)) := by decide +kernel
theorem f_225_6 : rfI 225 6 = some (.sipush 260, (0, 0, 0, 0)) := by decide +kernel
theorem f_225_9 : rfI 225 9 = some (.idiv, (0, 0, 0, 0)) := by decide +kernel
theorem f_225_10 : rfI 225 10 = some (.imul, (0, 0, 0, 0)) := by decide +kernel
theorem f_225_11 : rfI 225 11 = some (.istore 4, (0, 0, 0, 0)) := by decide +kernel
theorem f_225_13 : rfI 225 13 = some (.iload_n 1, (0, 0, 0, 0)) := by decide +kernel
theorem f_225_14 : rfI 225 14 = some (.istore 5, (0, 0, 0, 0)) := by decide +kernel
theorem f_225_16 : rfI 225 16 = some (.iload 5, (0, 0, 0, 0)) := by decide +kernel
theorem f_225_18 : rfI 225 18 = some (.iload_n 2, (0, 0, 0, 0)) := by decide +kernel
theorem f_225_19 : rfI 225 19 = some (.if_icmp .ge 214, (0, 0, 0, 0)) := by decide +kernel
theorem f_225_22 : rfI 225 22 = some (.aload_n 0, (0, 0, 0, 0)) := by decide +kernel
theorem f_225_23 : rfI 225 23 = some (.getfield 41, (12, 20, 2, 0)) := by decide +kernel
theorem f_225_26 : rfI 225 26 = some (.iload 5, (0, 0, 0, 0)) := by decide +kernel
theorem f_225_28 : rfI 225 28 = some (.iaload, (0, 0, 0, 0)) := by decide +kernel
theorem f_225_29 : rfI 225 29 = some (.ldc 182, (4, 4, 4, 1048576)) := by decide +kernel
theorem f_225_31 : rfI 225 31 = some (.idiv, (0, 0, 0, 0)) := by decide +kernel
theorem f_225_32 : rfI 225 32 = some (.istore 6, (0, 0, 0, 0)) := by decide +kernel
theorem f_225_34 : rfI 225 34 = some (.aload_n 0, (0, 0, 0, 0)) := by decide +kernel
theorem f_225_35 : rfI 225 35 = some (.getfield 41, (12, 20, 2, 0)) := by decide +kernel
theorem f_225_38 : rfI 225 38 = some (.iload 5, (0, 0, 0, 0)) := by decide +kernel
theorem f_225_40 : rfI 225 40 = some (.iaload, (0, 0, 0, 0)) := by decide +kernel
theorem f_225_41 : rfI 225 41 = some (.ldc 182, (4, 4, 4, 1048576)) := by decide +kernel
theorem f_225_43 : rfI 225 43 = some (.irem, (0, 0, 0, 0)) := by decide +kernel
theorem f_225_44 : rfI 225 44 = some (.istore 7, (0, 0, 0, 0)) := by decide +kernel
theorem f_225_46 : rfI 225 46 = some (.iload 5, (0, 0, 0, 0)) := by decide +kernel
theorem f_225_48 : rfI 225 48 = some (.iconst 1, (0, 0, 0, 0)) := by decide +kernel
theorem f_225_49 : rfI 225 49 = some (.iadd, (0, 0, 0, 0)) := by decide +kernel
theorem f_225_50 : rfI 225 50 = some (.istore 5, (0, 0, 0, 0)) := by decide +kernel
theorem f_225_52 : rfI 225 52 = some (.iload 6, (0, 0, 0, 0)) := by decide +kernel
theorem f_225_54 : rfI 225 54 = some (.ifCond .eq 9, (0, 0, 0, 0)) := by decide +kernel
theorem f_225_57 : rfI 225 57 = some (.iload 6, (0, 0, 0, 0)) := by decide +kernel
theorem f_225_59 : rfI 225 59 = some (.iconst 1, (0, 0, 0, 0)) := by decide +kernel
theorem f_225_60 : rfI 225 60 = some (.if_icmp .ne 33, (0, 0, 0, 0)) := by decide +kernel
theorem f_225_63 : rfI 225 63 = some (.aload_n 0, (0, 0, 0, 0)) := by decide +kernel
theorem f_225_64 : rfI 225 64 = some (.getfield 56, (12, 25, 2, 0)) := by decide +kernel
theorem f_225_67 : rfI 225 67 = some (.iload_n 3, (0, 0, 0, 0)) := by decide +kernel
theorem f_225_68 : rfI 225 68 = some (.iload 6, (0, 0, 0, 0)) := by decide +kernel
theorem f_225_70 : rfI 225 70 = some (.ifCond .ne 8, (0, 0, 0, 0)) := by decide +kernel
theorem f_225_73 : rfI 225 73 = some (.iload 7, (0, 0, 0, 0)) := by decide +kernel
theorem f_225_75 : rfI 225 75 = some (.goto 10, (0, 0, 0, 0)) := by decide +kernel
theorem f_225_78 : rfI 225 78 = some (.aload_n 0, (0, 0, 0, 0)) := by decide +kernel
theorem f_225_79 : rfI 225 79 = some (.getfield 59, (12, 26, 2, 0)) := by decide +kernel
theorem f_225_82 : rfI 225 82 = some (.iload 7, (0, 0, 0, 0)) := by decide +kernel
theorem f_225_84 : rfI 225 84 = some (.iaload, (0, 0, 0, 0)) := by decide +kernel
theorem f_225_85 : rfI 225 85 = some (.iastore, (0, 0, 0, 0)) := by decide +kernel
theorem f_225_86 : rfI 225 86 = some (.iload_n 3, (0, 0, 0, 0)) := by decide +kernel
theorem f_225_87 : rfI 225 87 = some (.iconst 1, (0, 0, 0, 0)) := by decide +kernel
theorem f_225_88 : rfI 225 88 = some (.iadd, (0, 0, 0, 0)) := by decide +kernel
theorem f_225_89 : rfI 225 89 = some (.istore_n 3, (0, 0, 0, 0)) := by decide +kernel
theorem f_225_90 : rfI 225 90 = some (.goto 140, (0, 0, 0, 0)) := by decide +kernel
theorem f_225_93 : rfI 225 93 = some (.iload 6, (0, 0, 0, 0)) := by decide +kernel
theorem f_225_95 : rfI 225 95 = some (.bipush 10, (0, 0, 0, 0)) := by decide +kernel
theorem f_225_97 : rfI 225 97 = some (.if_icmp .ne 24, (0, 0, 0, 0)) := by decide +kernel
theorem f_225_100 : rfI 225 100 = some (.aload_n 0, (0, 0, 0, 0)) := by decide +kernel
theorem f_225_101 : rfI 225 101 = some (.getfield 56, (12, 25, 2, 0)) := by decide +kernel
theorem f_225_104 : rfI 225 104 = some (.iload_n 3, (0, 0, 0, 0)) := by decide +kernel
theorem f_225_105 : rfI 225 105 = some (.iconst 1, (0, 0, 0, 0)) := by decide +kernel
theorem f_225_106 : rfI 225 106 = some (.isub, (0, 0, 0, 0)) := by decide +kernel
theorem f_225_107 : rfI 225 107 = some (.iconst 1, (0, 0, 0, 0)) := by decide +kernel
theorem f_225_108 : rfI 225 108 = some (.aload_n 0, (0, 0, 0, 0)) := by decide +kernel
theorem f_225_109 : rfI 225 109 = some (.getfield 56, (12, 25, 2, 0)) := by decide +kernel
theorem f_225_112 : rfI 225 112 = some (.iload_n 3, (0, 0, 0, 0)) := by decide +kernel
theorem f_225_113 : rfI 225 113 = some (.iconst 1, (0, 0, 0, 0)) := by decide +kernel
theorem f_225_114 : rfI 225 114 = some (.isub, (0, 0, 0, 0)) := by decide +kernel
theorem f_225_115 : rfI 225 115 = some (.iaload, (0, 0, 0, 0)) := by decide +kernel
theorem f_225_116 : rfI 225 116 = some (.isub, (0, 0, 0, 0)) := by decide +kernel
theorem f_225_117 : rfI 225 117 = some (.iastore, (0, 0, 0, 0)) := by decide +kernel
theorem f_225_118 : rfI 225 118 = some (.goto 112, (0, 0, 0, 0)) := by decide +kernel
theorem f_225_121 : rfI 225 121 = some (.iload 6, (0, 0, 0, 0)) := by decide +kernel
theorem f_225_123 : rfI 225 123 = some (.bipush 11, (0, 0, 0, 0)) := by decide +kernel
theorem f_225_125 : rfI 225 125 = some (.if_icmp .eq 10, (0, 0, 0, 0)) := by decide +kernel
theorem f_225_128 : rfI 225 128 = some (.iload 6, (0, 0, 0, 0)) := by decide +kernel
theorem f_225_130 : rfI 225 130 = some (.bipush 12, (0, 0, 0, 0)) := by decide +kernel
theorem f_225_132 : rfI 225 132 = some (.if_icmp .ne 43, (0, 0, 0, 0)) := by decide +kernel
theorem f_225_135 : rfI 225 135 = some (.aload_n 0, (0, 0, 0, 0)) := by decide +kernel
theorem f_225_136 : rfI 225 136 = some (.getfield 56, (12, 25, 2, 0)) := by decide +kernel
theorem f_225_139 : rfI 225 139 = some (.iload_n 3, (0, 0, 0, 0)) := by decide +kernel
theorem f_225_140 : rfI 225 140 = some (.iconst 1, (0, 0, 0, 0)) := by decide +kernel
theorem f_225_141 : rfI 225 141 = some (.isub, (0, 0, 0, 0)) := by decide +kernel
theorem f_225_142 : rfI 225 142 = some (.iaload, (0, 0, 0, 0)) := by decide +kernel
theorem f_225_143 : rfI 225 143 = some (.iload 6, (0, 0, 0, 0)) := by decide +kernel
theorem f_225_145 : rfI 225 145 = some (.bipush 12, (0, 0, 0, 0)) := by decide +kernel
theorem f_225_147 : rfI 225 147 = some (.if_icmp .ne 7, (0, 0, 0, 0)) := by decide +kernel
theorem f_225_150 : rfI 225 150 = some (.iconst 1, (0, 0, 0, 0)) := by decide +kernel
theorem f_225_151 : rfI 225 151 = some (.goto 4, (0, 0, 0, 0)) := by decide +kernel
theorem f_225_154 : rfI 225 154 = some (.iconst 0, (0, 0, 0, 0)) := by decide +kernel
theorem f_225_155 : rfI 225 155 = some (.if_icmp .ne 13, (0, 0, 0, 0)) := by decide +kernel
theorem f_225_158 : rfI 225 158 = some (.iload 4, (0, 0, 0, 0)) := by decide +kernel
theorem f_225_160 : rfI 225 160 = some (.iload 7, (0, 0, 0, 0)) := by decide +kernel
theorem f_225_162 : rfI 225 162 = some (.iadd, (0, 0, 0, 0)) := by decide +kernel
theorem f_225_163 : rfI 225 163 = some (.istore 5, (0, 0, 0, 0)) := by decide +kernel
theorem f_225_165 : rfI 225 165 = some (.goto 65, (0, 0, 0, 0)) := by decide +kernel
theorem f_225_168 : rfI 225 168 = some (.iload_n 3, (0, 0, 0, 0)) := by decide +kernel
theorem f_225_169 : rfI 225 169 = some (.iconst 1, (0, 0, 0, 0)) := by decide +kernel
theorem f_225_170 : rfI 225 170 = some (.isub, (0, 0, 0, 0)) := by decide +kernel
theorem f_225_171 : rfI 225 171 = some (.istore_n 3, (0, 0, 0, 0)) := by decide +kernel
theorem f_225_172 : rfI 225 172 = some (.goto 58, (0, 0, 0, 0)) := by decide +kernel
theorem f_225_175 : rfI 225 175 = some (.iload_n 3, (0, 0, 0, 0)) := by decide +kernel
theorem f_225_176 : rfI 225 176 = some (.iconst 1, (0, 0, 0, 0)) := by decide +kernel
theorem f_225_177 : rfI 225 177 = some (.isub, (0, 0, 0, 0)) := by decide +kernel
theorem f_225_178 : rfI 225 178 = some (.istore_n 3, (0, 0, 0, 0)) := by decide +kernel
theorem f_225_179 : rfI 225 179 = some (.iload 6, (0, 0, 0, 0)) := by decide +kernel
theorem f_225_181 : rfI 225 181 = some (.iconst 5, (0, 0, 0, 0)) := by decide +kernel
theorem f_225_182 : rfI 225 182 = some (.if_icmp .eq 10, (0, 0, 0, 0)) := by decide +kernel
theorem f_225_185 : rfI 225 185 = some (.iload 6, (0, 0, 0, 0)) := by decide +kernel
theorem f_225_187 : rfI 225 187 = some (.bipush 6, (0, 0, 0, 0)) := by decide +kernel
theorem f_225_189 : rfI 225 189 = some (.if_icmp .ne 14, (0, 0, 0, 0)) := by decide +kernel
theorem f_225_192 : rfI 225 192 = some (.aload_n 0, (0, 0, 0, 0)) := by decide +kernel
theorem f_225_193 : rfI 225 193 = some (.getfield 56, (12, 25, 2, 0)) := by decide +kernel
theorem f_225_196 : rfI 225 196 = some (.iload_n 3, (0, 0, 0, 0)) := by decide +kernel
theorem f_225_197 : rfI 225 197 = some (.iaload, (0, 0, 0, 0)) := by decide +kernel
theorem f_225_198 : rfI 225 198 = some (.ifCond .ne 5, (0, 0, 0, 0)) := by decide +kernel
theorem f_225_201 : rfI 225 201 = some (.iconst 0, (0, 0, 0, 0)) := by decide +kernel
theorem f_225_202 : rfI 225 202 = some (.ireturn, (0, 0, 0, 0)) := by decide +kernel
theorem f_225_203 : rfI 225 203 = some (.aload_n 0, (0, 0, 0, 0)) := by decide +kernel
theorem f_225_204 : rfI 225 204 = some (.getfield 56, (12, 25, 2, 0)) := by decide +kernel
theorem f_225_207 : rfI 225 207 = some (.iload_n 3, (0, 0, 0, 0)) := by decide +kernel
theorem f_225_208 : rfI 225 208 = some (.iconst 1, (0, 0, 0, 0)) := by decide +kernel
theorem f_225_209 : rfI 225 209 = some (.isub, (0, 0, 0, 0)) := by decide +kernel
theorem f_225_210 : rfI 225 210 = some (.iload 6, (0, 0, 0, 0)) := by decide +kernel
theorem f_225_212 : rfI 225 212 = some (.aload_n 0, (0, 0, 0, 0)) := by decide +kernel
theorem f_225_213 : rfI 225 213 = some (.getfield 56, (12, 25, 2, 0)) := by decide +kernel
theorem f_225_216 : rfI 225 216 = some (.iload_n 3, (0, 0, 0, 0)) := by decide +kernel
theorem f_225_217 : rfI 225 217 = some (.iconst 1, (0, 0, 0, 0)) := by decide +kernel
theorem f_225_218 : rfI 225 218 = some (.isub, (0, 0, 0, 0)) := by decide +kernel
theorem f_225_219 : rfI 225 219 = some (.iaload, (0, 0, 0, 0)) := by decide +kernel
theorem f_225_220 : rfI 225 220 = some (.aload_n 0, (0, 0, 0, 0)) := by decide +kernel
theorem f_225_221 : rfI 225 221 = some (.getfield 56, (12, 25, 2, 0)) := by decide +kernel
theorem f_225_224 : rfI 225 224 = some (.iload_n 3, (0, 0, 0, 0)) := by decide +kernel
theorem f_225_225 : rfI 225 225 = some (.iaload, (0, 0, 0, 0)) := by decide +kernel
theorem f_225_226 : rfI 225 226 = some (.invokestatic 251, (224, 3, 10, 0)) := by decide +kernel
theorem f_225_229 : rfI 225 229 = some (.iastore, (0, 0, 0, 0)) := by decide +kernel
theorem f_225_230 : rfI 225 230 = some (.goto (-214), (0, 0, 0, 0)) := by decide +kernel
theorem f_225_233 : rfI 225 233 = some (.aload_n 0, (0, 0, 0, 0)) := by decide +kernel
theorem f_225_234 : rfI 225 234 = some (.getfield 56, (12, 25, 2, 0)) := by decide +kernel
theorem f_225_237 : rfI 225 237 = some (.iconst 0, (0, 0, 0, 0)) := by decide +kernel
theorem f_225_238 : rfI 225 238 = some (.iaload, (0, 0, 0, 0)) := by decide +kernel
theorem f_225_239 : rfI 225 239 = some (.ireturn, (0, 0, 0, 0)) := by decide +kernel
theorem f_226_0 : rfI 226 0 = some (.iconst 0, (0, 0, 0, 0)) := by decide +kernel
theorem f_226_1 : rfI 226 1 = some (.istore_n 3, (0, 0, 0, 0)) := by decide +kernel
theorem f_226_2 : rfI 226 2 = some (.iload_n 3, (0, 0, 0, 0)) := by decide +kernel
theorem f_226_3 : rfI 226 3 = some (.aload_n 0, (0, 0, 0, 0)) := by decide +kernel
theorem f_226_4 : rfI 226 4 = some (.getfield 248, (12, 13, 0, 0)) := by decide +kernel
theorem f_226_7 : rfI 226 7 = some (.if_icmp .ge 82, (0, 0, 0, 0)) := by decide +kernel
theorem f_226_10 : rfI 226 10 = some (.aload_n 0, (0, 0, 0, 0)) := by decide +kernel
theorem f_226_11 : rfI 226 11 = some (.getfield 44, (12, 21, 2, 0)) := by decide +kernel
theorem f_226_14 : rfI 226 14 = some (.iload_n 3, (0, 0, 0, 0)) := by decide +kernel
theorem f_226_15 : rfI 226 15 = some (.iaload, (0, 0, 0, 0)) := by decide +kernel
theorem f_226_16 : rfI 226 16 = some (.iload_n 1, (0, 0, 0, 0)) := by decide +kernel
theorem f_226_17 : rfI 226 17 = some (.if_icmp .ne 66, (0, 0, 0, 0)) := by decide +kernel
theorem f_226_20 : rfI 226 20 = some (.aload_n 0, (0, 0, 0, 0)) := by decide +kernel
theorem f_226_21 : rfI 226 21 = some (.aload_n 0, (0, 0, 0, 0)) := by decide +kernel
theorem f_226_22 : rfI 226 22 = some (.getfield 50, (12, 23, 2, 0)) := by decide +kernel
theorem f_226_25 : rfI 226 25 = some (.iload_n 3, (0, 0, 0, 0)) := by decide +kernel
theorem f_226_26 : rfI 226 26 = some (.iaload, (0, 0, 0, 0)) := by decide +kernel
theorem f_226_27 : rfI 226 27 = some (.aload_n 0, (0, 0, 0, 0)) := by decide +kernel
theorem f_226_28 : rfI 226 28 = some (.getfield 53, (12, 24, 2, 0)) := by decide +kernel
theorem f_226_31 : rfI 226 31 = some (.iload_n 3, (0, 0, 0, 0)) := by decide +kernel
theorem f_226_32 : rfI 226 32 = some (.iaload, (0, 0, 0, 0)) := by decide +kernel
theorem f_226_33 : rfI 226 33 = some (.invokevirtual 255, (225, 3, 11, 0)) := by decide +kernel
theorem f_226_36 : rfI 226 36 = some (.iconst 1, (0, 0, 0, 0)) := by decide +kernel
theorem f_226_37 : rfI 226 37 = some (.if_icmp .eq 6, (0, 0, 0, 0)) := by decide +kernel
theorem f_226_40 : rfI 226 40 = some (.goto 43, (0, 0, 0, 0)) := by decide +kernel
theorem f_226_43 : rfI 226 43 = some (.aload_n 0, (0, 0, 0, 0)) := by decide +kernel
theorem f_226_44 : rfI 226 44 = some (.aload_n 0, (0, 0, 0, 0)) := by decide +kernel
theorem f_226_45 : rfI 226 45 = some (.getfield 47, (12, 22, 2, 0)) := by decide +kernel
theorem f_226_48 : rfI 226 48 = some (.iload_n 3, (0, 0, 0, 0)) := by decide +kernel
theorem f_226_49 : rfI 226 49 = some (.iaload, (0, 0, 0, 0)) := by decide +kernel
theorem f_226_50 : rfI 226 50 = some (.aload_n 0, (0, 0, 0, 0)) := by decide +kernel
theorem f_226_51 : rfI 226 51 = some (.getfield 50, (12, 23, 2, 0)) := by decide +kernel
theorem f_226_54 : rfI 226 54 = some (.iload_n 3, (0, 0, 0, 0)) := by decide +kernel
theorem f_226_55 : rfI 226 55 = some (.iaload, (0, 0, 0, 0)) := by decide +kernel
theorem f_226_56 : rfI 226 56 = some (.invokevirtual 255, (225, 3, 11, 0)) := by decide +kernel
theorem f_226_59 : rfI 226 59 = some (.istore 4, (0, 0, 0, 0)) := by decide +kernel
theorem f_226_61 : rfI 226 61 = some (.iload 4, (0, 0, 0, 0)) := by decide +kernel
theorem f_226_63 : rfI 226 63 = some (.ifCond .ge 7, (0, 0, 0, 0)) := by decide +kernel
theorem f_226_66 : rfI 226 66 = some (.iconst 0, (0, 0, 0, 0)) := by decide +kernel
theorem f_226_67 : rfI 226 67 = some (.goto 15, (0, 0, 0, 0)) := by decide +kernel
theorem f_226_70 : rfI 226 70 = some (.iload 4, (0, 0, 0, 0)) := by decide +kernel
theorem f_226_72 : rfI 226 72 = some (.iload_n 2, (0, 0, 0, 0)) := by decide +kernel
theorem f_226_73 : rfI 226 73 = some (.if_icmp .le 7, (0, 0, 0, 0)) := by decide +kernel
theorem f_226_76 : rfI 226 76 = some (.iload_n 2, (0, 0, 0, 0)) := by decide +kernel
theorem f_226_77 : rfI 226 77 = some (.goto 5, (0, 0, 0, 0)) := by decide +kernel
theorem f_226_80 : rfI 226 80 = some (.iload 4, (0, 0, 0, 0)) := by decide +kernel
theorem f_226_82 : rfI 226 82 = some (.ireturn, (0, 0, 0, 0)) := by decide +kernel
theorem f_226_83 : rfI 226 83 = some (.iinc 3 1, (0, 0, 0, 0)) := by decide +kernel
theorem f_226_86 : rfI 226 86 = some (.goto (-84), (0, 0, 0, 0)) := by decide +kernel
theorem f_226_89 : rfI 226 89 = some (.iconst 0, (0, 0, 0, 0)) := by decide +kernel
theorem f_226_90 : rfI 226 90 = some (.ireturn, (0, 0, 0, 0)) := by decide +kernel
theorem f_227_0 : rfI 227 0 = some (.iconst 0, (0, 0, 0, 0)) := by decide +kernel
theorem f_227_1 : rfI 227 1 = some (.istore_n 2, (0, 0, 0, 0)) := by decide +kernel
theorem f_227_2 : rfI 227 2 = some (.iload_n 2, (0, 0, 0, 0)) := by decide +kernel
theorem f_227_3 : rfI 227 3 = some (.aload_n 0, (0, 0, 0, 0)) := by decide +kernel
theorem f_227_4 : rfI 227 4 = some (.getfield 248, (12, 13, 0, 0)) := by decide +kernel
theorem f_227_7 : rfI 227 7 = some (.if_icmp .ge 41, (0, 0, 0, 0)) := by decide +kernel
theorem f_227_10 : rfI 227 10 = some (.aload_n 0, (0, 0, 0, 0)) := by decide +kernel
theorem f_227_11 : rfI 227 11 = some (.getfield 44, (12, 21, 2, 0)) := by decide +kernel
theorem f_227_14 : rfI 227 14 = some (.iload_n 2, (0, 0, 0, 0)) := by decide +kernel
theorem f_227_15 : rfI 227 15 = some (.iaload, (0, 0, 0, 0)) := by decide +kernel
theorem f_227_16 : rfI 227 16 = some (.iload_n 1, (0, 0, 0, 0)) := by decide +kernel
theorem f_227_17 : rfI 227 17 = some (.if_icmp .ne 25, (0, 0, 0, 0)) := by decide +kernel
theorem f_227_20 : rfI 227 20 = some (.aload_n 0, (0, 0, 0, 0)) := by decide +kernel
theorem f_227_21 : rfI 227 21 = some (.aload_n 0, (0, 0, 0, 0)) := by decide +kernel
theorem f_227_22 : rfI 227 22 = some (.getfield 50, (12, 23, 2, 0)) := by decide +kernel
theorem f_227_25 : rfI 227 25 = some (.iload_n 2, (0, 0, 0, 0)) := by decide +kernel
theorem f_227_26 : rfI 227 26 = some (.iaload, (0, 0, 0, 0)) := by decide +kernel
theorem f_227_27 : rfI 227 27 = some (.aload_n 0, (0, 0, 0, 0)) := by decide +kernel
theorem f_227_28 : rfI 227 28 = some (.getfield 53, (12, 24, 2, 0)) := by decide +kernel
theorem f_227_31 : rfI 227 31 = some (.iload_n 2, (0, 0, 0, 0)) := by decide +kernel
theorem f_227_32 : rfI 227 32 = some (.iaload, (0, 0, 0, 0)) := by decide +kernel
theorem f_227_33 : rfI 227 33 = some (.invokevirtual 255, (225, 3, 11, 0)) := by decide +kernel
theorem f_227_36 : rfI 227 36 = some (.iconst 1, (0, 0, 0, 0)) := by decide +kernel
theorem f_227_37 : rfI 227 37 = some (.if_icmp .ne 5, (0, 0, 0, 0)) := by decide +kernel
theorem f_227_40 : rfI 227 40 = some (.iconst 1, (0, 0, 0, 0)) := by decide +kernel
theorem f_227_41 : rfI 227 41 = some (.ireturn, (0, 0, 0, 0)) := by decide +kernel
theorem f_227_42 : rfI 227 42 = some (.iinc 2 1, (0, 0, 0, 0)) := by decide +kernel
theorem f_227_45 : rfI 227 45 = some (.goto (-43), (0, 0, 0, 0)) := by decide +kernel
theorem f_227_48 : rfI 227 48 = some (.iconst 0, (0, 0, 0, 0)) := by decide +kernel
theorem f_227_49 : rfI 227 49 = some (.ireturn, (0, 0, 0, 0)) := by decide +kernel
theorem f_228_0 : rfI 228 0 = some (.aload_n 0, (0, 0, 0, 0)) := by decide +kernel
theorem f_228_1 : rfI 228 1 = some (.getfield 59, (12, 26, 2, 0)) := by decide +kernel
theorem f_228_4 : rfI 228 4 = some (.iconst 0, (0, 0, 0, 0)) := by decide +kernel
theorem f_228_5 : rfI 228 5 = some (.iload_n 1, (0, 0, 0, 0)) := by decide +kernel
theorem f_228_6 : rfI 228 6 = some (.iastore, (0, 0, 0, 0)) := by decide +kernel
theorem f_228_7 : rfI 228 7 = some (.aload_n 0, (0, 0, 0, 0)) := by decide +kernel
theorem f_228_8 : rfI 228 8 = some (.getfield 59, (12, 26, 2, 0)) := by decide +kernel
theorem f_228_11 : rfI 228 11 = some (.iconst 1, (0, 0, 0, 0)) := by decide +kernel
theorem f_228_12 : rfI 228 12 = some (.aload_n 0, (0, 0, 0, 0)) := by decide +kernel
theorem f_228_13 : rfI 228 13 = some (.getfield 7, (12, 0, 2, 0)) := by decide +kernel
theorem f_228_16 : rfI 228 16 = some (.iconst 0, (0, 0, 0, 0)) := by decide +kernel
theorem f_228_17 : rfI 228 17 = some (.iload_n 1, (0, 0, 0, 0)) := by decide +kernel
theorem f_228_18 : rfI 228 18 = some (.iadd, (0, 0, 0, 0)) := by decide +kernel
theorem f_228_19 : rfI 228 19 = some (.iaload, (0, 0, 0, 0)) := by decide +kernel
theorem f_228_20 : rfI 228 20 = some (.iastore, (0, 0, 0, 0)) := by decide +kernel
theorem f_228_21 : rfI 228 21 = some (.aload_n 0, (0, 0, 0, 0)) := by decide +kernel
theorem f_228_22 : rfI 228 22 = some (.getfield 59, (12, 26, 2, 0)) := by decide +kernel
theorem f_228_25 : rfI 228 25 = some (.iconst 2, (0, 0, 0, 0)) := by decide +kernel
theorem f_228_26 : rfI 228 26 = some (.aload_n 0, (0, 0, 0, 0)) := by decide +kernel
theorem f_228_27 : rfI 228 27 = some (.iload_n 1, (0, 0, 0, 0)) := by decide +kernel
theorem f_228_28 : rfI 228 28 = some (.invokevirtual 135, (192, 2, 11, 0)) := by decide +kernel
theorem f_228_31 : rfI 228 31 = some (.iastore, (0, 0, 0, 0)) := by decide +kernel
theorem f_228_32 : rfI 228 32 = some (.aload_n 0, (0, 0, 0, 0)) := by decide +kernel
theorem f_228_33 : rfI 228 33 = some (.getfield 59, (12, 26, 2, 0)) := by decide +kernel
theorem f_228_36 : rfI 228 36 = some (.iconst 3, (0, 0, 0, 0)) := by decide +kernel
theorem f_228_37 : rfI 228 37 = some (.aload_n 0, (0, 0, 0, 0)) := by decide +kernel
theorem f_228_38 : rfI 228 38 = some (.iload_n 1, (0, 0, 0, 0)) := by decide +kernel
theorem f_228_39 : rfI 228 39 = some (.invokevirtual 139, (193, 2, 11, 0)) := by decide +kernel
theorem f_228_42 : rfI 228 42 = some (.iastore, (0, 0, 0, 0)) := by decide +kernel
theorem f_228_43 : rfI 228 43 = some (.aload_n 0, (0, 0, 0, 0)) := by decide +kernel
theorem f_228_44 : rfI 228 44 = some (.getfield 59, (12, 26, 2, 0)) := by decide +kernel
theorem f_228_47 : rfI 228 47 = some (.iconst 4, (0, 0, 0, 0)) := by decide +kernel
theorem f_228_48 : rfI 228 48 = some (.iconst 0, (0, 0, 0, 0)) := by decide +kernel
theorem f_228_49 : rfI 228 49 = some (.iastore, (0, 0, 0, 0)) := by decide +kernel
theorem f_228_50 : rfI 228 50 = some (.aload_n 0, (0, 0, 0, 0)) := by decide +kernel
theorem f_228_51 : rfI 228 51 = some (.getfield 59, (12, 26, 2, 0)) := by decide +kernel
theorem f_228_54 : rfI 228 54 = some (.iconst 5, (0, 0, 0, 0)) := by decide +kernel
theorem f_228_55 : rfI 228 55 = some (.iconst 0, (0, 0, 0, 0)) := by decide +kernel
theorem f_228_56 : rfI 228 56 = some (.iastore, (0, 0, 0, 0)) := by decide +kernel
theorem f_228_57 : rfI 228 57 = some (.aload_n 0, (0, 0, 0, 0)) := by decide +kernel
theorem f_228_58 : rfI 228 58 = some (.getfield 59, (12, 26, 2, 0)) := by decide +kernel
theorem f_228_61 : rfI 228 61 = some (.bipush 6, (0, 0, 0, 0)) := by decide +kernel
theorem f_228_63 : rfI 228 63 = some (.aload_n 0, (0, 0, 0, 0)) := by decide +kernel
theorem f_228_64 : rfI 228 64 = some (.getfield 7, (12, 0, 2, 0)) := by decide +kernel
theorem f_228_67 : rfI 228 67 = some (.sipush 138, (0, 0, 0, 0)) := by decide +kernel
theorem f_228_70 : rfI 228 70 = some (.iaload, (0, 0, 0, 0)) := by decide +kernel
theorem f_228_71 : rfI 228 71 = some (.bipush 12, (0, 0, 0, 0)) := by decide +kernel
theorem f_228_73 : rfI 228 73 = some (.irem, (0, 0, 0, 0)) := by decide +kernel
theorem f_228_74 : rfI 228 74 = some (.iastore, (0, 0, 0, 0)) := by decide +kernel
theorem f_228_75 : rfI 228 75 = some (.return_, (0, 0, 0, 0)) := by decide +kernel
theorem f_229_0 : rfI 229 0 = some (.aload_n 0, (0, 0, 0, 0)) := by decide +kernel
theorem f_229_1 : rfI 229 1 = some (.invokevirtual 162, (202, 1, 11, 0)) := by decide +kernel
theorem f_229_4 : rfI 229 4 = some (.bipush 97, (0, 0, 0, 0)) := by decide +kernel
theorem f_229_6 : rfI 229 6 = some (.isub, (0, 0, 0, 0)) := by decide +kernel
theorem f_229_7 : rfI 229 7 = some (.istore_n 1, (0, 0, 0, 0)) := by decide +kernel
theorem f_229_8 : rfI 229 8 = some (.iload_n 1, (0, 0, 0, 0)) := by decide +kernel
theorem f_229_9 : rfI 229 9 = some (.iconst 0, (0, 0, 0, 0)) := by decide +kernel
theorem f_229_10 : rfI 229 10 = some (.bipush 7, (0, 0, 0, 0)) := by decide +kernel
theorem f_229_12 : rfI 229 12 = some (.invokestatic 116, (181, 3, 10, 0)) := by decide +kernel
theorem f_229_15 : rfI 229 15 = some (.ifCond .ne 13, (0, 0, 0, 0)) := by decide +kernel
theorem f_229_18 : rfI 229 18 = some (.aload_n 0, (0, 0, 0, 0)) := by decide +kernel
theorem f_229_19 : rfI 229 19 = some (.iconst 1, (0, 0, 0, 0)) := by decide +kernel
theorem f_229_20 : rfI 229 20 = some (.aload_n 0, (0, 0, 0, 0)) := by decide +kernel
theorem f_229_21 : rfI 229 21 = some (.getfield 156, (12, 5, 0, 0)) := by decide +kernel
theorem f_229_24 : rfI 229 24 = some (.invokevirtual 169, (204, 3, 11, 0)) := by decide +kernel
theorem f_229_27 : rfI 229 27 = some (.ireturn, (0, 0, 0, 0)) := by decide +kernel
theorem f_229_28 : rfI 229 28 = some (.aload_n 0, (0, 0, 0, 0)) := by decide +kernel
theorem f_229_29 : rfI 229 29 = some (.iload_n 1, (0, 0, 0, 0)) := by decide +kernel
theorem f_229_30 : rfI 229 30 = some (.putfield 172, (12, 8, 0, 0)) := by decide +kernel
theorem f_229_33 : rfI 229 33 = some (.iconst 1, (0, 0, 0, 0)) := by decide +kernel
theorem f_229_34 : rfI 229 34 = some (.ireturn, (0, 0, 0, 0)) := by decide +kernel
theorem f_230_0 : rfI 230 0 = some (.aload_n 0, (0, 0, 0, 0)) := by decide +kernel
theorem f_230_1 : rfI 230 1 = some (.getfield 156, (12, 5, 0, 0)) := by decide +kernel
theorem f_230_4 : rfI 230 4 = some (.istore_n 1, (0, 0, 0, 0)) := by decide +kernel
theorem f_230_5 : rfI 230 5 = some (.aload_n 0, (0, 0, 0, 0)) := by decide +kernel
theorem f_230_6 : rfI 230 6 = some (.invokevirtual 175, (203, 1, 11, 0)) := by decide +kernel
theorem f_230_9 : rfI 230 9 = some (.ifCond .ne 13, (0, 0, 0, 0)) := by decide +kernel
theorem f_230_12 : rfI 230 12 = some (.aload_n 0, (0, 0, 0, 0)) := by decide +kernel
theorem f_230_13 : rfI 230 13 = some (.iconst 1, (0, 0, 0, 0)) := by decide +kernel
theorem f_230_14 : rfI 230 14 = some (.aload_n 0, (0, 0, 0, 0)) := by decide +kernel
theorem f_230_15 : rfI 230 15 = some (.getfield 156, (12, 5, 0, 0)) := by decide +kernel
theorem f_230_18 : rfI 230 18 = some (.invokevirtual 169, (204, 3, 11, 0)) := by decide +kernel
theorem f_230_21 : rfI 230 21 = some (.ireturn, (0, 0, 0, 0)) := by decide +kernel
theorem f_230_22 : rfI 230 22 = some (.aload_n 0, (0, 0, 0, 0)) := by decide +kernel
theorem f_230_23 : rfI 230 23 = some (.iconst 0, (0, 0, 0, 0)) := by decide +kernel
theorem f_230_24 : rfI 230 24 = some (.putfield 172, (12, 8, 0, 0)) := by decide +kernel
theorem f_230_27 : rfI 230 27 = some (.aload_n 0, (0, 0, 0, 0)) := by decide +kernel
theorem f_230_28 : rfI 230 28 = some (.invokevirtual 175, (203, 1, 11, 0)) := by decide +kernel
theorem f_230_31 : rfI 230 31 = some (.ifCond .eq 55, (0, 0, 0, 0)) := by decide +kernel
theorem f_230_34 : rfI 230 34 = some (.aload_n 0, (0, 0, 0, 0)) := by decide +kernel
theorem f_230_35 : rfI 230 35 = some (.getfield 156, (12, 5, 0, 0)) := by decide +kernel
theorem f_230_38 : rfI 230 38 = some (.iload_n 1, (0, 0, 0, 0)) := by decide +kernel
theorem f_230_39 : rfI 230 39 = some (.iconst 3, (0, 0, 0, 0)) := by decide +kernel
theorem f_230_40 : rfI 230 40 = some (.iadd, (0, 0, 0, 0)) := by decide +kernel
theorem f_230_41 : rfI 230 41 = some (.if_icmp .ne 13, (0, 0, 0, 0)) := by decide +kernel
theorem f_230_44 : rfI 230 44 = some (.aload_n 0, (0, 0, 0, 0)) := by decide +kernel
theorem f_230_45 : rfI 230 45 = some (.iconst 2, (0, 0, 0, 0)) := by decide +kernel
theorem f_230_46 : rfI 230 46 = some (.aload_n 0, (0, 0, 0, 0)) := by decide +kernel
theorem f_230_47 : rfI 230 47 = some (.getfield 156, (12, 5, 0, 0)) := by decide +kernel
theorem f_230_50 : rfI 230 50 = some (.invokevirtual 169, (204, 3, 11, 0)) := by decide +kernel
theorem f_230_53 : rfI 230 53 = some (.ireturn, (0, 0, 0, 0)) := by decide +kernel
theorem f_230_54 : rfI 230 54 = some (.aload_n 0, (0, 0, 0, 0)) := by decide +kernel
theorem f_230_55 : rfI 230 55 = some (.bipush 10, (0, 0, 0, 0)) := by decide +kernel
theorem f_230_57 : rfI 230 57 = some (.aload_n 0, (0, 0, 0, 0)) := by decide +kernel
theorem f_230_58 : rfI 230 58 = some (.getfield 172, (12, 8, 0, 0)) := by decide +kernel
theorem f_230_61 : rfI 230 61 = some (.imul, (0, 0, 0, 0)) := by decide +kernel
theorem f_230_62 : rfI 230 62 = some (.aload_n 0, (0, 0, 0, 0)) := by decide +kernel
theorem f_230_63 : rfI 230 63 = some (.invokevirtual 162, (202, 1, 11, 0)) := by decide +kernel
theorem f_230_66 : rfI 230 66 = some (.iadd, (0, 0, 0, 0)) := by decide +kernel
theorem f_230_67 : rfI 230 67 = some (.bipush 48, (0, 0, 0, 0)) := by decide +kernel
theorem f_230_69 : rfI 230 69 = some (.isub, (0, 0, 0, 0)) := by decide +kernel
theorem f_230_70 : rfI 230 70 = some (.putfield 172, (12, 8, 0, 0)) := by decide +kernel
theorem f_230_73 : rfI 230 73 = some (.aload_n 0, (0, 0, 0, 0)) := by decide +kernel
theorem f_230_74 : rfI 230 74 = some (.aload_n 0, (0, 0, 0, 0)) := by decide +kernel
theorem f_230_75 : rfI 230 75 = some (.getfield 156, (12, 5, 0, 0)) := by decide +kernel
theorem f_230_78 : rfI 230 78 = some (.iconst 1, (0, 0, 0, 0)) := by decide +kernel
theorem f_230_79 : rfI 230 79 = some (.iadd, (0, 0, 0, 0)) := by decide +kernel
theorem f_230_80 : rfI 230 80 = some (.putfield 156, (12, 5, 0, 0)) := by decide +kernel
theorem f_230_83 : rfI 230 83 = some (.goto (-56), (0, 0, 0, 0)) := by decide +kernel
theorem f_230_86 : rfI 230 86 = some (.iconst 1, (0, 0, 0, 0)) := by decide +kernel
theorem f_230_87 : rfI 230 87 = some (.ireturn, (0, 0, 0, 0)) := by decide +kernel
theorem f_231_0 : rfI 231 0 = some (.aload_n 0, (0, 0, 0, 0)) := by decide +kernel
theorem f_231_1 : rfI 231 1 = some (.getfield 62, (12, 27, 2, 0)) := by decide +kernel
theorem f_231_4 : rfI 231 4 = some (.iload_n 1, (0, 0, 0, 0)) := by decide +kernel
theorem f_231_5 : rfI 231 5 = some (.aload_n 0, (0, 0, 0, 0)) := by decide +kernel
theorem f_231_6 : rfI 231 6 = some (.getfield 62, (12, 27, 2, 0)) := by decide +kernel
theorem f_231_9 : rfI 231 9 = some (.iload_n 1, (0, 0, 0, 0)) := by decide +kernel
theorem f_231_10 : rfI 231 10 = some (.iaload, (0, 0, 0, 0)) := by decide +kernel
theorem f_231_11 : rfI 231 11 = some (.iload_n 2, (0, 0, 0, 0)) := by decide +kernel
theorem f_231_12 : rfI 231 12 = some (.iadd, (0, 0, 0, 0)) := by decide +kernel
theorem f_231_13 : rfI 231 13 = some (.iastore, (0, 0, 0, 0)) := by decide +kernel
theorem f_231_14 : rfI 231 14 = some (.aload_n 0, (0, 0, 0, 0)) := by decide +kernel
theorem f_231_15 : rfI 231 15 = some (.getfield 62, (12, 27, 2, 0)) := by decide +kernel
theorem f_231_18 : rfI 231 18 = some (.iload_n 1, (0, 0, 0, 0)) := by decide +kernel
theorem f_231_19 : rfI 231 19 = some (.iaload, (0, 0, 0, 0)) := by decide +kernel
theorem f_231_20 : rfI 231 20 = some (.iconst 0, (0, 0, 0, 0)) := by decide +kernel
theorem f_231_21 : rfI 231 21 = some (.iload_n 3, (0, 0, 0, 0)) := by decide +kernel
theorem f_231_22 : rfI 231 22 = some (.invokestatic 116, (181, 3, 10, 0)) := by decide +kernel
theorem f_231_25 : rfI 231 25 = some (.ireturn, (0, 0, 0, 0)) := by decide +kernel
theorem f_232_0 : rfI 232 0 = some (.aload_n 0, (0, 0, 0, 0)) := by decide +kernel
theorem f_232_1 : rfI 232 1 = some (.getfield 156, (12, 5, 0, 0)) := by decide +kernel
theorem f_232_4 : rfI 232 4 = some (.istore_n 1, (0, 0, 0, 0)) := by decide +kernel
theorem f_232_5 : rfI 232 5 = some (.aload_n 0, (0, 0, 0, 0)) := by decide +kernel
theorem f_232_6 : rfI 232 6 = some (.invokevirtual 258, (229, 1, 11, 0)) := by decide +kernel
theorem f_232_9 : rfI 232 9 = some (.ifCond .ne 5, (0, 0, 0, 0)) := by decide +kernel
theorem f_232_12 : rfI 232 12 = some (.iconst 0, (0, 0, 0, 0)) := by decide +kernel
theorem f_232_13 : rfI 232 13 = some (.ireturn, (0, 0, 0, 0)) := by decide +kernel
theorem f_232_14 : rfI 232 14 = some (.aload_n 0, (0, 0, 0, 0)) := by decide +kernel
theorem f_232_15 : rfI 232 15 = some (.getfield 261, (12, 28, 0, 0)) := by decide +kernel
theorem f_232_18 : rfI 232 18 = some (.bipush 20, (0, 0, 0, 0)) := by decide +kernel
theorem f_232_20 : rfI 232 20 = some (.if_icmp .ne 13, (0, 0, 0, 0)) := by decide +kernel
theorem f_232_23 : rfI 232 23 = some (.aload_n 0, (0, 0, 0, 0)) := by decide +kernel
theorem f_232_24 : rfI 232 24 = some (.iconst 4, (0, 0, 0, 0)) := by decide +kernel
theorem f_232_25 : rfI 232 25 = some (.aload_n 0, (0, 0, 0, 0)) := by decide +kernel
theorem f_232_26 : rfI 232 26 = some (.getfield 156, (12, 5, 0, 0)) := by decide +kernel
theorem f_232_29 : rfI 232 29 = some (.invokevirtual 169, (204, 3, 11, 0)) := by decide +kernel
theorem f_232_32 : rfI 232 32 = some (.ireturn, (0, 0, 0, 0)) := by decide +kernel
theorem f_232_33 : rfI 232 33 = some (.aload_n 0, (0, 0, 0, 0)) := by decide +kernel
theorem f_232_34 : rfI 232 34 = some (.getfield 172, (12, 8, 0, 0)) := by decide +kernel
theorem f_232_37 : rfI 232 37 = some (.istore_n 2, (0, 0, 0, 0)) := by decide +kernel
theorem f_232_38 : rfI 232 38 = some (.aload_n 0, (0, 0, 0, 0)) := by decide +kernel
theorem f_232_39 : rfI 232 39 = some (.iload_n 2, (0, 0, 0, 0)) := by decide +kernel
theorem f_232_40 : rfI 232 40 = some (.invokevirtual 128, (188, 2, 11, 0)) := by decide +kernel
theorem f_232_43 : rfI 232 43 = some (.ifCond .ne 14, (0, 0, 0, 0)) := by decide +kernel
theorem f_232_46 : rfI 232 46 = some (.aload_n 0, (0, 0, 0, 0)) := by decide +kernel
theorem f_232_47 : rfI 232 47 = some (.bipush 7, (0, 0, 0, 0)) := by decide +kernel
theorem f_232_49 : rfI 232 49 = some (.aload_n 0, (0, 0, 0, 0)) := by decide +kernel
theorem f_232_50 : rfI 232 50 = some (.getfield 156, (12, 5, 0, 0)) := by decide +kernel
theorem f_232_53 : rfI 232 53 = some (.invokevirtual 169, (204, 3, 11, 0)) := by decide +kernel
theorem f_232_56 : rfI 232 56 = some (.ireturn, (0, 0, 0, 0)) := by decide +kernel
theorem f_232_57 : rfI 232 57 = some (.aload_n 0, (0, 0, 0, 0)) := by decide +kernel
theorem f_232_58 : rfI 232 58 = some (.aload_n 0, (0, 0, 0, 0)) := by decide +kernel
theorem f_232_59 : rfI 232 59 = some (.getfield 156, (12, 5, 0, 0)) := by decide +kernel
theorem f_232_62 : rfI 232 62 = some (.iconst 1, (0, 0, 0, 0)) := by decide +kernel
theorem f_232_63 : rfI 232 63 = some (.iadd, (0, 0, 0, 0)) := by decide +kernel
theorem f_232_64 : rfI 232 64 = some (.putfield 156, (12, 5, 0, 0)) := by decide +kernel
theorem f_232_67 : rfI 232 67 = some (.aload_n 0, (0, 0, 0, 0)) := by decide +kernel
theorem f_232_68 : rfI 232 68 = some (.invokevirtual 162, (202, 1, 11, 0)) := by decide +kernel
theorem f_232_71 : rfI 232 71 = some (.istore_n 3, (0, 0, 0, 0)) := by decide +kernel
theorem f_232_72 : rfI 232 72 = some (.iload_n 3, (0, 0, 0, 0)) := by decide +kernel
theorem f_232_73 : rfI 232 73 = some (.bipush 62, (0, 0, 0, 0)) := by decide +kernel
theorem f_232_75 : rfI 232 75 = some (.if_icmp .eq 31, (0, 0, 0, 0)) := by decide +kernel
theorem f_232_78 : rfI 232 78 = some (.iload_n 3, (0, 0, 0, 0)) := by decide +kernel
theorem f_232_79 : rfI 232 79 = some (.bipush 43, (0, 0, 0, 0)) := by decide +kernel
theorem f_232_81 : rfI 232 81 = some (.if_icmp .eq 25, (0, 0, 0, 0)) := by decide +kernel
theorem f_232_84 : rfI 232 84 = some (.iload_n 3, (0, 0, 0, 0)) := by decide +kernel
theorem f_232_85 : rfI 232 85 = some (.bipush 45, (0, 0, 0, 0)) := by decide +kernel
theorem f_232_87 : rfI 232 87 = some (.if_icmp .eq 19, (0, 0, 0, 0)) := by decide +kernel
theorem f_232_90 : rfI 232 90 = some (.iload_n 3, (0, 0, 0, 0)) := by decide +kernel
theorem f_232_91 : rfI 232 91 = some (.bipush 33, (0, 0, 0, 0)) := by decide +kernel
theorem f_232_93 : rfI 232 93 = some (.if_icmp .eq 13, (0, 0, 0, 0)) := by decide +kernel
theorem f_232_96 : rfI 232 96 = some (.aload_n 0, (0, 0, 0, 0)) := by decide +kernel
theorem f_232_97 : rfI 232 97 = some (.iconst 1, (0, 0, 0, 0)) := by decide +kernel
theorem f_232_98 : rfI 232 98 = some (.aload_n 0, (0, 0, 0, 0)) := by decide +kernel
theorem f_232_99 : rfI 232 99 = some (.getfield 156, (12, 5, 0, 0)) := by decide +kernel
theorem f_232_102 : rfI 232 102 = some (.invokevirtual 169, (204, 3, 11, 0)) := by decide +kernel
theorem f_232_105 : rfI 232 105 = some (.ireturn, (0, 0, 0, 0)) := by decide +kernel
theorem f_232_106 : rfI 232 106 = some (.aload_n 0, (0, 0, 0, 0)) := by decide +kernel
theorem f_232_107 : rfI 232 107 = some (.aload_n 0, (0, 0, 0, 0)) := by decide +kernel
theorem f_232_108 : rfI 232 108 = some (.getfield 156, (12, 5, 0, 0)) := by decide +kernel
theorem f_232_111 : rfI 232 111 = some (.iconst 1, (0, 0, 0, 0)) := by decide +kernel
theorem f_232_112 : rfI 232 112 = some (.iadd, (0, 0, 0, 0)) := by decide +kernel
theorem f_232_113 : rfI 232 113 = some (.putfield 156, (12, 5, 0, 0)) := by decide +kernel
theorem f_232_116 : rfI 232 116 = some (.iload_n 2, (0, 0, 0, 0)) := by decide +kernel
theorem f_232_117 : rfI 232 117 = some (.istore 4, (0, 0, 0, 0)) := by decide +kernel
theorem f_232_119 : rfI 232 119 = some (.iload_n 3, (0, 0, 0, 0)) := by decide +kernel
theorem f_232_120 : rfI 232 120 = some (.bipush 62, (0, 0, 0, 0)) := by decide +kernel
theorem f_232_122 : rfI 232 122 = some (.if_icmp .eq 9, (0, 0, 0, 0)) := by decide +kernel
theorem f_232_125 : rfI 232 125 = some (.iload_n 3, (0, 0, 0, 0)) := by decide +kernel
theorem f_232_126 : rfI 232 126 = some (.bipush 33, (0, 0, 0, 0)) := by decide +kernel
theorem f_232_128 : rfI 232 128 = some (.if_icmp .ne 76, (0, 0, 0, 0)) := by decide +kernel
theorem f_232_131 : rfI 232 131 = some (.aload_n 0, (0, 0, 0, 0)) := by decide +kernel
theorem f_232_132 : rfI 232 132 = some (.invokevirtual 258, (229, 1, 11, 0)) := by decide +kernel
theorem f_232_135 : rfI 232 135 = some (.ifCond .ne 5, (0, 0, 0, 0)) := by decide +kernel
theorem f_232_138 : rfI 232 138 = some (.iconst 0, (0, 0, 0, 0)) := by decide +kernel
theorem f_232_139 : rfI 232 139 = some (.ireturn, (0, 0, 0, 0)) := by decide +kernel
theorem f_232_140 : rfI 232 140 = some (.aload_n 0, (0, 0, 0, 0)) := by decide +kernel
theorem f_232_141 : rfI 232 141 = some (.getfield 172, (12, 8, 0, 0)) := by decide +kernel
theorem f_232_144 : rfI 232 144 = some (.istore 4, (0, 0, 0, 0)) := by decide +kernel
theorem f_232_146 : rfI 232 146 = some (.aload_n 0, (0, 0, 0, 0)) := by decide +kernel
theorem f_232_147 : rfI 232 147 = some (.iload 4, (0, 0, 0, 0)) := by decide +kernel
theorem f_232_149 : rfI 232 149 = some (.invokevirtual 128, (188, 2, 11, 0)) := by decide +kernel
theorem f_232_152 : rfI 232 152 = some (.ifCond .ne 14, (0, 0, 0, 0)) := by decide +kernel
theorem f_232_155 : rfI 232 155 = some (.aload_n 0, (0, 0, 0, 0)) := by decide +kernel
theorem f_232_156 : rfI 232 156 = some (.bipush 7, (0, 0, 0, 0)) := by decide +kernel
theorem f_232_158 : rfI 232 158 = some (.aload_n 0, (0, 0, 0, 0)) := by decide +kernel
theorem f_232_159 : rfI 232 159 = some (.getfield 156, (12, 5, 0, 0)) := by decide +kernel
theorem f_232_162 : rfI 232 162 = some (.invokevirtual 169, (204, 3, 11, 0)) := by decide +kernel
theorem f_232_165 : rfI 232 165 = some (.ireturn, (0, 0, 0, 0)) := by decide +kernel
theorem f_232_166 : rfI 232 166 = some (.iload 4, (0, 0, 0, 0)) := by decide +kernel
theorem f_232_168 : rfI 232 168 = some (.iload_n 2, (0, 0, 0, 0)) := by decide +kernel
theorem f_232_169 : rfI 232 169 = some (.if_icmp .ne 14, (0, 0, 0, 0)) := by decide +kernel
theorem f_232_172 : rfI 232 172 = some (.aload_n 0, (0, 0, 0, 0)) := by decide +kernel
theorem f_232_173 : rfI 232 173 = some (.bipush 6, (0, 0, 0, 0)) := by decide +kernel
theorem f_232_175 : rfI 232 175 = some (.aload_n 0, (0, 0, 0, 0)) := by decide +kernel
theorem f_232_176 : rfI 232 176 = some (.getfield 156, (12, 5, 0, 0)) := by decide +kernel
theorem f_232_179 : rfI 232 179 = some (.invokevirtual 169, (204, 3, 11, 0)) := by decide +kernel
theorem f_232_182 : rfI 232 182 = some (.ireturn, (0, 0, 0, 0)) := by decide +kernel
theorem f_232_183 : rfI 232 183 = some (.aload_n 0, (0, 0, 0, 0)) := by decide +kernel
theorem f_232_184 : rfI 232 184 = some (.aload_n 0, (0, 0, 0, 0)) := by decide +kernel
theorem f_232_185 : rfI 232 185 = some (.getfield 156, (12, 5, 0, 0)) := by decide +kernel
theorem f_232_188 : rfI 232 188 = some (.iconst 1, (0, 0, 0, 0)) := by decide +kernel
theorem f_232_189 : rfI 232 189 = some (.iadd, (0, 0, 0, 0)) := by decide +kernel
theorem f_232_190 : rfI 232 190 = some (.putfield 156, (12, 5, 0, 0)) := by decide +kernel
theorem f_232_193 : rfI 232 193 = some (.aload_n 0, (0, 0, 0, 0)) := by decide +kernel
theorem f_232_194 : rfI 232 194 = some (.bipush 58, (0, 0, 0, 0)) := by decide +kernel
theorem f_232_196 : rfI 232 196 = some (.invokevirtual 245, (205, 2, 11, 0)) := by decide +kernel
theorem f_232_199 : rfI 232 199 = some (.ifCond .ne 5, (0, 0, 0, 0)) := by decide +kernel
theorem f_232_202 : rfI 232 202 = some (.iconst 0, (0, 0, 0, 0)) := by decide +kernel
theorem f_232_203 : rfI 232 203 = some (.ireturn, (0, 0, 0, 0)) := by decide +kernel
theorem f_232_204 : rfI 232 204 = some (.aload_n 0, (0, 0, 0, 0)) := by decide +kernel
theorem f_232_205 : rfI 232 205 = some (.invokevirtual 264, (230, 1, 11, 0)) := by decide +kernel
theorem f_232_208 : rfI 232 208 = some (.ifCond .ne 5, (0, 0, 0, 0)) := by decide +kernel
theorem f_232_211 : rfI 232 211 = some (.iconst 0, (0, 0, 0, 0)) := by decide +kernel
theorem f_232_212 : rfI 232 212 = some (.ireturn, (0, 0, 0, 0)) := by decide +kernel
theorem f_232_213 : rfI 232 213 = some (.aload_n 0, (0, 0, 0, 0)) := by decide +kernel
theorem f_232_214 : rfI 232 214 = some (.aload_n 0, (0, 0, 0, 0)) := by decide +kernel
theorem f_232_215 : rfI 232 215 = some (.getfield 261, (12, 28, 0, 0)) := by decide +kernel
theorem f_232_218 : rfI 232 218 = some (.iconst 1, (0, 0, 0, 0)) := by decide +kernel
theorem f_232_219 : rfI 232 219 = some (.iadd, (0, 0, 0, 0)) := by decide +kernel
theorem f_232_220 : rfI 232 220 = some (.putfield 261, (12, 28, 0, 0)) := by decide +kernel
theorem f_232_223 : rfI 232 223 = some (.iload_n 3, (0, 0, 0, 0)) := by decide +kernel
theorem f_232_224 : rfI 232 224 = some (.bipush 33, (0, 0, 0, 0)) := by decide +kernel
theorem f_232_226 : rfI 232 226 = some (.if_icmp .ne 25, (0, 0, 0, 0)) := by decide +kernel
theorem f_232_229 : rfI 232 229 = some (.aload_n 0, (0, 0, 0, 0)) := by decide +kernel
theorem f_232_230 : rfI 232 230 = some (.iload_n 2, (0, 0, 0, 0)) := by decide +kernel
theorem f_232_231 : rfI 232 231 = some (.iload 4, (0, 0, 0, 0)) := by decide +kernel
theorem f_232_233 : rfI 232 233 = some (.invokestatic 131, (190, 2, 10, 0)) := by decide +kernel
theorem f_232_236 : rfI 232 236 = some (.aload_n 0, (0, 0, 0, 0)) := by decide +kernel
theorem f_232_237 : rfI 232 237 = some (.getfield 172, (12, 8, 0, 0)) := by decide +kernel
theorem f_232_240 : rfI 232 240 = some (.sipush 999, (0, 0, 0, 0)) := by decide +kernel
theorem f_232_243 : rfI 232 243 = some (.invokevirtual 267, (231, 4, 11, 0)) := by decide +kernel
theorem f_232_246 : rfI 232 246 = some (.istore 5, (0, 0, 0, 0)) := by decide +kernel
theorem f_232_248 : rfI 232 248 = some (.goto 85, (0, 0, 0, 0)) := by decide +kernel
theorem f_232_251 : rfI 232 251 = some (.iload_n 3, (0, 0, 0, 0)) := by decide +kernel
theorem f_232_252 : rfI 232 252 = some (.bipush 62, (0, 0, 0, 0)) := by decide +kernel
theorem f_232_254 : rfI 232 254 = some (.if_icmp .ne 49, (0, 0, 0, 0)) := by decide +kernel
theorem f_232_257 : rfI 232 257 = some (.aload_n 0, (0, 0, 0, 0)) := by decide +kernel
theorem f_232_258 : rfI 232 258 = some (.iconst 0, (0, 0, 0, 0)) := by decide +kernel
theorem f_232_259 : rfI 232 259 = some (.iload_n 2, (0, 0, 0, 0)) := by decide +kernel
theorem f_232_260 : rfI 232 260 = some (.iadd, (0, 0, 0, 0)) := by decide +kernel
theorem f_232_261 : rfI 232 261 = some (.aload_n 0, (0, 0, 0, 0)) := by decide +kernel
theorem f_232_262 : rfI 232 262 = some (.getfield 172, (12, 8, 0, 0)) := by decide +kernel
theorem f_232_265 : rfI 232 265 = some (.ineg, (0, 0, 0, 0)) := by decide +kernel
theorem f_232_266 : rfI 232 266 = some (.sipush 9999, (0, 0, 0, 0)) := by decide +kernel
theorem f_232_269 : rfI 232 269 = some (.invokevirtual 267, (231, 4, 11, 0)) := by decide +kernel
theorem f_232_272 : rfI 232 272 = some (.ifCond .eq 25, (0, 0, 0, 0)) := by decide +kernel
theorem f_232_275 : rfI 232 275 = some (.aload_n 0, (0, 0, 0, 0)) := by decide +kernel
theorem f_232_276 : rfI 232 276 = some (.iconst 0, (0, 0, 0, 0)) := by decide +kernel
theorem f_232_277 : rfI 232 277 = some (.iload 4, (0, 0, 0, 0)) := by decide +kernel
theorem f_232_279 : rfI 232 279 = some (.iadd, (0, 0, 0, 0)) := by decide +kernel
theorem f_232_280 : rfI 232 280 = some (.aload_n 0, (0, 0, 0, 0)) := by decide +kernel
theorem f_232_281 : rfI 232 281 = some (.getfield 172, (12, 8, 0, 0)) := by decide +kernel
theorem f_232_284 : rfI 232 284 = some (.sipush 9999, (0, 0, 0, 0)) := by decide +kernel
theorem f_232_287 : rfI 232 287 = some (.invokevirtual 267, (231, 4, 11, 0)) := by decide +kernel
theorem f_232_290 : rfI 232 290 = some (.ifCond .eq 7, (0, 0, 0, 0)) := by decide +kernel
theorem f_232_293 : rfI 232 293 = some (.iconst 1, (0, 0, 0, 0)) := by decide +kernel
theorem f_232_294 : rfI 232 294 = some (.goto 4, (0, 0, 0, 0)) := by decide +kernel
theorem f_232_297 : rfI 232 297 = some (.iconst 0, (0, 0, 0, 0)) := by decide +kernel
theorem f_232_298 : rfI 232 298 = some (.istore 5, (0, 0, 0, 0)) := by decide +kernel
theorem f_232_300 : rfI 232 300 = some (.goto 33, (0, 0, 0, 0)) := by decide +kernel
theorem f_232_303 : rfI 232 303 = some (.aload_n 0, (0, 0, 0, 0)) := by decide +kernel
theorem f_232_304 : rfI 232 304 = some (.iconst 0, (0, 0, 0, 0)) := by decide +kernel
theorem f_232_305 : rfI 232 305 = some (.iload_n 2, (0, 0, 0, 0)) := by decide +kernel
theorem f_232_306 : rfI 232 306 = some (.iadd, (0, 0, 0, 0)) := by decide +kernel
theorem f_232_307 : rfI 232 307 = some (.iload_n 3, (0, 0, 0, 0)) := by decide +kernel
theorem f_232_308 : rfI 232 308 = some (.bipush 43, (0, 0, 0, 0)) := by decide +kernel
theorem f_232_310 : rfI 232 310 = some (.if_icmp .ne 10, (0, 0, 0, 0)) := by decide +kernel
theorem f_232_313 : rfI 232 313 = some (.aload_n 0, (0, 0, 0, 0)) := by decide +kernel
theorem f_232_314 : rfI 232 314 = some (.getfield 172, (12, 8, 0, 0)) := by decide +kernel
theorem f_232_317 : rfI 232 317 = some (.goto 8, (0, 0, 0, 0)) := by decide +kernel
theorem f_232_320 : rfI 232 320 = some (.aload_n 0, (0, 0, 0, 0)) := by decide +kernel
theorem f_232_321 : rfI 232 321 = some (.getfield 172, (12, 8, 0, 0)) := by decide +kernel
theorem f_232_324 : rfI 232 324 = some (.ineg, (0, 0, 0, 0)) := by decide +kernel
theorem f_232_325 : rfI 232 325 = some (.sipush 9999, (0, 0, 0, 0)) := by decide +kernel
theorem f_232_328 : rfI 232 328 = some (.invokevirtual 267, (231, 4, 11, 0)) := by decide +kernel
theorem f_232_331 : rfI 232 331 = some (.istore 5, (0, 0, 0, 0)) := by decide +kernel
theorem f_232_333 : rfI 232 333 = some (.iload 5, (0, 0, 0, 0)) := by decide +kernel
theorem f_232_335 : rfI 232 335 = some (.ifCond .ne 13, (0, 0, 0, 0)) := by decide +kernel
theorem f_232_338 : rfI 232 338 = some (.aload_n 0, (0, 0, 0, 0)) := by decide +kernel
theorem f_232_339 : rfI 232 339 = some (.bipush 9, (0, 0, 0, 0)) := by decide +kernel
theorem f_232_341 : rfI 232 341 = some (.iload_n 1, (0, 0, 0, 0)) := by decide +kernel
theorem f_232_342 : rfI 232 342 = some (.invokevirtual 169, (204, 3, 11, 0)) := by decide +kernel
theorem f_232_345 : rfI 232 345 = some (.ifCond .eq 7, (0, 0, 0, 0)) := by decide +kernel
theorem f_232_348 : rfI 232 348 = some (.iconst 1, (0, 0, 0, 0)) := by decide +kernel
theorem f_232_349 : rfI 232 349 = some (.goto 4, (0, 0, 0, 0)) := by decide +kernel
theorem f_232_352 : rfI 232 352 = some (.iconst 0, (0, 0, 0, 0)) := by decide +kernel
theorem f_232_353 : rfI 232 353 = some (.ireturn, (0, 0, 0, 0)) := by decide +kernel
theorem f_233_0 : rfI 233 0 = some (.iload_n 1, (0, 0, 0, 0)) := by decide +kernel
theorem f_233_1 : rfI 233 1 = some (.iconst 1, (0, 0, 0, 0)) := by decide +kernel
theorem f_233_2 : rfI 233 2 = some (.bipush 120, (0, 0, 0, 0)) := by decide +kernel
theorem f_233_4 : rfI 233 4 = some (.invokestatic 116, (181, 3, 10, 0)) := by decide +kernel
theorem f_233_7 : rfI 233 7 = some (.ifCond .eq 11, (0, 0, 0, 0)) := by decide +kernel
theorem f_233_10 : rfI 233 10 = some (.iload_n 1, (0, 0, 0, 0)) := by decide +kernel
theorem f_233_11 : rfI 233 11 = some (.aload_n 0, (0, 0, 0, 0)) := by decide +kernel
theorem f_233_12 : rfI 233 12 = some (.getfield 148, (12, 4, 0, 0)) := by decide +kernel
theorem f_233_15 : rfI 233 15 = some (.if_icmp .le 5, (0, 0, 0, 0)) := by decide +kernel
theorem f_233_18 : rfI 233 18 = some (.iconst (-1), (0, 0, 0, 0)) := by decide +kernel
theorem f_233_19 : rfI 233 19 = some (.ireturn, (0, 0, 0, 0)) := by decide +kernel
theorem f_233_20 : rfI 233 20 = some (.aload_n 0, (0, 0, 0, 0)) := by decide +kernel
theorem f_233_21 : rfI 233 21 = some (.iload_n 1, (0, 0, 0, 0)) := by decide +kernel
theorem f_233_22 : rfI 233 22 = some (.invokevirtual 239, (222, 2, 11, 0)) := by decide +kernel
theorem f_233_25 : rfI 233 25 = some (.aload_n 0, (0, 0, 0, 0)) := by decide +kernel
theorem f_233_26 : rfI 233 26 = some (.iconst 0, (0, 0, 0, 0)) := by decide +kernel
theorem f_233_27 : rfI 233 27 = some (.putfield 261, (12, 28, 0, 0)) := by decide +kernel
theorem f_233_30 : rfI 233 30 = some (.aload_n 0, (0, 0, 0, 0)) := by decide +kernel
theorem f_233_31 : rfI 233 31 = some (.getfield 7, (12, 0, 2, 0)) := by decide +kernel
theorem f_233_34 : rfI 233 34 = some (.aload_n 0, (0, 0, 0, 0)) := by decide +kernel
theorem f_233_35 : rfI 233 35 = some (.getfield 62, (12, 27, 2, 0)) := by decide +kernel
theorem f_233_38 : rfI 233 38 = some (.invokestatic 270, (186, 2, 10, 0)) := by decide +kernel
theorem f_233_41 : rfI 233 41 = some (.aload_n 0, (0, 0, 0, 0)) := by decide +kernel
theorem f_233_42 : rfI 233 42 = some (.invokevirtual 274, (232, 1, 11, 0)) := by decide +kernel
theorem f_233_45 : rfI 233 45 = some (.istore_n 2, (0, 0, 0, 0)) := by decide +kernel
theorem f_233_46 : rfI 233 46 = some (.iload_n 2, (0, 0, 0, 0)) := by decide +kernel
theorem f_233_47 : rfI 233 47 = some (.ifCond .eq 39, (0, 0, 0, 0)) := by decide +kernel
theorem f_233_50 : rfI 233 50 = some (.aload_n 0, (0, 0, 0, 0)) := by decide +kernel
theorem f_233_51 : rfI 233 51 = some (.getfield 156, (12, 5, 0, 0)) := by decide +kernel
theorem f_233_54 : rfI 233 54 = some (.aload_n 0, (0, 0, 0, 0)) := by decide +kernel
theorem f_233_55 : rfI 233 55 = some (.getfield 159, (12, 6, 0, 0)) := by decide +kernel
theorem f_233_58 : rfI 233 58 = some (.if_icmp .ge 28, (0, 0, 0, 0)) := by decide +kernel
theorem f_233_61 : rfI 233 61 = some (.aload_n 0, (0, 0, 0, 0)) := by decide +kernel
theorem f_233_62 : rfI 233 62 = some (.bipush 59, (0, 0, 0, 0)) := by decide +kernel
theorem f_233_64 : rfI 233 64 = some (.invokevirtual 245, (205, 2, 11, 0)) := by decide +kernel
theorem f_233_67 : rfI 233 67 = some (.ifCond .eq 14, (0, 0, 0, 0)) := by decide +kernel
theorem f_233_70 : rfI 233 70 = some (.aload_n 0, (0, 0, 0, 0)) := by decide +kernel
theorem f_233_71 : rfI 233 71 = some (.invokevirtual 274, (232, 1, 11, 0)) := by decide +kernel
theorem f_233_74 : rfI 233 74 = some (.ifCond .eq 7, (0, 0, 0, 0)) := by decide +kernel
theorem f_233_77 : rfI 233 77 = some (.iconst 1, (0, 0, 0, 0)) := by decide +kernel
theorem f_233_78 : rfI 233 78 = some (.goto 4, (0, 0, 0, 0)) := by decide +kernel
theorem f_233_81 : rfI 233 81 = some (.iconst 0, (0, 0, 0, 0)) := by decide +kernel
theorem f_233_82 : rfI 233 82 = some (.istore_n 2, (0, 0, 0, 0)) := by decide +kernel
theorem f_233_83 : rfI 233 83 = some (.goto (-37), (0, 0, 0, 0)) := by decide +kernel
theorem f_233_86 : rfI 233 86 = some (.aload_n 0, (0, 0, 0, 0)) := by decide +kernel
theorem f_233_87 : rfI 233 87 = some (.iconst 0, (0, 0, 0, 0)) := by decide +kernel
theorem f_233_88 : rfI 233 88 = some (.putfield 148, (12, 4, 0, 0)) := by decide +kernel
theorem f_233_91 : rfI 233 91 = some (.iload_n 2, (0, 0, 0, 0)) := by decide +kernel
theorem f_233_92 : rfI 233 92 = some (.ifCond .ne 8, (0, 0, 0, 0)) := by decide +kernel
theorem f_233_95 : rfI 233 95 = some (.aload_n 0, (0, 0, 0, 0)) := by decide +kernel
theorem f_233_96 : rfI 233 96 = some (.getfield 166, (12, 7, 0, 0)) := by decide +kernel
theorem f_233_99 : rfI 233 99 = some (.ireturn, (0, 0, 0, 0)) := by decide +kernel
theorem f_233_100 : rfI 233 100 = some (.aload_n 0, (0, 0, 0, 0)) := by decide +kernel
theorem f_233_101 : rfI 233 101 = some (.getfield 62, (12, 27, 2, 0)) := by decide +kernel
theorem f_233_104 : rfI 233 104 = some (.aload_n 0, (0, 0, 0, 0)) := by decide +kernel
theorem f_233_105 : rfI 233 105 = some (.getfield 7, (12, 0, 2, 0)) := by decide +kernel
theorem f_233_108 : rfI 233 108 = some (.invokestatic 270, (186, 2, 10, 0)) := by decide +kernel
theorem f_233_111 : rfI 233 111 = some (.aload_n 0, (0, 0, 0, 0)) := by decide +kernel
theorem f_233_112 : rfI 233 112 = some (.getfield 261, (12, 28, 0, 0)) := by decide +kernel
theorem f_233_115 : rfI 233 115 = some (.ireturn, (0, 0, 0, 0)) := by decide +kernel
theorem f_234_0 : rfI 234 0 = some (.aload_n 0, (0, 0, 0, 0)) := by decide +kernel
theorem f_234_1 : rfI 234 1 = some (.getfield 7, (12, 0, 2, 0)) := by decide +kernel
theorem f_234_4 : rfI 234 4 = some (.iconst 0, (0, 0, 0, 0)) := by decide +kernel
theorem f_234_5 : rfI 234 5 = some (.iload_n 1, (0, 0, 0, 0)) := by decide +kernel
theorem f_234_6 : rfI 234 6 = some (.iadd, (0, 0, 0, 0)) := by decide +kernel
theorem f_234_7 : rfI 234 7 = some (.iconst 0, (0, 0, 0, 0)) := by decide +kernel
theorem f_234_8 : rfI 234 8 = some (.iastore, (0, 0, 0, 0)) := by decide +kernel
theorem f_234_9 : rfI 234 9 = some (.aload_n 0, (0, 0, 0, 0)) := by decide +kernel
theorem f_234_10 : rfI 234 10 = some (.getfield 7, (12, 0, 2, 0)) := by decide +kernel
theorem f_234_13 : rfI 234 13 = some (.sipush 137, (0, 0, 0, 0)) := by decide +kernel
theorem f_234_16 : rfI 234 16 = some (.aload_n 0, (0, 0, 0, 0)) := by decide +kernel
theorem f_234_17 : rfI 234 17 = some (.getfield 7, (12, 0, 2, 0)) := by decide +kernel
theorem f_234_20 : rfI 234 20 = some (.sipush 137, (0, 0, 0, 0)) := by decide +kernel
theorem f_234_23 : rfI 234 23 = some (.iaload, (0, 0, 0, 0)) := by decide +kernel
theorem f_234_24 : rfI 234 24 = some (.iconst 1, (0, 0, 0, 0)) := by decide +kernel
theorem f_234_25 : rfI 234 25 = some (.iload_n 1, (0, 0, 0, 0)) := by decide +kernel
theorem f_234_26 : rfI 234 26 = some (.ishl, (0, 0, 0, 0)) := by decide +kernel
theorem f_234_27 : rfI 234 27 = some (.ior, (0, 0, 0, 0)) := by decide +kernel
theorem f_234_28 : rfI 234 28 = some (.iastore, (0, 0, 0, 0)) := by decide +kernel
theorem f_234_29 : rfI 234 29 = some (.iconst 0, (0, 0, 0, 0)) := by decide +kernel
theorem f_234_30 : rfI 234 30 = some (.istore_n 2, (0, 0, 0, 0)) := by decide +kernel
theorem f_234_31 : rfI 234 31 = some (.iload_n 2, (0, 0, 0, 0)) := by decide +kernel
theorem f_234_32 : rfI 234 32 = some (.bipush 8, (0, 0, 0, 0)) := by decide +kernel
theorem f_234_34 : rfI 234 34 = some (.if_icmp .ge 53, (0, 0, 0, 0)) := by decide +kernel
theorem f_234_37 : rfI 234 37 = some (.aload_n 0, (0, 0, 0, 0)) := by decide +kernel
theorem f_234_38 : rfI 234 38 = some (.getfield 7, (12, 0, 2, 0)) := by decide +kernel
theorem f_234_41 : rfI 234 41 = some (.iload_n 1, (0, 0, 0, 0)) := by decide +kernel
theorem f_234_42 : rfI 234 42 = some (.iload_n 2, (0, 0, 0, 0)) := by decide +kernel
theorem f_234_43 : rfI 234 43 = some (.invokestatic 131, (190, 2, 10, 0)) := by decide +kernel
theorem f_234_46 : rfI 234 46 = some (.iconst 0, (0, 0, 0, 0)) := by decide +kernel
theorem f_234_47 : rfI 234 47 = some (.iastore, (0, 0, 0, 0)) := by decide +kernel
theorem f_234_48 : rfI 234 48 = some (.aload_n 0, (0, 0, 0, 0)) := by decide +kernel
theorem f_234_49 : rfI 234 49 = some (.getfield 7, (12, 0, 2, 0)) := by decide +kernel
theorem f_234_52 : rfI 234 52 = some (.iload_n 2, (0, 0, 0, 0)) := by decide +kernel
theorem f_234_53 : rfI 234 53 = some (.iload_n 1, (0, 0, 0, 0)) := by decide +kernel
theorem f_234_54 : rfI 234 54 = some (.invokestatic 131, (190, 2, 10, 0)) := by decide +kernel
theorem f_234_57 : rfI 234 57 = some (.iconst 0, (0, 0, 0, 0)) := by decide +kernel
theorem f_234_58 : rfI 234 58 = some (.iastore, (0, 0, 0, 0)) := by decide +kernel
theorem f_234_59 : rfI 234 59 = some (.aload_n 0, (0, 0, 0, 0)) := by decide +kernel
theorem f_234_60 : rfI 234 60 = some (.getfield 7, (12, 0, 2, 0)) := by decide +kernel
theorem f_234_63 : rfI 234 63 = some (.iload_n 1, (0, 0, 0, 0)) := by decide +kernel
theorem f_234_64 : rfI 234 64 = some (.iload_n 2, (0, 0, 0, 0)) := by decide +kernel
theorem f_234_65 : rfI 234 65 = some (.invokestatic 145, (191, 2, 10, 0)) := by decide +kernel
theorem f_234_68 : rfI 234 68 = some (.iconst 0, (0, 0, 0, 0)) := by decide +kernel
theorem f_234_69 : rfI 234 69 = some (.iastore, (0, 0, 0, 0)) := by decide +kernel
theorem f_234_70 : rfI 234 70 = some (.aload_n 0, (0, 0, 0, 0)) := by decide +kernel
theorem f_234_71 : rfI 234 71 = some (.getfield 7, (12, 0, 2, 0)) := by decide +kernel
theorem f_234_74 : rfI 234 74 = some (.iload_n 2, (0, 0, 0, 0)) := by decide +kernel
theorem f_234_75 : rfI 234 75 = some (.iload_n 1, (0, 0, 0, 0)) := by decide +kernel
theorem f_234_76 : rfI 234 76 = some (.invokestatic 145, (191, 2, 10, 0)) := by decide +kernel
theorem f_234_79 : rfI 234 79 = some (.iconst 0, (0, 0, 0, 0)) := by decide +kernel
theorem f_234_80 : rfI 234 80 = some (.iastore, (0, 0, 0, 0)) := by decide +kernel
theorem f_234_81 : rfI 234 81 = some (.iinc 2 1, (0, 0, 0, 0)) := by decide +kernel
theorem f_234_84 : rfI 234 84 = some (.goto (-53), (0, 0, 0, 0)) := by decide +kernel
theorem f_234_87 : rfI 234 87 = some (.return_, (0, 0, 0, 0)) := by decide +kernel
theorem f_235_0 : rfI 235 0 = some (.aload_n 0, (0, 0, 0, 0)) := by decide +kernel
theorem f_235_1 : rfI 235 1 = some (.iload_n 1, (0, 0, 0, 0)) := by decide +kernel
theorem f_235_2 : rfI 235 2 = some (.invokevirtual 277, (234, 2, 11, 0)) := by decide +kernel
theorem f_235_5 : rfI 235 5 = some (.aload_n 0, (0, 0, 0, 0)) := by decide +kernel
theorem f_235_6 : rfI 235 6 = some (.getfield 7, (12, 0, 2, 0)) := by decide +kernel
theorem f_235_9 : rfI 235 9 = some (.sipush 139, (0, 0, 0, 0)) := by decide +kernel
theorem f_235_12 : rfI 235 12 = some (.aload_n 0, (0, 0, 0, 0)) := by decide +kernel
theorem f_235_13 : rfI 235 13 = some (.getfield 7, (12, 0, 2, 0)) := by decide +kernel
theorem f_235_16 : rfI 235 16 = some (.sipush 139, (0, 0, 0, 0)) := by decide +kernel
theorem f_235_19 : rfI 235 19 = some (.iaload, (0, 0, 0, 0)) := by decide +kernel
theorem f_235_20 : rfI 235 20 = some (.iconst 1, (0, 0, 0, 0)) := by decide +kernel
theorem f_235_21 : rfI 235 21 = some (.iadd, (0, 0, 0, 0)) := by decide +kernel
theorem f_235_22 : rfI 235 22 = some (.iastore, (0, 0, 0, 0)) := by decide +kernel
theorem f_235_23 : rfI 235 23 = some (.aload_n 0, (0, 0, 0, 0)) := by decide +kernel
theorem f_235_24 : rfI 235 24 = some (.aload_n 0, (0, 0, 0, 0)) := by decide +kernel
theorem f_235_25 : rfI 235 25 = some (.getfield 280, (12, 29, 0, 0)) := by decide +kernel
theorem f_235_28 : rfI 235 28 = some (.iconst 1, (0, 0, 0, 0)) := by decide +kernel
theorem f_235_29 : rfI 235 29 = some (.iadd, (0, 0, 0, 0)) := by decide +kernel
theorem f_235_30 : rfI 235 30 = some (.putfield 280, (12, 29, 0, 0)) := by decide +kernel
theorem f_235_33 : rfI 235 33 = some (.return_, (0, 0, 0, 0)) := by decide +kernel
theorem f_236_0 : rfI 236 0 = some (.aload_n 0, (0, 0, 0, 0)) := by decide +kernel
theorem f_236_1 : rfI 236 1 = some (.iload_n 1, (0, 0, 0, 0)) := by decide +kernel
theorem f_236_2 : rfI 236 2 = some (.invokevirtual 283, (228, 2, 11, 0)) := by decide +kernel
theorem f_236_5 : rfI 236 5 = some (.aload_n 0, (0, 0, 0, 0)) := by decide +kernel
theorem f_236_6 : rfI 236 6 = some (.bipush 102, (0, 0, 0, 0)) := by decide +kernel
theorem f_236_8 : rfI 236 8 = some (.sipush 999, (0, 0, 0, 0)) := by decide +kernel
theorem f_236_11 : rfI 236 11 = some (.invokevirtual 286, (226, 3, 11, 0)) := by decide +kernel
theorem f_236_14 : rfI 236 14 = some (.istore_n 2, (0, 0, 0, 0)) := by decide +kernel
theorem f_236_15 : rfI 236 15 = some (.aload_n 0, (0, 0, 0, 0)) := by decide +kernel
theorem f_236_16 : rfI 236 16 = some (.bipush 119, (0, 0, 0, 0)) := by decide +kernel
theorem f_236_18 : rfI 236 18 = some (.sipush 999, (0, 0, 0, 0)) := by decide +kernel
theorem f_236_21 : rfI 236 21 = some (.invokevirtual 286, (226, 3, 11, 0)) := by decide +kernel
theorem f_236_24 : rfI 236 24 = some (.istore_n 3, (0, 0, 0, 0)) := by decide +kernel
theorem f_236_25 : rfI 236 25 = some (.aload_n 0, (0, 0, 0, 0)) := by decide +kernel
theorem f_236_26 : rfI 236 26 = some (.bipush 113, (0, 0, 0, 0)) := by decide +kernel
theorem f_236_28 : rfI 236 28 = some (.bipush 10, (0, 0, 0, 0)) := by decide +kernel
theorem f_236_30 : rfI 236 30 = some (.invokevirtual 286, (226, 3, 11, 0)) := by decide +kernel
theorem f_236_33 : rfI 236 33 = some (.istore 4, (0, 0, 0, 0)) := by decide +kernel
theorem f_236_35 : rfI 236 35 = some (.aload_n 0, (0, 0, 0, 0)) := by decide +kernel
theorem f_236_36 : rfI 236 36 = some (.getfield 7, (12, 0, 2, 0)) := by decide +kernel
theorem f_236_39 : rfI 236 39 = some (.sipush 140, (0, 0, 0, 0)) := by decide +kernel
theorem f_236_42 : rfI 236 42 = some (.sipush 25173, (0, 0, 0, 0)) := by decide +kernel
theorem f_236_45 : rfI 236 45 = some (.aload_n 0, (0, 0, 0, 0)) := by decide +kernel
theorem f_236_46 : rfI 236 46 = some (.getfield 7, (12, 0, 2, 0)) := by decide +kernel
theorem f_236_49 : rfI 236 49 = some (.sipush 140, (0, 0, 0, 0)) := by decide +kernel
theorem f_236_52 : rfI 236 52 = some (.iaload, (0, 0, 0, 0)) := by decide +kernel
theorem f_236_53 : rfI 236 53 = some (.imul, (0, 0, 0, 0)) := by decide +kernel
theorem f_236_54 : rfI 236 54 = some (.sipush 13849, (0, 0, 0, 0)) := by decide +kernel
theorem f_236_57 : rfI 236 57 = some (.iadd, (0, 0, 0, 0)) := by decide +kernel
theorem f_236_58 : rfI 236 58 = some (.ldc_w 289, (4, 4, 4, 65536)) := by decide +kernel
theorem f_236_61 : rfI 236 61 = some (.irem, (0, 0, 0, 0)) := by decide +kernel
theorem f_236_62 : rfI 236 62 = some (.iastore, (0, 0, 0, 0)) := by decide +kernel
theorem f_236_63 : rfI 236 63 = some (.aload_n 0, (0, 0, 0, 0)) := by decide +kernel
theorem f_236_64 : rfI 236 64 = some (.getfield 7, (12, 0, 2, 0)) := by decide +kernel
theorem f_236_67 : rfI 236 67 = some (.sipush 140, (0, 0, 0, 0)) := by decide +kernel
theorem f_236_70 : rfI 236 70 = some (.iaload, (0, 0, 0, 0)) := by decide +kernel
theorem f_236_71 : rfI 236 71 = some (.bipush 10, (0, 0, 0, 0)) := by decide +kernel
theorem f_236_73 : rfI 236 73 = some (.irem, (0, 0, 0, 0)) := by decide +kernel
theorem f_236_74 : rfI 236 74 = some (.iload 4, (0, 0, 0, 0)) := by decide +kernel
theorem f_236_76 : rfI 236 76 = some (.if_icmp .ge 7, (0, 0, 0, 0)) := by decide +kernel
theorem f_236_79 : rfI 236 79 = some (.iconst 1, (0, 0, 0, 0)) := by decide +kernel
theorem f_236_80 : rfI 236 80 = some (.goto 4, (0, 0, 0, 0)) := by decide +kernel
theorem f_236_83 : rfI 236 83 = some (.iconst 0, (0, 0, 0, 0)) := by decide +kernel
theorem f_236_84 : rfI 236 84 = some (.istore 5, (0, 0, 0, 0)) := by decide +kernel
theorem f_236_86 : rfI 236 86 = some (.iload 5, (0, 0, 0, 0)) := by decide +kernel
theorem f_236_88 : rfI 236 88 = some (.ifCond .eq 13, (0, 0, 0, 0)) := by decide +kernel
theorem f_236_91 : rfI 236 91 = some (.aload_n 0, (0, 0, 0, 0)) := by decide +kernel
theorem f_236_92 : rfI 236 92 = some (.aload_n 0, (0, 0, 0, 0)) := by decide +kernel
theorem f_236_93 : rfI 236 93 = some (.getfield 290, (12, 30, 0, 0)) := by decide +kernel
theorem f_236_96 : rfI 236 96 = some (.iconst 1, (0, 0, 0, 0)) := by decide +kernel
theorem f_236_97 : rfI 236 97 = some (.iadd, (0, 0, 0, 0)) := by decide +kernel
theorem f_236_98 : rfI 236 98 = some (.putfield 290, (12, 30, 0, 0)) := by decide +kernel
theorem f_236_101 : rfI 236 101 = some (.sipush 9999, (0, 0, 0, 0)) := by decide +kernel
theorem f_236_104 : rfI 236 104 = some (.aload_n 0, (0, 0, 0, 0)) := by decide +kernel
theorem f_236_105 : rfI 236 105 = some (.getfield 7, (12, 0, 2, 0)) := by decide +kernel
theorem f_236_108 : rfI 236 108 = some (.iconst 0, (0, 0, 0, 0)) := by decide +kernel
theorem f_236_109 : rfI 236 109 = some (.iload_n 1, (0, 0, 0, 0)) := by decide +kernel
theorem f_236_110 : rfI 236 110 = some (.iadd, (0, 0, 0, 0)) := by decide +kernel
theorem f_236_111 : rfI 236 111 = some (.iaload, (0, 0, 0, 0)) := by decide +kernel
theorem f_236_112 : rfI 236 112 = some (.iload_n 2, (0, 0, 0, 0)) := by decide +kernel
theorem f_236_113 : rfI 236 113 = some (.iadd, (0, 0, 0, 0)) := by decide +kernel
theorem f_236_114 : rfI 236 114 = some (.invokestatic 293, (182, 2, 10, 0)) := by decide +kernel
theorem f_236_117 : rfI 236 117 = some (.iload 5, (0, 0, 0, 0)) := by decide +kernel
theorem f_236_119 : rfI 236 119 = some (.ifCond .eq 9, (0, 0, 0, 0)) := by decide +kernel
theorem f_236_122 : rfI 236 122 = some (.iconst 2, (0, 0, 0, 0)) := by decide +kernel
theorem f_236_123 : rfI 236 123 = some (.iload_n 3, (0, 0, 0, 0)) := by decide +kernel
theorem f_236_124 : rfI 236 124 = some (.imul, (0, 0, 0, 0)) := by decide +kernel
theorem f_236_125 : rfI 236 125 = some (.goto 4, (0, 0, 0, 0)) := by decide +kernel
theorem f_236_128 : rfI 236 128 = some (.iload_n 3, (0, 0, 0, 0)) := by decide +kernel
theorem f_236_129 : rfI 236 129 = some (.isub, (0, 0, 0, 0)) := by decide +kernel
theorem f_236_130 : rfI 236 130 = some (.istore 6, (0, 0, 0, 0)) := by decide +kernel
theorem f_236_132 : rfI 236 132 = some (.iload 6, (0, 0, 0, 0)) := by decide +kernel
theorem f_236_134 : rfI 236 134 = some (.ifCond .ge 11, (0, 0, 0, 0)) := by decide +kernel
theorem f_236_137 : rfI 236 137 = some (.aload_n 0, (0, 0, 0, 0)) := by decide +kernel
theorem f_236_138 : rfI 236 138 = some (.iload_n 1, (0, 0, 0, 0)) := by decide +kernel
theorem f_236_139 : rfI 236 139 = some (.invokevirtual 296, (235, 2, 11, 0)) := by decide +kernel
theorem f_236_142 : rfI 236 142 = some (.goto 13, (0, 0, 0, 0)) := by decide +kernel
theorem f_236_145 : rfI 236 145 = some (.aload_n 0, (0, 0, 0, 0)) := by decide +kernel
theorem f_236_146 : rfI 236 146 = some (.getfield 7, (12, 0, 2, 0)) := by decide +kernel
theorem f_236_149 : rfI 236 149 = some (.iconst 0, (0, 0, 0, 0)) := by decide +kernel
theorem f_236_150 : rfI 236 150 = some (.iload_n 1, (0, 0, 0, 0)) := by decide +kernel
theorem f_236_151 : rfI 236 151 = some (.iadd, (0, 0, 0, 0)) := by decide +kernel
theorem f_236_152 : rfI 236 152 = some (.iload 6, (0, 0, 0, 0)) := by decide +kernel
theorem f_236_154 : rfI 236 154 = some (.iastore, (0, 0, 0, 0)) := by decide +kernel
theorem f_236_155 : rfI 236 155 = some (.return_, (0, 0, 0, 0)) := by decide +kernel
theorem f_237_0 : rfI 237 0 = some (.aload_n 0, (0, 0, 0, 0)) := by decide +kernel
theorem f_237_1 : rfI 237 1 = some (.iload_n 1, (0, 0, 0, 0)) := by decide +kernel
theorem f_237_2 : rfI 237 2 = some (.invokevirtual 283, (228, 2, 11, 0)) := by decide +kernel
theorem f_237_5 : rfI 237 5 = some (.aload_n 0, (0, 0, 0, 0)) := by decide +kernel
theorem f_237_6 : rfI 237 6 = some (.getfield 59, (12, 26, 2, 0)) := by decide +kernel
theorem f_237_9 : rfI 237 9 = some (.iconst 4, (0, 0, 0, 0)) := by decide +kernel
theorem f_237_10 : rfI 237 10 = some (.iload_n 2, (0, 0, 0, 0)) := by decide +kernel
theorem f_237_11 : rfI 237 11 = some (.iastore, (0, 0, 0, 0)) := by decide +kernel
theorem f_237_12 : rfI 237 12 = some (.aload_n 0, (0, 0, 0, 0)) := by decide +kernel
theorem f_237_13 : rfI 237 13 = some (.getfield 59, (12, 26, 2, 0)) := by decide +kernel
theorem f_237_16 : rfI 237 16 = some (.iconst 5, (0, 0, 0, 0)) := by decide +kernel
theorem f_237_17 : rfI 237 17 = some (.aload_n 0, (0, 0, 0, 0)) := by decide +kernel
theorem f_237_18 : rfI 237 18 = some (.getfield 7, (12, 0, 2, 0)) := by decide +kernel
theorem f_237_21 : rfI 237 21 = some (.iload_n 1, (0, 0, 0, 0)) := by decide +kernel
theorem f_237_22 : rfI 237 22 = some (.iload_n 2, (0, 0, 0, 0)) := by decide +kernel
theorem f_237_23 : rfI 237 23 = some (.invokestatic 131, (190, 2, 10, 0)) := by decide +kernel
theorem f_237_26 : rfI 237 26 = some (.iaload, (0, 0, 0, 0)) := by decide +kernel
theorem f_237_27 : rfI 237 27 = some (.iastore, (0, 0, 0, 0)) := by decide +kernel
theorem f_237_28 : rfI 237 28 = some (.aload_n 0, (0, 0, 0, 0)) := by decide +kernel
theorem f_237_29 : rfI 237 29 = some (.getfield 7, (12, 0, 2, 0)) := by decide +kernel
theorem f_237_32 : rfI 237 32 = some (.iload_n 1, (0, 0, 0, 0)) := by decide +kernel
theorem f_237_33 : rfI 237 33 = some (.iload_n 2, (0, 0, 0, 0)) := by decide +kernel
theorem f_237_34 : rfI 237 34 = some (.invokestatic 131, (190, 2, 10, 0)) := by decide +kernel
theorem f_237_37 : rfI 237 37 = some (.sipush 999, (0, 0, 0, 0)) := by decide +kernel
theorem f_237_40 : rfI 237 40 = some (.aload_n 0, (0, 0, 0, 0)) := by decide +kernel
theorem f_237_41 : rfI 237 41 = some (.getfield 7, (12, 0, 2, 0)) := by decide +kernel
theorem f_237_44 : rfI 237 44 = some (.iload_n 1, (0, 0, 0, 0)) := by decide +kernel
theorem f_237_45 : rfI 237 45 = some (.iload_n 2, (0, 0, 0, 0)) := by decide +kernel
theorem f_237_46 : rfI 237 46 = some (.invokestatic 131, (190, 2, 10, 0)) := by decide +kernel
theorem f_237_49 : rfI 237 49 = some (.iaload, (0, 0, 0, 0)) := by decide +kernel
theorem f_237_50 : rfI 237 50 = some (.aload_n 0, (0, 0, 0, 0)) := by decide +kernel
theorem f_237_51 : rfI 237 51 = some (.bipush 105, (0, 0, 0, 0)) := by decide +kernel
theorem f_237_53 : rfI 237 53 = some (.bipush 99, (0, 0, 0, 0)) := by decide +kernel
theorem f_237_55 : rfI 237 55 = some (.invokevirtual 286, (226, 3, 11, 0)) := by decide +kernel
theorem f_237_58 : rfI 237 58 = some (.iadd, (0, 0, 0, 0)) := by decide +kernel
theorem f_237_59 : rfI 237 59 = some (.invokestatic 293, (182, 2, 10, 0)) := by decide +kernel
theorem f_237_62 : rfI 237 62 = some (.iastore, (0, 0, 0, 0)) := by decide +kernel
theorem f_237_63 : rfI 237 63 = some (.return_, (0, 0, 0, 0)) := by decide +kernel
theorem f_238_0 : rfI 238 0 = some (.iconst 0, (0, 0, 0, 0)) := by decide +kernel
theorem f_238_1 : rfI 238 1 = some (.istore_n 1, (0, 0, 0, 0)) := by decide +kernel
theorem f_238_2 : rfI 238 2 = some (.iload_n 1, (0, 0, 0, 0)) := by decide +kernel
theorem f_238_3 : rfI 238 3 = some (.bipush 8, (0, 0, 0, 0)) := by decide +kernel
theorem f_238_5 : rfI 238 5 = some (.if_icmp .ge 22, (0, 0, 0, 0)) := by decide +kernel
theorem f_238_8 : rfI 238 8 = some (.aload_n 0, (0, 0, 0, 0)) := by decide +kernel
theorem f_238_9 : rfI 238 9 = some (.iload_n 1, (0, 0, 0, 0)) := by decide +kernel
theorem f_238_10 : rfI 238 10 = some (.invokevirtual 128, (188, 2, 11, 0)) := by decide +kernel
theorem f_238_13 : rfI 238 13 = some (.ifCond .eq 8, (0, 0, 0, 0)) := by decide +kernel
theorem f_238_16 : rfI 238 16 = some (.aload_n 0, (0, 0, 0, 0)) := by decide +kernel
theorem f_238_17 : rfI 238 17 = some (.iload_n 1, (0, 0, 0, 0)) := by decide +kernel
theorem f_238_18 : rfI 238 18 = some (.invokevirtual 299, (236, 2, 11, 0)) := by decide +kernel
theorem f_238_21 : rfI 238 21 = some (.iinc 1 1, (0, 0, 0, 0)) := by decide +kernel
theorem f_238_24 : rfI 238 24 = some (.goto (-22), (0, 0, 0, 0)) := by decide +kernel
theorem f_238_27 : rfI 238 27 = some (.iconst 0, (0, 0, 0, 0)) := by decide +kernel
theorem f_238_28 : rfI 238 28 = some (.istore_n 1, (0, 0, 0, 0)) := by decide +kernel
theorem f_238_29 : rfI 238 29 = some (.iload_n 1, (0, 0, 0, 0)) := by decide +kernel
theorem f_238_30 : rfI 238 30 = some (.bipush 8, (0, 0, 0, 0)) := by decide +kernel
theorem f_238_32 : rfI 238 32 = some (.if_icmp .ge 42, (0, 0, 0, 0)) := by decide +kernel
theorem f_238_35 : rfI 238 35 = some (.iconst 0, (0, 0, 0, 0)) := by decide +kernel
theorem f_238_36 : rfI 238 36 = some (.istore_n 2, (0, 0, 0, 0)) := by decide +kernel
theorem f_238_37 : rfI 238 37 = some (.iload_n 2, (0, 0, 0, 0)) := by decide +kernel
theorem f_238_38 : rfI 238 38 = some (.bipush 8, (0, 0, 0, 0)) := by decide +kernel
theorem f_238_40 : rfI 238 40 = some (.if_icmp .ge 28, (0, 0, 0, 0)) := by decide +kernel
theorem f_238_43 : rfI 238 43 = some (.aload_n 0, (0, 0, 0, 0)) := by decide +kernel
theorem f_238_44 : rfI 238 44 = some (.getfield 7, (12, 0, 2, 0)) := by decide +kernel
theorem f_238_47 : rfI 238 47 = some (.iload_n 1, (0, 0, 0, 0)) := by decide +kernel
theorem f_238_48 : rfI 238 48 = some (.iload_n 2, (0, 0, 0, 0)) := by decide +kernel
theorem f_238_49 : rfI 238 49 = some (.invokestatic 131, (190, 2, 10, 0)) := by decide +kernel
theorem f_238_52 : rfI 238 52 = some (.iaload, (0, 0, 0, 0)) := by decide +kernel
theorem f_238_53 : rfI 238 53 = some (.ifCond .le 9, (0, 0, 0, 0)) := by decide +kernel
theorem f_238_56 : rfI 238 56 = some (.aload_n 0, (0, 0, 0, 0)) := by decide +kernel
theorem f_238_57 : rfI 238 57 = some (.iload_n 1, (0, 0, 0, 0)) := by decide +kernel
theorem f_238_58 : rfI 238 58 = some (.iload_n 2, (0, 0, 0, 0)) := by decide +kernel
theorem f_238_59 : rfI 238 59 = some (.invokevirtual 302, (237, 3, 11, 0)) := by decide +kernel
theorem f_238_62 : rfI 238 62 = some (.iinc 2 1, (0, 0, 0, 0)) := by decide +kernel
theorem f_238_65 : rfI 238 65 = some (.goto (-28), (0, 0, 0, 0)) := by decide +kernel
theorem f_238_68 : rfI 238 68 = some (.iinc 1 1, (0, 0, 0, 0)) := by decide +kernel
theorem f_238_71 : rfI 238 71 = some (.goto (-42), (0, 0, 0, 0)) := by decide +kernel
theorem f_238_74 : rfI 238 74 = some (.iconst 0, (0, 0, 0, 0)) := by decide +kernel
theorem f_238_75 : rfI 238 75 = some (.istore_n 1, (0, 0, 0, 0)) := by decide +kernel
theorem f_238_76 : rfI 238 76 = some (.iload_n 1, (0, 0, 0, 0)) := by decide +kernel
theorem f_238_77 : rfI 238 77 = some (.bipush 8, (0, 0, 0, 0)) := by decide +kernel
theorem f_238_79 : rfI 238 79 = some (.if_icmp .ge 39, (0, 0, 0, 0)) := by decide +kernel
theorem f_238_82 : rfI 238 82 = some (.aload_n 0, (0, 0, 0, 0)) := by decide +kernel
theorem f_238_83 : rfI 238 83 = some (.iload_n 1, (0, 0, 0, 0)) := by decide +kernel
theorem f_238_84 : rfI 238 84 = some (.invokevirtual 128, (188, 2, 11, 0)) := by decide +kernel
theorem f_238_87 : rfI 238 87 = some (.ifCond .ne 6, (0, 0, 0, 0)) := by decide +kernel
theorem f_238_90 : rfI 238 90 = some (.goto 22, (0, 0, 0, 0)) := by decide +kernel
theorem f_238_93 : rfI 238 93 = some (.aload_n 0, (0, 0, 0, 0)) := by decide +kernel
theorem f_238_94 : rfI 238 94 = some (.iload_n 1, (0, 0, 0, 0)) := by decide +kernel
theorem f_238_95 : rfI 238 95 = some (.invokevirtual 283, (228, 2, 11, 0)) := by decide +kernel
theorem f_238_98 : rfI 238 98 = some (.aload_n 0, (0, 0, 0, 0)) := by decide +kernel
theorem f_238_99 : rfI 238 99 = some (.bipush 120, (0, 0, 0, 0)) := by decide +kernel
theorem f_238_101 : rfI 238 101 = some (.invokevirtual 305, (227, 2, 11, 0)) := by decide +kernel
theorem f_238_104 : rfI 238 104 = some (.ifCond .eq 8, (0, 0, 0, 0)) := by decide +kernel
theorem f_238_107 : rfI 238 107 = some (.aload_n 0, (0, 0, 0, 0)) := by decide +kernel
theorem f_238_108 : rfI 238 108 = some (.iload_n 1, (0, 0, 0, 0)) := by decide +kernel
theorem f_238_109 : rfI 238 109 = some (.invokevirtual 296, (235, 2, 11, 0)) := by decide +kernel
theorem f_238_112 : rfI 238 112 = some (.iinc 1 1, (0, 0, 0, 0)) := by decide +kernel
theorem f_238_115 : rfI 238 115 = some (.goto (-39), (0, 0, 0, 0)) := by decide +kernel
theorem f_238_118 : rfI 238 118 = some (.aload_n 0, (0, 0, 0, 0)) := by decide +kernel
theorem f_238_119 : rfI 238 119 = some (.getfield 7, (12, 0, 2, 0)) := by decide +kernel
theorem f_238_122 : rfI 238 122 = some (.sipush 138, (0, 0, 0, 0)) := by decide +kernel
theorem f_238_125 : rfI 238 125 = some (.aload_n 0, (0, 0, 0, 0)) := by decide +kernel
theorem f_238_126 : rfI 238 126 = some (.getfield 7, (12, 0, 2, 0)) := by decide +kernel
theorem f_238_129 : rfI 238 129 = some (.sipush 138, (0, 0, 0, 0)) := by decide +kernel
theorem f_238_132 : rfI 238 132 = some (.iaload, (0, 0, 0, 0)) := by decide +kernel
theorem f_238_133 : rfI 238 133 = some (.iconst 1, (0, 0, 0, 0)) := by decide +kernel
theorem f_238_134 : rfI 238 134 = some (.iadd, (0, 0, 0, 0)) := by decide +kernel
theorem f_238_135 : rfI 238 135 = some (.iastore, (0, 0, 0, 0)) := by decide +kernel
theorem f_238_136 : rfI 238 136 = some (.return_, (0, 0, 0, 0)) := by decide +kernel
theorem f_239_0 : rfI 239 0 = some (.aload_n 0, (0, 0, 0, 0)) := by decide +kernel
theorem f_239_1 : rfI 239 1 = some (.iconst 0, (0, 0, 0, 0)) := by decide +kernel
theorem f_239_2 : rfI 239 2 = some (.putfield 280, (12, 29, 0, 0)) := by decide +kernel
theorem f_239_5 : rfI 239 5 = some (.aload_n 0, (0, 0, 0, 0)) := by decide +kernel
theorem f_239_6 : rfI 239 6 = some (.iconst 0, (0, 0, 0, 0)) := by decide +kernel
theorem f_239_7 : rfI 239 7 = some (.putfield 290, (12, 30, 0, 0)) := by decide +kernel
theorem f_239_10 : rfI 239 10 = some (.iconst 0, (0, 0, 0, 0)) := by decide +kernel
theorem f_239_11 : rfI 239 11 = some (.istore_n 2, (0, 0, 0, 0)) := by decide +kernel
theorem f_239_12 : rfI 239 12 = some (.iload_n 2, (0, 0, 0, 0)) := by decide +kernel
theorem f_239_13 : rfI 239 13 = some (.iload_n 1, (0, 0, 0, 0)) := by decide +kernel
theorem f_239_14 : rfI 239 14 = some (.if_icmp .ge 27, (0, 0, 0, 0)) := by decide +kernel
theorem f_239_17 : rfI 239 17 = some (.aload_n 0, (0, 0, 0, 0)) := by decide +kernel
theorem f_239_18 : rfI 239 18 = some (.getfield 7, (12, 0, 2, 0)) := by decide +kernel
theorem f_239_21 : rfI 239 21 = some (.sipush 138, (0, 0, 0, 0)) := by decide +kernel
theorem f_239_24 : rfI 239 24 = some (.iaload, (0, 0, 0, 0)) := by decide +kernel
theorem f_239_25 : rfI 239 25 = some (.sipush 9999, (0, 0, 0, 0)) := by decide +kernel
theorem f_239_28 : rfI 239 28 = some (.if_icmp .ge 13, (0, 0, 0, 0)) := by decide +kernel
theorem f_239_31 : rfI 239 31 = some (.aload_n 0, (0, 0, 0, 0)) := by decide +kernel
theorem f_239_32 : rfI 239 32 = some (.invokevirtual 308, (238, 1, 11, 0)) := by decide +kernel
theorem f_239_35 : rfI 239 35 = some (.iinc 2 1, (0, 0, 0, 0)) := by decide +kernel
theorem f_239_38 : rfI 239 38 = some (.goto (-26), (0, 0, 0, 0)) := by decide +kernel
theorem f_239_41 : rfI 239 41 = some (.return_, (0, 0, 0, 0)) := by decide +kernel
theorem f_240_0 : rfI 240 0 = some (.iload_n 1, (0, 0, 0, 0)) := by decide +kernel
theorem f_240_1 : rfI 240 1 = some (.iconst 1, (0, 0, 0, 0)) := by decide +kernel
theorem f_240_2 : rfI 240 2 = some (.bipush 60, (0, 0, 0, 0)) := by decide +kernel
theorem f_240_4 : rfI 240 4 = some (.invokestatic 116, (181, 3, 10, 0)) := by decide +kernel
theorem f_240_7 : rfI 240 7 = some (.ifCond .ne 5, (0, 0, 0, 0)) := by decide +kernel
theorem f_240_10 : rfI 240 10 = some (.iconst (-1), (0, 0, 0, 0)) := by decide +kernel
theorem f_240_11 : rfI 240 11 = some (.ireturn, (0, 0, 0, 0)) := by decide +kernel
theorem f_240_12 : rfI 240 12 = some (.aload_n 0, (0, 0, 0, 0)) := by decide +kernel
theorem f_240_13 : rfI 240 13 = some (.iload_n 1, (0, 0, 0, 0)) := by decide +kernel
theorem f_240_14 : rfI 240 14 = some (.invokevirtual 311, (239, 2, 11, 0)) := by decide +kernel
theorem f_240_17 : rfI 240 17 = some (.aload_n 0, (0, 0, 0, 0)) := by decide +kernel
theorem f_240_18 : rfI 240 18 = some (.getfield 280, (12, 29, 0, 0)) := by decide +kernel
theorem f_240_21 : rfI 240 21 = some (.ireturn, (0, 0, 0, 0)) := by decide +kernel
theorem f_241_0 : rfI 241 0 = some (.iconst 0, (0, 0, 0, 0)) := by decide +kernel
theorem f_241_1 : rfI 241 1 = some (.istore_n 1, (0, 0, 0, 0)) := by decide +kernel
theorem f_241_2 : rfI 241 2 = some (.iconst 0, (0, 0, 0, 0)) := by decide +kernel
theorem f_241_3 : rfI 241 3 = some (.istore_n 2, (0, 0, 0, 0)) := by decide +kernel
theorem f_241_4 : rfI 241 4 = some (.iload_n 2, (0, 0, 0, 0)) := by decide +kernel
theorem f_241_5 : rfI 241 5 = some (.bipush 8, (0, 0, 0, 0)) := by decide +kernel
theorem f_241_7 : rfI 241 7 = some (.if_icmp .ge 32, (0, 0, 0, 0)) := by decide +kernel
theorem f_241_10 : rfI 241 10 = some (.iload_n 1, (0, 0, 0, 0)) := by decide +kernel
theorem f_241_11 : rfI 241 11 = some (.aload_n 0, (0, 0, 0, 0)) := by decide +kernel
theorem f_241_12 : rfI 241 12 = some (.iload_n 2, (0, 0, 0, 0)) := by decide +kernel
theorem f_241_13 : rfI 241 13 = some (.invokevirtual 128, (188, 2, 11, 0)) := by decide +kernel
theorem f_241_16 : rfI 241 16 = some (.ifCond .eq 14, (0, 0, 0, 0)) := by decide +kernel
theorem f_241_19 : rfI 241 19 = some (.aload_n 0, (0, 0, 0, 0)) := by decide +kernel
theorem f_241_20 : rfI 241 20 = some (.getfield 7, (12, 0, 2, 0)) := by decide +kernel
theorem f_241_23 : rfI 241 23 = some (.iconst 0, (0, 0, 0, 0)) := by decide +kernel
theorem f_241_24 : rfI 241 24 = some (.iload_n 2, (0, 0, 0, 0)) := by decide +kernel
theorem f_241_25 : rfI 241 25 = some (.iadd, (0, 0, 0, 0)) := by decide +kernel
theorem f_241_26 : rfI 241 26 = some (.iaload, (0, 0, 0, 0)) := by decide +kernel
theorem f_241_27 : rfI 241 27 = some (.goto 4, (0, 0, 0, 0)) := by decide +kernel
theorem f_241_30 : rfI 241 30 = some (.iconst 0, (0, 0, 0, 0)) := by decide +kernel
theorem f_241_31 : rfI 241 31 = some (.iadd, (0, 0, 0, 0)) := by decide +kernel
theorem f_241_32 : rfI 241 32 = some (.istore_n 1, (0, 0, 0, 0)) := by decide +kernel
theorem f_241_33 : rfI 241 33 = some (.iinc 2 1, (0, 0, 0, 0)) := by decide +kernel
theorem f_241_36 : rfI 241 36 = some (.goto (-32), (0, 0, 0, 0)) := by decide +kernel
theorem f_241_39 : rfI 241 39 = some (.iload_n 1, (0, 0, 0, 0)) := by decide +kernel
theorem f_241_40 : rfI 241 40 = some (.ireturn, (0, 0, 0, 0)) := by decide +kernel
theorem f_242_0 : rfI 242 0 = some (.iload_n 1, (0, 0, 0, 0)) := by decide +kernel
theorem f_242_1 : rfI 242 1 = some (.iconst 1, (0, 0, 0, 0)) := by decide +kernel
theorem f_242_2 : rfI 242 2 = some (.bipush 60, (0, 0, 0, 0)) := by decide +kernel
theorem f_242_4 : rfI 242 4 = some (.invokestatic 116, (181, 3, 10, 0)) := by decide +kernel
theorem f_242_7 : rfI 242 7 = some (.ifCond .eq 34, (0, 0, 0, 0)) := by decide +kernel
theorem f_242_10 : rfI 242 10 = some (.iload_n 2, (0, 0, 0, 0)) := by decide +kernel
theorem f_242_11 : rfI 242 11 = some (.iconst 0, (0, 0, 0, 0)) := by decide +kernel
theorem f_242_12 : rfI 242 12 = some (.iconst 3, (0, 0, 0, 0)) := by decide +kernel
theorem f_242_13 : rfI 242 13 = some (.invokestatic 116, (181, 3, 10, 0)) := by decide +kernel
theorem f_242_16 : rfI 242 16 = some (.ifCond .ne 27, (0, 0, 0, 0)) := by decide +kernel
theorem f_242_19 : rfI 242 19 = some (.iload_n 2, (0, 0, 0, 0)) := by decide +kernel
theorem f_242_20 : rfI 242 20 = some (.bipush 10, (0, 0, 0, 0)) := by decide +kernel
theorem f_242_22 : rfI 242 22 = some (.bipush 17, (0, 0, 0, 0)) := by decide +kernel
theorem f_242_24 : rfI 242 24 = some (.invokestatic 116, (181, 3, 10, 0)) := by decide +kernel
theorem f_242_27 : rfI 242 27 = some (.ifCond .eq 14, (0, 0, 0, 0)) := by decide +kernel
theorem f_242_30 : rfI 242 30 = some (.aload_n 0, (0, 0, 0, 0)) := by decide +kernel
theorem f_242_31 : rfI 242 31 = some (.iload_n 2, (0, 0, 0, 0)) := by decide +kernel
theorem f_242_32 : rfI 242 32 = some (.bipush 10, (0, 0, 0, 0)) := by decide +kernel
theorem f_242_34 : rfI 242 34 = some (.isub, (0, 0, 0, 0)) := by decide +kernel
theorem f_242_35 : rfI 242 35 = some (.invokevirtual 124, (187, 2, 11, 0)) := by decide +kernel
theorem f_242_38 : rfI 242 38 = some (.ifCond .ne 5, (0, 0, 0, 0)) := by decide +kernel
theorem f_242_41 : rfI 242 41 = some (.iconst (-1), (0, 0, 0, 0)) := by decide +kernel
theorem f_242_42 : rfI 242 42 = some (.ireturn, (0, 0, 0, 0)) := by decide +kernel
theorem f_242_43 : rfI 242 43 = some (.aload_n 0, (0, 0, 0, 0)) := by decide +kernel
theorem f_242_44 : rfI 242 44 = some (.getfield 7, (12, 0, 2, 0)) := by decide +kernel
theorem f_242_47 : rfI 242 47 = some (.aload_n 0, (0, 0, 0, 0)) := by decide +kernel
theorem f_242_48 : rfI 242 48 = some (.getfield 13, (12, 1, 2, 0)) := by decide +kernel
theorem f_242_51 : rfI 242 51 = some (.invokestatic 270, (186, 2, 10, 0)) := by decide +kernel
theorem f_242_54 : rfI 242 54 = some (.aload_n 0, (0, 0, 0, 0)) := by decide +kernel
theorem f_242_55 : rfI 242 55 = some (.iload_n 1, (0, 0, 0, 0)) := by decide +kernel
theorem f_242_56 : rfI 242 56 = some (.invokevirtual 311, (239, 2, 11, 0)) := by decide +kernel
theorem f_242_59 : rfI 242 59 = some (.iload_n 2, (0, 0, 0, 0)) := by decide +kernel
theorem f_242_60 : rfI 242 60 = some (.ifCond .ne 10, (0, 0, 0, 0)) := by decide +kernel
theorem f_242_63 : rfI 242 63 = some (.aload_n 0, (0, 0, 0, 0)) := by decide +kernel
theorem f_242_64 : rfI 242 64 = some (.getfield 280, (12, 29, 0, 0)) := by decide +kernel
theorem f_242_67 : rfI 242 67 = some (.goto 50, (0, 0, 0, 0)) := by decide +kernel
theorem f_242_70 : rfI 242 70 = some (.iload_n 2, (0, 0, 0, 0)) := by decide +kernel
theorem f_242_71 : rfI 242 71 = some (.iconst 1, (0, 0, 0, 0)) := by decide +kernel
theorem f_242_72 : rfI 242 72 = some (.if_icmp .ne 10, (0, 0, 0, 0)) := by decide +kernel
theorem f_242_75 : rfI 242 75 = some (.aload_n 0, (0, 0, 0, 0)) := by decide +kernel
theorem f_242_76 : rfI 242 76 = some (.getfield 290, (12, 30, 0, 0)) := by decide +kernel
theorem f_242_79 : rfI 242 79 = some (.goto 38, (0, 0, 0, 0)) := by decide +kernel
theorem f_242_82 : rfI 242 82 = some (.iload_n 2, (0, 0, 0, 0)) := by decide +kernel
theorem f_242_83 : rfI 242 83 = some (.iconst 2, (0, 0, 0, 0)) := by decide +kernel
theorem f_242_84 : rfI 242 84 = some (.if_icmp .ne 10, (0, 0, 0, 0)) := by decide +kernel
theorem f_242_87 : rfI 242 87 = some (.aload_n 0, (0, 0, 0, 0)) := by decide +kernel
theorem f_242_88 : rfI 242 88 = some (.invokevirtual 314, (241, 1, 11, 0)) := by decide +kernel
theorem f_242_91 : rfI 242 91 = some (.goto 26, (0, 0, 0, 0)) := by decide +kernel
theorem f_242_94 : rfI 242 94 = some (.iload_n 2, (0, 0, 0, 0)) := by decide +kernel
theorem f_242_95 : rfI 242 95 = some (.iconst 3, (0, 0, 0, 0)) := by decide +kernel
theorem f_242_96 : rfI 242 96 = some (.if_icmp .ne 10, (0, 0, 0, 0)) := by decide +kernel
theorem f_242_99 : rfI 242 99 = some (.aload_n 0, (0, 0, 0, 0)) := by decide +kernel
theorem f_242_100 : rfI 242 100 = some (.invokevirtual 317, (194, 1, 11, 0)) := by decide +kernel
theorem f_242_103 : rfI 242 103 = some (.goto 14, (0, 0, 0, 0)) := by decide +kernel
theorem f_242_106 : rfI 242 106 = some (.aload_n 0, (0, 0, 0, 0)) := by decide +kernel
theorem f_242_107 : rfI 242 107 = some (.getfield 7, (12, 0, 2, 0)) := by decide +kernel
theorem f_242_110 : rfI 242 110 = some (.iconst 0, (0, 0, 0, 0)) := by decide +kernel
theorem f_242_111 : rfI 242 111 = some (.iload_n 2, (0, 0, 0, 0)) := by decide +kernel
theorem f_242_112 : rfI 242 112 = some (.iadd, (0, 0, 0, 0)) := by decide +kernel
theorem f_242_113 : rfI 242 113 = some (.bipush 10, (0, 0, 0, 0)) := by decide +kernel
theorem f_242_115 : rfI 242 115 = some (.isub, (0, 0, 0, 0)) := by decide +kernel
theorem f_242_116 : rfI 242 116 = some (.iaload, (0, 0, 0, 0)) := by decide +kernel
theorem f_242_117 : rfI 242 117 = some (.istore_n 3, (0, 0, 0, 0)) := by decide +kernel
theorem f_242_118 : rfI 242 118 = some (.aload_n 0, (0, 0, 0, 0)) := by decide +kernel
theorem f_242_119 : rfI 242 119 = some (.getfield 13, (12, 1, 2, 0)) := by decide +kernel
theorem f_242_122 : rfI 242 122 = some (.aload_n 0, (0, 0, 0, 0)) := by decide +kernel
theorem f_242_123 : rfI 242 123 = some (.getfield 7, (12, 0, 2, 0)) := by decide +kernel
theorem f_242_126 : rfI 242 126 = some (.invokestatic 270, (186, 2, 10, 0)) := by decide +kernel
theorem f_242_129 : rfI 242 129 = some (.iload_n 3, (0, 0, 0, 0)) := by decide +kernel
theorem f_242_130 : rfI 242 130 = some (.ireturn, (0, 0, 0, 0)) := by decide +kernel
theorem f_243_0 : rfI 243 0 = some (.iconst 1, (0, 0, 0, 0)) := by decide +kernel
theorem f_243_1 : rfI 243 1 = some (.iload_n 1, (0, 0, 0, 0)) := by decide +kernel
theorem f_243_2 : rfI 243 2 = some (.ishl, (0, 0, 0, 0)) := by decide +kernel
theorem f_243_3 : rfI 243 3 = some (.istore_n 2, (0, 0, 0, 0)) := by decide +kernel
theorem f_243_4 : rfI 243 4 = some (.iconst 0, (0, 0, 0, 0)) := by decide +kernel
theorem f_243_5 : rfI 243 5 = some (.istore_n 3, (0, 0, 0, 0)) := by decide +kernel
theorem f_243_6 : rfI 243 6 = some (.iload_n 2, (0, 0, 0, 0)) := by decide +kernel
theorem f_243_7 : rfI 243 7 = some (.iload_n 3, (0, 0, 0, 0)) := by decide +kernel
theorem f_243_8 : rfI 243 8 = some (.if_icmp .eq 87, (0, 0, 0, 0)) := by decide +kernel
theorem f_243_11 : rfI 243 11 = some (.iload_n 2, (0, 0, 0, 0)) := by decide +kernel
theorem f_243_12 : rfI 243 12 = some (.istore_n 3, (0, 0, 0, 0)) := by decide +kernel
theorem f_243_13 : rfI 243 13 = some (.iconst 0, (0, 0, 0, 0)) := by decide +kernel
theorem f_243_14 : rfI 243 14 = some (.istore 4, (0, 0, 0, 0)) := by decide +kernel
theorem f_243_16 : rfI 243 16 = some (.iload 4, (0, 0, 0, 0)) := by decide +kernel
theorem f_243_18 : rfI 243 18 = some (.bipush 8, (0, 0, 0, 0)) := by decide +kernel
theorem f_243_20 : rfI 243 20 = some (.if_icmp .ge 72, (0, 0, 0, 0)) := by decide +kernel
theorem f_243_23 : rfI 243 23 = some (.iconst 0, (0, 0, 0, 0)) := by decide +kernel
theorem f_243_24 : rfI 243 24 = some (.istore 5, (0, 0, 0, 0)) := by decide +kernel
theorem f_243_26 : rfI 243 26 = some (.iconst 0, (0, 0, 0, 0)) := by decide +kernel
theorem f_243_27 : rfI 243 27 = some (.istore 6, (0, 0, 0, 0)) := by decide +kernel
theorem f_243_29 : rfI 243 29 = some (.iload 6, (0, 0, 0, 0)) := by decide +kernel
theorem f_243_31 : rfI 243 31 = some (.bipush 8, (0, 0, 0, 0)) := by decide +kernel
theorem f_243_33 : rfI 243 33 = some (.if_icmp .ge 39, (0, 0, 0, 0)) := by decide +kernel
theorem f_243_36 : rfI 243 36 = some (.iload 5, (0, 0, 0, 0)) := by decide +kernel
theorem f_243_38 : rfI 243 38 = some (.iload_n 3, (0, 0, 0, 0)) := by decide +kernel
theorem f_243_39 : rfI 243 39 = some (.iload 6, (0, 0, 0, 0)) := by decide +kernel
theorem f_243_41 : rfI 243 41 = some (.invokestatic 120, (184, 2, 10, 0)) := by decide +kernel
theorem f_243_44 : rfI 243 44 = some (.ifCond .eq 18, (0, 0, 0, 0)) := by decide +kernel
theorem f_243_47 : rfI 243 47 = some (.aload_n 0, (0, 0, 0, 0)) := by decide +kernel
theorem f_243_48 : rfI 243 48 = some (.getfield 7, (12, 0, 2, 0)) := by decide +kernel
theorem f_243_51 : rfI 243 51 = some (.iload 6, (0, 0, 0, 0)) := by decide +kernel
theorem f_243_53 : rfI 243 53 = some (.iload 4, (0, 0, 0, 0)) := by decide +kernel
theorem f_243_55 : rfI 243 55 = some (.invokestatic 145, (191, 2, 10, 0)) := by decide +kernel
theorem f_243_58 : rfI 243 58 = some (.iaload, (0, 0, 0, 0)) := by decide +kernel
theorem f_243_59 : rfI 243 59 = some (.goto 4, (0, 0, 0, 0)) := by decide +kernel
theorem f_243_62 : rfI 243 62 = some (.iconst 0, (0, 0, 0, 0)) := by decide +kernel
theorem f_243_63 : rfI 243 63 = some (.iadd, (0, 0, 0, 0)) := by decide +kernel
theorem f_243_64 : rfI 243 64 = some (.istore 5, (0, 0, 0, 0)) := by decide +kernel
theorem f_243_66 : rfI 243 66 = some (.iinc 6 1, (0, 0, 0, 0)) := by decide +kernel
theorem f_243_69 : rfI 243 69 = some (.goto (-40), (0, 0, 0, 0)) := by decide +kernel
theorem f_243_72 : rfI 243 72 = some (.iload 5, (0, 0, 0, 0)) := by decide +kernel
theorem f_243_74 : rfI 243 74 = some (.bipush 50, (0, 0, 0, 0)) := by decide +kernel
theorem f_243_76 : rfI 243 76 = some (.if_icmp .le 10, (0, 0, 0, 0)) := by decide +kernel
theorem f_243_79 : rfI 243 79 = some (.iload_n 2, (0, 0, 0, 0)) := by decide +kernel
theorem f_243_80 : rfI 243 80 = some (.iconst 1, (0, 0, 0, 0)) := by decide +kernel
theorem f_243_81 : rfI 243 81 = some (.iload 4, (0, 0, 0, 0)) := by decide +kernel
theorem f_243_83 : rfI 243 83 = some (.ishl, (0, 0, 0, 0)) := by decide +kernel
theorem f_243_84 : rfI 243 84 = some (.ior, (0, 0, 0, 0)) := by decide +kernel
theorem f_243_85 : rfI 243 85 = some (.istore_n 2, (0, 0, 0, 0)) := by decide +kernel
theorem f_243_86 : rfI 243 86 = some (.iinc 4 1, (0, 0, 0, 0)) := by decide +kernel
theorem f_243_89 : rfI 243 89 = some (.goto (-73), (0, 0, 0, 0)) := by decide +kernel
theorem f_243_92 : rfI 243 92 = some (.goto (-86), (0, 0, 0, 0)) := by decide +kernel
theorem f_243_95 : rfI 243 95 = some (.iload_n 2, (0, 0, 0, 0)) := by decide +kernel
theorem f_243_96 : rfI 243 96 = some (.iconst 1, (0, 0, 0, 0)) := by decide +kernel
theorem f_243_97 : rfI 243 97 = some (.iload_n 1, (0, 0, 0, 0)) := by decide +kernel
theorem f_243_98 : rfI 243 98 = some (.ishl, (0, 0, 0, 0)) := by decide +kernel
theorem f_243_99 : rfI 243 99 = some (.iconst (-1), (0, 0, 0, 0)) := by decide +kernel
theorem f_243_100 : rfI 243 100 = some (.ixor, (0, 0, 0, 0)) := by decide +kernel
theorem f_243_101 : rfI 243 101 = some (.iand, (0, 0, 0, 0)) := by decide +kernel
theorem f_243_102 : rfI 243 102 = some (.ireturn, (0, 0, 0, 0)) := by decide +kernel
theorem f_244_0 : rfI 244 0 = some (.iload_n 2, (0, 0, 0, 0)) := by decide +kernel
theorem f_244_1 : rfI 244 1 = some (.iconst 4, (0, 0, 0, 0)) := by decide +kernel
theorem f_244_2 : rfI 244 2 = some (.if_icmp .ne 23, (0, 0, 0, 0)) := by decide +kernel
theorem f_244_5 : rfI 244 5 = some (.aload_n 0, (0, 0, 0, 0)) := by decide +kernel
theorem f_244_6 : rfI 244 6 = some (.iload_n 1, (0, 0, 0, 0)) := by decide +kernel
theorem f_244_7 : rfI 244 7 = some (.invokevirtual 124, (187, 2, 11, 0)) := by decide +kernel
theorem f_244_10 : rfI 244 10 = some (.ifCond .eq 11, (0, 0, 0, 0)) := by decide +kernel
theorem f_244_13 : rfI 244 13 = some (.aload_n 0, (0, 0, 0, 0)) := by decide +kernel
theorem f_244_14 : rfI 244 14 = some (.iload_n 1, (0, 0, 0, 0)) := by decide +kernel
theorem f_244_15 : rfI 244 15 = some (.invokevirtual 320, (195, 2, 11, 0)) := by decide +kernel
theorem f_244_18 : rfI 244 18 = some (.goto 6, (0, 0, 0, 0)) := by decide +kernel
theorem f_244_21 : rfI 244 21 = some (.ldc_w 323, (4, 4, 4, (-1000000))) := by decide +kernel
theorem f_244_24 : rfI 244 24 = some (.ireturn, (0, 0, 0, 0)) := by decide +kernel
theorem f_244_25 : rfI 244 25 = some (.aload_n 0, (0, 0, 0, 0)) := by decide +kernel
theorem f_244_26 : rfI 244 26 = some (.iload_n 1, (0, 0, 0, 0)) := by decide +kernel
theorem f_244_27 : rfI 244 27 = some (.invokevirtual 124, (187, 2, 11, 0)) := by decide +kernel
theorem f_244_30 : rfI 244 30 = some (.ifCond .ne 5, (0, 0, 0, 0)) := by decide +kernel
theorem f_244_33 : rfI 244 33 = some (.iconst (-1), (0, 0, 0, 0)) := by decide +kernel
theorem f_244_34 : rfI 244 34 = some (.ireturn, (0, 0, 0, 0)) := by decide +kernel
theorem f_244_35 : rfI 244 35 = some (.iload_n 2, (0, 0, 0, 0)) := by decide +kernel
theorem f_244_36 : rfI 244 36 = some (.tableswitch 81 0 5 #[40, 49, 63, 69, 81, 75], (0, 0, 0, 0)) := by decide +kernel
theorem f_244_76 : rfI 244 76 = some (.aload_n 0, (0, 0, 0, 0)) := by decide +kernel
theorem f_244_77 : rfI 244 77 = some (.getfield 7, (12, 0, 2, 0)) := by decide +kernel
theorem f_244_80 : rfI 244 80 = some (.iconst 0, (0, 0, 0, 0)) := by decide +kernel
theorem f_244_81 : rfI 244 81 = some (.iload_n 1, (0, 0, 0, 0)) := by decide +kernel
theorem f_244_82 : rfI 244 82 = some (.iadd, (0, 0, 0, 0)) := by decide +kernel
theorem f_244_83 : rfI 244 83 = some (.iaload, (0, 0, 0, 0)) := by decide +kernel
theorem f_244_84 : rfI 244 84 = some (.ireturn, (0, 0, 0, 0)) := by decide +kernel
theorem f_244_85 : rfI 244 85 = some (.aload_n 0, (0, 0, 0, 0)) := by decide +kernel
theorem f_244_86 : rfI 244 86 = some (.iload_n 1, (0, 0, 0, 0)) := by decide +kernel
theorem f_244_87 : rfI 244 87 = some (.invokevirtual 128, (188, 2, 11, 0)) := by decide +kernel
theorem f_244_90 : rfI 244 90 = some (.ifCond .eq 7, (0, 0, 0, 0)) := by decide +kernel
theorem f_244_93 : rfI 244 93 = some (.iconst 1, (0, 0, 0, 0)) := by decide +kernel
theorem f_244_94 : rfI 244 94 = some (.goto 4, (0, 0, 0, 0)) := by decide +kernel
theorem f_244_97 : rfI 244 97 = some (.iconst 0, (0, 0, 0, 0)) := by decide +kernel
theorem f_244_98 : rfI 244 98 = some (.ireturn, (0, 0, 0, 0)) := by decide +kernel
theorem f_244_99 : rfI 244 99 = some (.aload_n 0, (0, 0, 0, 0)) := by decide +kernel
theorem f_244_100 : rfI 244 100 = some (.iload_n 1, (0, 0, 0, 0)) := by decide +kernel
theorem f_244_101 : rfI 244 101 = some (.invokevirtual 135, (192, 2, 11, 0)) := by decide +kernel
theorem f_244_104 : rfI 244 104 = some (.ireturn, (0, 0, 0, 0)) := by decide +kernel
theorem f_244_105 : rfI 244 105 = some (.aload_n 0, (0, 0, 0, 0)) := by decide +kernel
theorem f_244_106 : rfI 244 106 = some (.iload_n 1, (0, 0, 0, 0)) := by decide +kernel
theorem f_244_107 : rfI 244 107 = some (.invokevirtual 139, (193, 2, 11, 0)) := by decide +kernel
theorem f_244_110 : rfI 244 110 = some (.ireturn, (0, 0, 0, 0)) := by decide +kernel
theorem f_244_111 : rfI 244 111 = some (.aload_n 0, (0, 0, 0, 0)) := by decide +kernel
theorem f_244_112 : rfI 244 112 = some (.iload_n 1, (0, 0, 0, 0)) := by decide +kernel
theorem f_244_113 : rfI 244 113 = some (.invokevirtual 324, (243, 2, 11, 0)) := by decide +kernel
theorem f_244_116 : rfI 244 116 = some (.ireturn, (0, 0, 0, 0)) := by decide +kernel
theorem f_244_117 : rfI 244 117 = some (.iconst (-1), (0, 0, 0, 0)) := by decide +kernel
theorem f_244_118 : rfI 244 118 = some (.ireturn, (0, 0, 0, 0)) := by decide +kernel
theorem f_245_0 : rfI 245 0 = some (.aload_n 0, (0, 0, 0, 0)) := by decide +kernel
theorem f_245_1 : rfI 245 1 = some (.iload_n 1, (0, 0, 0, 0)) := by decide +kernel
theorem f_245_2 : rfI 245 2 = some (.invokevirtual 124, (187, 2, 11, 0)) := by decide +kernel
theorem f_245_5 : rfI 245 5 = some (.ifCond .eq 29, (0, 0, 0, 0)) := by decide +kernel
theorem f_245_8 : rfI 245 8 = some (.aload_n 0, (0, 0, 0, 0)) := by decide +kernel
theorem f_245_9 : rfI 245 9 = some (.iload_n 2, (0, 0, 0, 0)) := by decide +kernel
theorem f_245_10 : rfI 245 10 = some (.invokevirtual 124, (187, 2, 11, 0)) := by decide +kernel
theorem f_245_13 : rfI 245 13 = some (.ifCond .eq 21, (0, 0, 0, 0)) := by decide +kernel
theorem f_245_16 : rfI 245 16 = some (.iload_n 1, (0, 0, 0, 0)) := by decide +kernel
theorem f_245_17 : rfI 245 17 = some (.iload_n 2, (0, 0, 0, 0)) := by decide +kernel
theorem f_245_18 : rfI 245 18 = some (.if_icmp .eq 16, (0, 0, 0, 0)) := by decide +kernel
theorem f_245_21 : rfI 245 21 = some (.aload_n 0, (0, 0, 0, 0)) := by decide +kernel
theorem f_245_22 : rfI 245 22 = some (.getfield 7, (12, 0, 2, 0)) := by decide +kernel
theorem f_245_25 : rfI 245 25 = some (.iload_n 1, (0, 0, 0, 0)) := by decide +kernel
theorem f_245_26 : rfI 245 26 = some (.iload_n 2, (0, 0, 0, 0)) := by decide +kernel
theorem f_245_27 : rfI 245 27 = some (.invokestatic 131, (190, 2, 10, 0)) := by decide +kernel
theorem f_245_30 : rfI 245 30 = some (.iaload, (0, 0, 0, 0)) := by decide +kernel
theorem f_245_31 : rfI 245 31 = some (.goto 4, (0, 0, 0, 0)) := by decide +kernel
theorem f_245_34 : rfI 245 34 = some (.iconst (-1), (0, 0, 0, 0)) := by decide +kernel
theorem f_245_35 : rfI 245 35 = some (.ireturn, (0, 0, 0, 0)) := by decide +kernel
theorem f_246_0 : rfI 246 0 = some (.aload_n 0, (0, 0, 0, 0)) := by decide +kernel
theorem f_246_1 : rfI 246 1 = some (.iload_n 1, (0, 0, 0, 0)) := by decide +kernel
theorem f_246_2 : rfI 246 2 = some (.invokevirtual 124, (187, 2, 11, 0)) := by decide +kernel
theorem f_246_5 : rfI 246 5 = some (.ifCond .eq 29, (0, 0, 0, 0)) := by decide +kernel
theorem f_246_8 : rfI 246 8 = some (.aload_n 0, (0, 0, 0, 0)) := by decide +kernel
theorem f_246_9 : rfI 246 9 = some (.iload_n 2, (0, 0, 0, 0)) := by decide +kernel
theorem f_246_10 : rfI 246 10 = some (.invokevirtual 124, (187, 2, 11, 0)) := by decide +kernel
theorem f_246_13 : rfI 246 13 = some (.ifCond .eq 21, (0, 0, 0, 0)) := by decide +kernel
theorem f_246_16 : rfI 246 16 = some (.iload_n 1, (0, 0, 0, 0)) := by decide +kernel
theorem f_246_17 : rfI 246 17 = some (.iload_n 2, (0, 0, 0, 0)) := by decide +kernel
theorem f_246_18 : rfI 246 18 = some (.if_icmp .eq 16, (0, 0, 0, 0)) := by decide +kernel
theorem f_246_21 : rfI 246 21 = some (.aload_n 0, (0, 0, 0, 0)) := by decide +kernel
theorem f_246_22 : rfI 246 22 = some (.getfield 7, (12, 0, 2, 0)) := by decide +kernel
theorem f_246_25 : rfI 246 25 = some (.iload_n 1, (0, 0, 0, 0)) := by decide +kernel
theorem f_246_26 : rfI 246 26 = some (.iload_n 2, (0, 0, 0, 0)) := by decide +kernel
theorem f_246_27 : rfI 246 27 = some (.invokestatic 145, (191, 2, 10, 0)) := by decide +kernel
theorem f_246_30 : rfI 246 30 = some (.iaload, (0, 0, 0, 0)) := by decide +kernel
theorem f_246_31 : rfI 246 31 = some (.goto 4, (0, 0, 0, 0)) := by decide +kernel
theorem f_246_34 : rfI 246 34 = some (.iconst (-1), (0, 0, 0, 0)) := by decide +kernel
theorem f_246_35 : rfI 246 35 = some (.ireturn, (0, 0, 0, 0)) := by decide +kernel
theorem f_247_0 : rfI 247 0 = some (.iconst 0, (0, 0, 0, 0)) := by decide +kernel
theorem f_247_1 : rfI 247 1 = some (.istore_n 1, (0, 0, 0, 0)) := by decide +kernel
theorem f_247_2 : rfI 247 2 = some (.iload_n 1, (0, 0, 0, 0)) := by decide +kernel
theorem f_247_3 : rfI 247 3 = some (.bipush 8, (0, 0, 0, 0)) := by decide +kernel
theorem f_247_5 : rfI 247 5 = some (.if_icmp .ge 80, (0, 0, 0, 0)) := by decide +kernel
theorem f_247_8 : rfI 247 8 = some (.aload_n 0, (0, 0, 0, 0)) := by decide +kernel
theorem f_247_9 : rfI 247 9 = some (.getfield 68, (12, 32, 2, 0)) := by decide +kernel
theorem f_247_12 : rfI 247 12 = some (.iload_n 1, (0, 0, 0, 0)) := by decide +kernel
theorem f_247_13 : rfI 247 13 = some (.iconst 0, (0, 0, 0, 0)) := by decide +kernel
theorem f_247_14 : rfI 247 14 = some (.iastore, (0, 0, 0, 0)) := by decide +kernel
theorem f_247_15 : rfI 247 15 = some (.iconst 0, (0, 0, 0, 0)) := by decide +kernel
theorem f_247_16 : rfI 247 16 = some (.istore_n 2, (0, 0, 0, 0)) := by decide +kernel
theorem f_247_17 : rfI 247 17 = some (.iload_n 2, (0, 0, 0, 0)) := by decide +kernel
theorem f_247_18 : rfI 247 18 = some (.bipush 8, (0, 0, 0, 0)) := by decide +kernel
theorem f_247_20 : rfI 247 20 = some (.if_icmp .ge 59, (0, 0, 0, 0)) := by decide +kernel
theorem f_247_23 : rfI 247 23 = some (.aload_n 0, (0, 0, 0, 0)) := by decide +kernel
theorem f_247_24 : rfI 247 24 = some (.getfield 7, (12, 0, 2, 0)) := by decide +kernel
theorem f_247_27 : rfI 247 27 = some (.iload_n 2, (0, 0, 0, 0)) := by decide +kernel
theorem f_247_28 : rfI 247 28 = some (.iload_n 1, (0, 0, 0, 0)) := by decide +kernel
theorem f_247_29 : rfI 247 29 = some (.invokestatic 131, (190, 2, 10, 0)) := by decide +kernel
theorem f_247_32 : rfI 247 32 = some (.iaload, (0, 0, 0, 0)) := by decide +kernel
theorem f_247_33 : rfI 247 33 = some (.ifCond .le 40, (0, 0, 0, 0)) := by decide +kernel
theorem f_247_36 : rfI 247 36 = some (.aload_n 0, (0, 0, 0, 0)) := by decide +kernel
theorem f_247_37 : rfI 247 37 = some (.getfield 68, (12, 32, 2, 0)) := by decide +kernel
theorem f_247_40 : rfI 247 40 = some (.iload_n 1, (0, 0, 0, 0)) := by decide +kernel
theorem f_247_41 : rfI 247 41 = some (.aload_n 0, (0, 0, 0, 0)) := by decide +kernel
theorem f_247_42 : rfI 247 42 = some (.getfield 68, (12, 32, 2, 0)) := by decide +kernel
theorem f_247_45 : rfI 247 45 = some (.iload_n 1, (0, 0, 0, 0)) := by decide +kernel
theorem f_247_46 : rfI 247 46 = some (.iaload, (0, 0, 0, 0)) := by decide +kernel
theorem f_247_47 : rfI 247 47 = some (.aload_n 0, (0, 0, 0, 0)) := by decide +kernel
theorem f_247_48 : rfI 247 48 = some (.getfield 7, (12, 0, 2, 0)) := by decide +kernel
theorem f_247_51 : rfI 247 51 = some (.iload_n 2, (0, 0, 0, 0)) := by decide +kernel
theorem f_247_52 : rfI 247 52 = some (.iload_n 1, (0, 0, 0, 0)) := by decide +kernel
theorem f_247_53 : rfI 247 53 = some (.invokestatic 131, (190, 2, 10, 0)) := by decide +kernel
theorem f_247_56 : rfI 247 56 = some (.iaload, (0, 0, 0, 0)) := by decide +kernel
theorem f_247_57 : rfI 247 57 = some (.aload_n 0, (0, 0, 0, 0)) := by decide +kernel
theorem f_247_58 : rfI 247 58 = some (.getfield 65, (12, 31, 2, 0)) := by decide +kernel
theorem f_247_61 : rfI 247 61 = some (.iload_n 2, (0, 0, 0, 0)) := by decide +kernel
theorem f_247_62 : rfI 247 62 = some (.iaload, (0, 0, 0, 0)) := by decide +kernel
theorem f_247_63 : rfI 247 63 = some (.imul, (0, 0, 0, 0)) := by decide +kernel
theorem f_247_64 : rfI 247 64 = some (.aload_n 0, (0, 0, 0, 0)) := by decide +kernel
theorem f_247_65 : rfI 247 65 = some (.getfield 71, (12, 33, 2, 0)) := by decide +kernel
theorem f_247_68 : rfI 247 68 = some (.iload_n 2, (0, 0, 0, 0)) := by decide +kernel
theorem f_247_69 : rfI 247 69 = some (.iaload, (0, 0, 0, 0)) := by decide +kernel
theorem f_247_70 : rfI 247 70 = some (.idiv, (0, 0, 0, 0)) := by decide +kernel
theorem f_247_71 : rfI 247 71 = some (.iadd, (0, 0, 0, 0)) := by decide +kernel
theorem f_247_72 : rfI 247 72 = some (.iastore, (0, 0, 0, 0)) := by decide +kernel
theorem f_247_73 : rfI 247 73 = some (.iinc 2 1, (0, 0, 0, 0)) := by decide +kernel
theorem f_247_76 : rfI 247 76 = some (.goto (-59), (0, 0, 0, 0)) := by decide +kernel
theorem f_247_79 : rfI 247 79 = some (.iinc 1 1, (0, 0, 0, 0)) := by decide +kernel
theorem f_247_82 : rfI 247 82 = some (.goto (-80), (0, 0, 0, 0)) := by decide +kernel
theorem f_247_85 : rfI 247 85 = some (.return_, (0, 0, 0, 0)) := by decide +kernel
theorem f_248_0 : rfI 248 0 = some (.iconst 0, (0, 0, 0, 0)) := by decide +kernel
theorem f_248_1 : rfI 248 1 = some (.istore_n 1, (0, 0, 0, 0)) := by decide +kernel
theorem f_248_2 : rfI 248 2 = some (.aload_n 0, (0, 0, 0, 0)) := by decide +kernel
theorem f_248_3 : rfI 248 3 = some (.invokevirtual 327, (247, 1, 11, 0)) := by decide +kernel
theorem f_248_6 : rfI 248 6 = some (.iconst 0, (0, 0, 0, 0)) := by decide +kernel
theorem f_248_7 : rfI 248 7 = some (.istore_n 2, (0, 0, 0, 0)) := by decide +kernel
theorem f_248_8 : rfI 248 8 = some (.iload_n 2, (0, 0, 0, 0)) := by decide +kernel
theorem f_248_9 : rfI 248 9 = some (.bipush 8, (0, 0, 0, 0)) := by decide +kernel
theorem f_248_11 : rfI 248 11 = some (.if_icmp .ge 77, (0, 0, 0, 0)) := by decide +kernel
theorem f_248_14 : rfI 248 14 = some (.aload_n 0, (0, 0, 0, 0)) := by decide +kernel
theorem f_248_15 : rfI 248 15 = some (.getfield 71, (12, 33, 2, 0)) := by decide +kernel
theorem f_248_18 : rfI 248 18 = some (.iload_n 2, (0, 0, 0, 0)) := by decide +kernel
theorem f_248_19 : rfI 248 19 = some (.iaload, (0, 0, 0, 0)) := by decide +kernel
theorem f_248_20 : rfI 248 20 = some (.aload_n 0, (0, 0, 0, 0)) := by decide +kernel
theorem f_248_21 : rfI 248 21 = some (.getfield 77, (12, 35, 2, 0)) := by decide +kernel
theorem f_248_24 : rfI 248 24 = some (.iload_n 2, (0, 0, 0, 0)) := by decide +kernel
theorem f_248_25 : rfI 248 25 = some (.iaload, (0, 0, 0, 0)) := by decide +kernel
theorem f_248_26 : rfI 248 26 = some (.aload_n 0, (0, 0, 0, 0)) := by decide +kernel
theorem f_248_27 : rfI 248 27 = some (.getfield 68, (12, 32, 2, 0)) := by decide +kernel
theorem f_248_30 : rfI 248 30 = some (.iload_n 2, (0, 0, 0, 0)) := by decide +kernel
theorem f_248_31 : rfI 248 31 = some (.iaload, (0, 0, 0, 0)) := by decide +kernel
theorem f_248_32 : rfI 248 32 = some (.iadd, (0, 0, 0, 0)) := by decide +kernel
theorem f_248_33 : rfI 248 33 = some (.invokestatic 293, (182, 2, 10, 0)) := by decide +kernel
theorem f_248_36 : rfI 248 36 = some (.istore_n 3, (0, 0, 0, 0)) := by decide +kernel
theorem f_248_37 : rfI 248 37 = some (.iload_n 3, (0, 0, 0, 0)) := by decide +kernel
theorem f_248_38 : rfI 248 38 = some (.aload_n 0, (0, 0, 0, 0)) := by decide +kernel
theorem f_248_39 : rfI 248 39 = some (.getfield 65, (12, 31, 2, 0)) := by decide +kernel
theorem f_248_42 : rfI 248 42 = some (.iload_n 2, (0, 0, 0, 0)) := by decide +kernel
theorem f_248_43 : rfI 248 43 = some (.iaload, (0, 0, 0, 0)) := by decide +kernel
theorem f_248_44 : rfI 248 44 = some (.if_icmp .lt 6, (0, 0, 0, 0)) := by decide +kernel
theorem f_248_47 : rfI 248 47 = some (.goto 35, (0, 0, 0, 0)) := by decide +kernel
theorem f_248_50 : rfI 248 50 = some (.aload_n 0, (0, 0, 0, 0)) := by decide +kernel
theorem f_248_51 : rfI 248 51 = some (.getfield 65, (12, 31, 2, 0)) := by decide +kernel
theorem f_248_54 : rfI 248 54 = some (.iload_n 2, (0, 0, 0, 0)) := by decide +kernel
theorem f_248_55 : rfI 248 55 = some (.iload_n 3, (0, 0, 0, 0)) := by decide +kernel
theorem f_248_56 : rfI 248 56 = some (.iastore, (0, 0, 0, 0)) := by decide +kernel
theorem f_248_57 : rfI 248 57 = some (.iconst 1, (0, 0, 0, 0)) := by decide +kernel
theorem f_248_58 : rfI 248 58 = some (.istore_n 1, (0, 0, 0, 0)) := by decide +kernel
theorem f_248_59 : rfI 248 59 = some (.aload_n 0, (0, 0, 0, 0)) := by decide +kernel
theorem f_248_60 : rfI 248 60 = some (.getfield 74, (12, 34, 2, 0)) := by decide +kernel
theorem f_248_63 : rfI 248 63 = some (.iload_n 2, (0, 0, 0, 0)) := by decide +kernel
theorem f_248_64 : rfI 248 64 = some (.iaload, (0, 0, 0, 0)) := by decide +kernel
theorem f_248_65 : rfI 248 65 = some (.bipush (-2), (0, 0, 0, 0)) := by decide +kernel
theorem f_248_67 : rfI 248 67 = some (.if_icmp .ne 15, (0, 0, 0, 0)) := by decide +kernel
theorem f_248_70 : rfI 248 70 = some (.aload_n 0, (0, 0, 0, 0)) := by decide +kernel
theorem f_248_71 : rfI 248 71 = some (.getfield 74, (12, 34, 2, 0)) := by decide +kernel
theorem f_248_74 : rfI 248 74 = some (.iload_n 2, (0, 0, 0, 0)) := by decide +kernel
theorem f_248_75 : rfI 248 75 = some (.aload_n 0, (0, 0, 0, 0)) := by decide +kernel
theorem f_248_76 : rfI 248 76 = some (.getfield 330, (12, 36, 0, 0)) := by decide +kernel
theorem f_248_79 : rfI 248 79 = some (.iconst 1, (0, 0, 0, 0)) := by decide +kernel
theorem f_248_80 : rfI 248 80 = some (.iadd, (0, 0, 0, 0)) := by decide +kernel
theorem f_248_81 : rfI 248 81 = some (.iastore, (0, 0, 0, 0)) := by decide +kernel
theorem f_248_82 : rfI 248 82 = some (.iinc 2 1, (0, 0, 0, 0)) := by decide +kernel
theorem f_248_85 : rfI 248 85 = some (.goto (-77), (0, 0, 0, 0)) := by decide +kernel
theorem f_248_88 : rfI 248 88 = some (.iload_n 1, (0, 0, 0, 0)) := by decide +kernel
theorem f_248_89 : rfI 248 89 = some (.ireturn, (0, 0, 0, 0)) := by decide +kernel
theorem f_249_0 : rfI 249 0 = some (.iconst 0, (0, 0, 0, 0)) := by decide +kernel
theorem f_249_1 : rfI 249 1 = some (.istore_n 3, (0, 0, 0, 0)) := by decide +kernel
theorem f_249_2 : rfI 249 2 = some (.iload_n 3, (0, 0, 0, 0)) := by decide +kernel
theorem f_249_3 : rfI 249 3 = some (.bipush 8, (0, 0, 0, 0)) := by decide +kernel
theorem f_249_5 : rfI 249 5 = some (.if_icmp .ge 69, (0, 0, 0, 0)) := by decide +kernel
theorem f_249_8 : rfI 249 8 = some (.aload_n 0, (0, 0, 0, 0)) := by decide +kernel
theorem f_249_9 : rfI 249 9 = some (.getfield 71, (12, 33, 2, 0)) := by decide +kernel
theorem f_249_12 : rfI 249 12 = some (.iload_n 3, (0, 0, 0, 0)) := by decide +kernel
theorem f_249_13 : rfI 249 13 = some (.aload_n 0, (0, 0, 0, 0)) := by decide +kernel
theorem f_249_14 : rfI 249 14 = some (.iload_n 3, (0, 0, 0, 0)) := by decide +kernel
theorem f_249_15 : rfI 249 15 = some (.invokevirtual 135, (192, 2, 11, 0)) := by decide +kernel
theorem f_249_18 : rfI 249 18 = some (.iastore, (0, 0, 0, 0)) := by decide +kernel
theorem f_249_19 : rfI 249 19 = some (.aload_n 0, (0, 0, 0, 0)) := by decide +kernel
theorem f_249_20 : rfI 249 20 = some (.getfield 65, (12, 31, 2, 0)) := by decide +kernel
theorem f_249_23 : rfI 249 23 = some (.iload_n 3, (0, 0, 0, 0)) := by decide +kernel
theorem f_249_24 : rfI 249 24 = some (.aload_n 0, (0, 0, 0, 0)) := by decide +kernel
theorem f_249_25 : rfI 249 25 = some (.getfield 71, (12, 33, 2, 0)) := by decide +kernel
theorem f_249_28 : rfI 249 28 = some (.iload_n 3, (0, 0, 0, 0)) := by decide +kernel
theorem f_249_29 : rfI 249 29 = some (.iaload, (0, 0, 0, 0)) := by decide +kernel
theorem f_249_30 : rfI 249 30 = some (.iastore, (0, 0, 0, 0)) := by decide +kernel
theorem f_249_31 : rfI 249 31 = some (.aload_n 0, (0, 0, 0, 0)) := by decide +kernel
theorem f_249_32 : rfI 249 32 = some (.getfield 74, (12, 34, 2, 0)) := by decide +kernel
theorem f_249_35 : rfI 249 35 = some (.iload_n 3, (0, 0, 0, 0)) := by decide +kernel
theorem f_249_36 : rfI 249 36 = some (.bipush (-2), (0, 0, 0, 0)) := by decide +kernel
theorem f_249_38 : rfI 249 38 = some (.iastore, (0, 0, 0, 0)) := by decide +kernel
theorem f_249_39 : rfI 249 39 = some (.aload_n 0, (0, 0, 0, 0)) := by decide +kernel
theorem f_249_40 : rfI 249 40 = some (.getfield 77, (12, 35, 2, 0)) := by decide +kernel
theorem f_249_43 : rfI 249 43 = some (.iload_n 3, (0, 0, 0, 0)) := by decide +kernel
theorem f_249_44 : rfI 249 44 = some (.iconst 0, (0, 0, 0, 0)) := by decide +kernel
theorem f_249_45 : rfI 249 45 = some (.aload_n 0, (0, 0, 0, 0)) := by decide +kernel
theorem f_249_46 : rfI 249 46 = some (.getfield 7, (12, 0, 2, 0)) := by decide +kernel
theorem f_249_49 : rfI 249 49 = some (.iconst 0, (0, 0, 0, 0)) := by decide +kernel
theorem f_249_50 : rfI 249 50 = some (.iload_n 3, (0, 0, 0, 0)) := by decide +kernel
theorem f_249_51 : rfI 249 51 = some (.iadd, (0, 0, 0, 0)) := by decide +kernel
theorem f_249_52 : rfI 249 52 = some (.iaload, (0, 0, 0, 0)) := by decide +kernel
theorem f_249_53 : rfI 249 53 = some (.iload_n 3, (0, 0, 0, 0)) := by decide +kernel
theorem f_249_54 : rfI 249 54 = some (.iload_n 1, (0, 0, 0, 0)) := by decide +kernel
theorem f_249_55 : rfI 249 55 = some (.if_icmp .ne 7, (0, 0, 0, 0)) := by decide +kernel
theorem f_249_58 : rfI 249 58 = some (.iload_n 2, (0, 0, 0, 0)) := by decide +kernel
theorem f_249_59 : rfI 249 59 = some (.goto 4, (0, 0, 0, 0)) := by decide +kernel
theorem f_249_62 : rfI 249 62 = some (.iconst 0, (0, 0, 0, 0)) := by decide +kernel
theorem f_249_63 : rfI 249 63 = some (.iadd, (0, 0, 0, 0)) := by decide +kernel
theorem f_249_64 : rfI 249 64 = some (.invokestatic 333, (183, 2, 10, 0)) := by decide +kernel
theorem f_249_67 : rfI 249 67 = some (.iastore, (0, 0, 0, 0)) := by decide +kernel
theorem f_249_68 : rfI 249 68 = some (.iinc 3 1, (0, 0, 0, 0)) := by decide +kernel
theorem f_249_71 : rfI 249 71 = some (.goto (-69), (0, 0, 0, 0)) := by decide +kernel
theorem f_249_74 : rfI 249 74 = some (.aload_n 0, (0, 0, 0, 0)) := by decide +kernel
theorem f_249_75 : rfI 249 75 = some (.iconst 0, (0, 0, 0, 0)) := by decide +kernel
theorem f_249_76 : rfI 249 76 = some (.putfield 330, (12, 36, 0, 0)) := by decide +kernel
theorem f_249_79 : rfI 249 79 = some (.aload_n 0, (0, 0, 0, 0)) := by decide +kernel
theorem f_249_80 : rfI 249 80 = some (.invokevirtual 336, (248, 1, 11, 0)) := by decide +kernel
theorem f_249_83 : rfI 249 83 = some (.ifCond .eq 16, (0, 0, 0, 0)) := by decide +kernel
theorem f_249_86 : rfI 249 86 = some (.aload_n 0, (0, 0, 0, 0)) := by decide +kernel
theorem f_249_87 : rfI 249 87 = some (.aload_n 0, (0, 0, 0, 0)) := by decide +kernel
theorem f_249_88 : rfI 249 88 = some (.getfield 330, (12, 36, 0, 0)) := by decide +kernel
theorem f_249_91 : rfI 249 91 = some (.iconst 1, (0, 0, 0, 0)) := by decide +kernel
theorem f_249_92 : rfI 249 92 = some (.iadd, (0, 0, 0, 0)) := by decide +kernel
theorem f_249_93 : rfI 249 93 = some (.putfield 330, (12, 36, 0, 0)) := by decide +kernel
theorem f_249_96 : rfI 249 96 = some (.goto (-17), (0, 0, 0, 0)) := by decide +kernel
theorem f_249_99 : rfI 249 99 = some (.iconst 0, (0, 0, 0, 0)) := by decide +kernel
theorem f_249_100 : rfI 249 100 = some (.istore_n 3, (0, 0, 0, 0)) := by decide +kernel
theorem f_249_101 : rfI 249 101 = some (.iconst 0, (0, 0, 0, 0)) := by decide +kernel
theorem f_249_102 : rfI 249 102 = some (.istore 4, (0, 0, 0, 0)) := by decide +kernel
theorem f_249_104 : rfI 249 104 = some (.iload 4, (0, 0, 0, 0)) := by decide +kernel
theorem f_249_106 : rfI 249 106 = some (.bipush 8, (0, 0, 0, 0)) := by decide +kernel
theorem f_249_108 : rfI 249 108 = some (.if_icmp .ge 33, (0, 0, 0, 0)) := by decide +kernel
theorem f_249_111 : rfI 249 111 = some (.aload_n 0, (0, 0, 0, 0)) := by decide +kernel
theorem f_249_112 : rfI 249 112 = some (.getfield 65, (12, 31, 2, 0)) := by decide +kernel
theorem f_249_115 : rfI 249 115 = some (.iload 4, (0, 0, 0, 0)) := by decide +kernel
theorem f_249_117 : rfI 249 117 = some (.iaload, (0, 0, 0, 0)) := by decide +kernel
theorem f_249_118 : rfI 249 118 = some (.aload_n 0, (0, 0, 0, 0)) := by decide +kernel
theorem f_249_119 : rfI 249 119 = some (.getfield 71, (12, 33, 2, 0)) := by decide +kernel
theorem f_249_122 : rfI 249 122 = some (.iload 4, (0, 0, 0, 0)) := by decide +kernel
theorem f_249_124 : rfI 249 124 = some (.iaload, (0, 0, 0, 0)) := by decide +kernel
theorem f_249_125 : rfI 249 125 = some (.if_icmp .ge 10, (0, 0, 0, 0)) := by decide +kernel
theorem f_249_128 : rfI 249 128 = some (.iload_n 3, (0, 0, 0, 0)) := by decide +kernel
theorem f_249_129 : rfI 249 129 = some (.iconst 1, (0, 0, 0, 0)) := by decide +kernel
theorem f_249_130 : rfI 249 130 = some (.iload 4, (0, 0, 0, 0)) := by decide +kernel
theorem f_249_132 : rfI 249 132 = some (.ishl, (0, 0, 0, 0)) := by decide +kernel
theorem f_249_133 : rfI 249 133 = some (.ior, (0, 0, 0, 0)) := by decide +kernel
theorem f_249_134 : rfI 249 134 = some (.istore_n 3, (0, 0, 0, 0)) := by decide +kernel
theorem f_249_135 : rfI 249 135 = some (.iinc 4 1, (0, 0, 0, 0)) := by decide +kernel
theorem f_249_138 : rfI 249 138 = some (.goto (-34), (0, 0, 0, 0)) := by decide +kernel
theorem f_249_141 : rfI 249 141 = some (.iload_n 3, (0, 0, 0, 0)) := by decide +kernel
theorem f_249_142 : rfI 249 142 = some (.ireturn, (0, 0, 0, 0)) := by decide +kernel
theorem f_250_0 : rfI 250 0 = some (.aload_n 0, (0, 0, 0, 0)) := by decide +kernel
theorem f_250_1 : rfI 250 1 = some (.iconst (-1), (0, 0, 0, 0)) := by decide +kernel
theorem f_250_2 : rfI 250 2 = some (.iconst 0, (0, 0, 0, 0)) := by decide +kernel
theorem f_250_3 : rfI 250 3 = some (.invokevirtual 339, (249, 3, 11, 0)) := by decide +kernel
theorem f_250_6 : rfI 250 6 = some (.istore_n 2, (0, 0, 0, 0)) := by decide +kernel
theorem f_250_7 : rfI 250 7 = some (.iload_n 1, (0, 0, 0, 0)) := by decide +kernel
theorem f_250_8 : rfI 250 8 = some (.iconst 0, (0, 0, 0, 0)) := by decide +kernel
theorem f_250_9 : rfI 250 9 = some (.iconst 1, (0, 0, 0, 0)) := by decide +kernel
theorem f_250_10 : rfI 250 10 = some (.invokestatic 116, (181, 3, 10, 0)) := by decide +kernel
theorem f_250_13 : rfI 250 13 = some (.ifCond .eq 16, (0, 0, 0, 0)) := by decide +kernel
theorem f_250_16 : rfI 250 16 = some (.iload_n 1, (0, 0, 0, 0)) := by decide +kernel
theorem f_250_17 : rfI 250 17 = some (.ifCond .ne 7, (0, 0, 0, 0)) := by decide +kernel
theorem f_250_20 : rfI 250 20 = some (.iload_n 2, (0, 0, 0, 0)) := by decide +kernel
theorem f_250_21 : rfI 250 21 = some (.goto 7, (0, 0, 0, 0)) := by decide +kernel
theorem f_250_24 : rfI 250 24 = some (.aload_n 0, (0, 0, 0, 0)) := by decide +kernel
theorem f_250_25 : rfI 250 25 = some (.getfield 330, (12, 36, 0, 0)) := by decide +kernel
theorem f_250_28 : rfI 250 28 = some (.ireturn, (0, 0, 0, 0)) := by decide +kernel
theorem f_250_29 : rfI 250 29 = some (.iload_n 1, (0, 0, 0, 0)) := by decide +kernel
theorem f_250_30 : rfI 250 30 = some (.bipush 10, (0, 0, 0, 0)) := by decide +kernel
theorem f_250_32 : rfI 250 32 = some (.bipush 17, (0, 0, 0, 0)) := by decide +kernel
theorem f_250_34 : rfI 250 34 = some (.invokestatic 116, (181, 3, 10, 0)) := by decide +kernel
theorem f_250_37 : rfI 250 37 = some (.ifCond .eq 24, (0, 0, 0, 0)) := by decide +kernel
theorem f_250_40 : rfI 250 40 = some (.aload_n 0, (0, 0, 0, 0)) := by decide +kernel
theorem f_250_41 : rfI 250 41 = some (.iload_n 1, (0, 0, 0, 0)) := by decide +kernel
theorem f_250_42 : rfI 250 42 = some (.bipush 10, (0, 0, 0, 0)) := by decide +kernel
theorem f_250_44 : rfI 250 44 = some (.isub, (0, 0, 0, 0)) := by decide +kernel
theorem f_250_45 : rfI 250 45 = some (.invokevirtual 124, (187, 2, 11, 0)) := by decide +kernel
theorem f_250_48 : rfI 250 48 = some (.ifCond .eq 13, (0, 0, 0, 0)) := by decide +kernel
theorem f_250_51 : rfI 250 51 = some (.aload_n 0, (0, 0, 0, 0)) := by decide +kernel
theorem f_250_52 : rfI 250 52 = some (.getfield 65, (12, 31, 2, 0)) := by decide +kernel
theorem f_250_55 : rfI 250 55 = some (.iload_n 1, (0, 0, 0, 0)) := by decide +kernel
theorem f_250_56 : rfI 250 56 = some (.bipush 10, (0, 0, 0, 0)) := by decide +kernel
theorem f_250_58 : rfI 250 58 = some (.isub, (0, 0, 0, 0)) := by decide +kernel
theorem f_250_59 : rfI 250 59 = some (.iaload, (0, 0, 0, 0)) := by decide +kernel
theorem f_250_60 : rfI 250 60 = some (.ireturn, (0, 0, 0, 0)) := by decide +kernel
theorem f_250_61 : rfI 250 61 = some (.iload_n 1, (0, 0, 0, 0)) := by decide +kernel
theorem f_250_62 : rfI 250 62 = some (.bipush 20, (0, 0, 0, 0)) := by decide +kernel
theorem f_250_64 : rfI 250 64 = some (.bipush 27, (0, 0, 0, 0)) := by decide +kernel
theorem f_250_66 : rfI 250 66 = some (.invokestatic 116, (181, 3, 10, 0)) := by decide +kernel
theorem f_250_69 : rfI 250 69 = some (.ifCond .eq 26, (0, 0, 0, 0)) := by decide +kernel
theorem f_250_72 : rfI 250 72 = some (.aload_n 0, (0, 0, 0, 0)) := by decide +kernel
theorem f_250_73 : rfI 250 73 = some (.iload_n 1, (0, 0, 0, 0)) := by decide +kernel
theorem f_250_74 : rfI 250 74 = some (.bipush 20, (0, 0, 0, 0)) := by decide +kernel
theorem f_250_76 : rfI 250 76 = some (.isub, (0, 0, 0, 0)) := by decide +kernel
theorem f_250_77 : rfI 250 77 = some (.invokevirtual 124, (187, 2, 11, 0)) := by decide +kernel
theorem f_250_80 : rfI 250 80 = some (.ifCond .eq 15, (0, 0, 0, 0)) := by decide +kernel
theorem f_250_83 : rfI 250 83 = some (.aload_n 0, (0, 0, 0, 0)) := by decide +kernel
theorem f_250_84 : rfI 250 84 = some (.getfield 68, (12, 32, 2, 0)) := by decide +kernel
theorem f_250_87 : rfI 250 87 = some (.iload_n 1, (0, 0, 0, 0)) := by decide +kernel
theorem f_250_88 : rfI 250 88 = some (.bipush 20, (0, 0, 0, 0)) := by decide +kernel
theorem f_250_90 : rfI 250 90 = some (.isub, (0, 0, 0, 0)) := by decide +kernel
theorem f_250_91 : rfI 250 91 = some (.iaload, (0, 0, 0, 0)) := by decide +kernel
theorem f_250_92 : rfI 250 92 = some (.goto 4, (0, 0, 0, 0)) := by decide +kernel
theorem f_250_95 : rfI 250 95 = some (.iconst (-1), (0, 0, 0, 0)) := by decide +kernel
theorem f_250_96 : rfI 250 96 = some (.ireturn, (0, 0, 0, 0)) := by decide +kernel
theorem f_251_0 : rfI 251 0 = some (.aload_n 0, (0, 0, 0, 0)) := by decide +kernel
theorem f_251_1 : rfI 251 1 = some (.iload_n 1, (0, 0, 0, 0)) := by decide +kernel
theorem f_251_2 : rfI 251 2 = some (.invokevirtual 124, (187, 2, 11, 0)) := by decide +kernel
theorem f_251_5 : rfI 251 5 = some (.ifCond .ne 5, (0, 0, 0, 0)) := by decide +kernel
theorem f_251_8 : rfI 251 8 = some (.iconst (-1), (0, 0, 0, 0)) := by decide +kernel
theorem f_251_9 : rfI 251 9 = some (.ireturn, (0, 0, 0, 0)) := by decide +kernel
theorem f_251_10 : rfI 251 10 = some (.aload_n 0, (0, 0, 0, 0)) := by decide +kernel
theorem f_251_11 : rfI 251 11 = some (.iconst (-1), (0, 0, 0, 0)) := by decide +kernel
theorem f_251_12 : rfI 251 12 = some (.iconst 0, (0, 0, 0, 0)) := by decide +kernel
theorem f_251_13 : rfI 251 13 = some (.invokevirtual 339, (249, 3, 11, 0)) := by decide +kernel
theorem f_251_16 : rfI 251 16 = some (.pop, (0, 0, 0, 0)) := by decide +kernel
theorem f_251_17 : rfI 251 17 = some (.aload_n 0, (0, 0, 0, 0)) := by decide +kernel
theorem f_251_18 : rfI 251 18 = some (.getfield 74, (12, 34, 2, 0)) := by decide +kernel
theorem f_251_21 : rfI 251 21 = some (.iload_n 1, (0, 0, 0, 0)) := by decide +kernel
theorem f_251_22 : rfI 251 22 = some (.iaload, (0, 0, 0, 0)) := by decide +kernel
theorem f_251_23 : rfI 251 23 = some (.ireturn, (0, 0, 0, 0)) := by decide +kernel
theorem f_252_0 : rfI 252 0 = some (.iload_n 1, (0, 0, 0, 0)) := by decide +kernel
theorem f_252_1 : rfI 252 1 = some (.iconst 0, (0, 0, 0, 0)) := by decide +kernel
theorem f_252_2 : rfI 252 2 = some (.iconst 1, (0, 0, 0, 0)) := by decide +kernel
theorem f_252_3 : rfI 252 3 = some (.invokestatic 116, (181, 3, 10, 0)) := by decide +kernel
theorem f_252_6 : rfI 252 6 = some (.ifCond .ne 5, (0, 0, 0, 0)) := by decide +kernel
theorem f_252_9 : rfI 252 9 = some (.iconst (-1), (0, 0, 0, 0)) := by decide +kernel
theorem f_252_10 : rfI 252 10 = some (.ireturn, (0, 0, 0, 0)) := by decide +kernel
theorem f_252_11 : rfI 252 11 = some (.bipush (-2), (0, 0, 0, 0)) := by decide +kernel
theorem f_252_13 : rfI 252 13 = some (.istore_n 2, (0, 0, 0, 0)) := by decide +kernel
theorem f_252_14 : rfI 252 14 = some (.iconst 0, (0, 0, 0, 0)) := by decide +kernel
theorem f_252_15 : rfI 252 15 = some (.istore_n 3, (0, 0, 0, 0)) := by decide +kernel
theorem f_252_16 : rfI 252 16 = some (.iconst 0, (0, 0, 0, 0)) := by decide +kernel
theorem f_252_17 : rfI 252 17 = some (.istore 4, (0, 0, 0, 0)) := by decide +kernel
theorem f_252_19 : rfI 252 19 = some (.iload 4, (0, 0, 0, 0)) := by decide +kernel
theorem f_252_21 : rfI 252 21 = some (.bipush 8, (0, 0, 0, 0)) := by decide +kernel
theorem f_252_23 : rfI 252 23 = some (.if_icmp .ge 56, (0, 0, 0, 0)) := by decide +kernel
theorem f_252_26 : rfI 252 26 = some (.aload_n 0, (0, 0, 0, 0)) := by decide +kernel
theorem f_252_27 : rfI 252 27 = some (.iload 4, (0, 0, 0, 0)) := by decide +kernel
theorem f_252_29 : rfI 252 29 = some (.invokevirtual 128, (188, 2, 11, 0)) := by decide +kernel
theorem f_252_32 : rfI 252 32 = some (.ifCond .ne 6, (0, 0, 0, 0)) := by decide +kernel
theorem f_252_35 : rfI 252 35 = some (.goto 38, (0, 0, 0, 0)) := by decide +kernel
theorem f_252_38 : rfI 252 38 = some (.aload_n 0, (0, 0, 0, 0)) := by decide +kernel
theorem f_252_39 : rfI 252 39 = some (.iload 4, (0, 0, 0, 0)) := by decide +kernel
theorem f_252_41 : rfI 252 41 = some (.sipush (-9999), (0, 0, 0, 0)) := by decide +kernel
theorem f_252_44 : rfI 252 44 = some (.invokevirtual 339, (249, 3, 11, 0)) := by decide +kernel
theorem f_252_47 : rfI 252 47 = some (.invokestatic 342, (185, 1, 10, 0)) := by decide +kernel
theorem f_252_50 : rfI 252 50 = some (.istore 5, (0, 0, 0, 0)) := by decide +kernel
theorem f_252_52 : rfI 252 52 = some (.iload_n 2, (0, 0, 0, 0)) := by decide +kernel
theorem f_252_53 : rfI 252 53 = some (.bipush (-2), (0, 0, 0, 0)) := by decide +kernel
theorem f_252_55 : rfI 252 55 = some (.if_icmp .eq 12, (0, 0, 0, 0)) := by decide +kernel
theorem f_252_58 : rfI 252 58 = some (.iload 5, (0, 0, 0, 0)) := by decide +kernel
theorem f_252_60 : rfI 252 60 = some (.iload_n 3, (0, 0, 0, 0)) := by decide +kernel
theorem f_252_61 : rfI 252 61 = some (.if_icmp .gt 6, (0, 0, 0, 0)) := by decide +kernel
theorem f_252_64 : rfI 252 64 = some (.goto 9, (0, 0, 0, 0)) := by decide +kernel
theorem f_252_67 : rfI 252 67 = some (.iload 4, (0, 0, 0, 0)) := by decide +kernel
theorem f_252_69 : rfI 252 69 = some (.istore_n 2, (0, 0, 0, 0)) := by decide +kernel
theorem f_252_70 : rfI 252 70 = some (.iload 5, (0, 0, 0, 0)) := by decide +kernel
theorem f_252_72 : rfI 252 72 = some (.istore_n 3, (0, 0, 0, 0)) := by decide +kernel
theorem f_252_73 : rfI 252 73 = some (.iinc 4 1, (0, 0, 0, 0)) := by decide +kernel
theorem f_252_76 : rfI 252 76 = some (.goto (-57), (0, 0, 0, 0)) := by decide +kernel
theorem f_252_79 : rfI 252 79 = some (.iload_n 1, (0, 0, 0, 0)) := by decide +kernel
theorem f_252_80 : rfI 252 80 = some (.ifCond .ne 7, (0, 0, 0, 0)) := by decide +kernel
theorem f_252_83 : rfI 252 83 = some (.iload_n 2, (0, 0, 0, 0)) := by decide +kernel
theorem f_252_84 : rfI 252 84 = some (.goto 4, (0, 0, 0, 0)) := by decide +kernel
theorem f_252_87 : rfI 252 87 = some (.iload_n 3, (0, 0, 0, 0)) := by decide +kernel
theorem f_252_88 : rfI 252 88 = some (.ireturn, (0, 0, 0, 0)) := by decide +kernel
theorem f_253_0 : rfI 253 0 = some (.aload_n 0, (0, 0, 0, 0)) := by decide +kernel
theorem f_253_1 : rfI 253 1 = some (.iload_n 1, (0, 0, 0, 0)) := by decide +kernel
theorem f_253_2 : rfI 253 2 = some (.invokevirtual 128, (188, 2, 11, 0)) := by decide +kernel
theorem f_253_5 : rfI 253 5 = some (.ifCond .eq 24, (0, 0, 0, 0)) := by decide +kernel
theorem f_253_8 : rfI 253 8 = some (.iload_n 2, (0, 0, 0, 0)) := by decide +kernel
theorem f_253_9 : rfI 253 9 = some (.iconst 0, (0, 0, 0, 0)) := by decide +kernel
theorem f_253_10 : rfI 253 10 = some (.sipush 9999, (0, 0, 0, 0)) := by decide +kernel
theorem f_253_13 : rfI 253 13 = some (.invokestatic 116, (181, 3, 10, 0)) := by decide +kernel
theorem f_253_16 : rfI 253 16 = some (.ifCond .eq 13, (0, 0, 0, 0)) := by decide +kernel
theorem f_253_19 : rfI 253 19 = some (.aload_n 0, (0, 0, 0, 0)) := by decide +kernel
theorem f_253_20 : rfI 253 20 = some (.iload_n 1, (0, 0, 0, 0)) := by decide +kernel
theorem f_253_21 : rfI 253 21 = some (.iload_n 2, (0, 0, 0, 0)) := by decide +kernel
theorem f_253_22 : rfI 253 22 = some (.ineg, (0, 0, 0, 0)) := by decide +kernel
theorem f_253_23 : rfI 253 23 = some (.invokevirtual 339, (249, 3, 11, 0)) := by decide +kernel
theorem f_253_26 : rfI 253 26 = some (.goto 4, (0, 0, 0, 0)) := by decide +kernel
theorem f_253_29 : rfI 253 29 = some (.iconst (-1), (0, 0, 0, 0)) := by decide +kernel
theorem f_253_30 : rfI 253 30 = some (.ireturn, (0, 0, 0, 0)) := by decide +kernel
theorem f_254_0 : rfI 254 0 = some (.aload_n 0, (0, 0, 0, 0)) := by decide +kernel
theorem f_254_1 : rfI 254 1 = some (.iload_n 1, (0, 0, 0, 0)) := by decide +kernel
theorem f_254_2 : rfI 254 2 = some (.invokevirtual 128, (188, 2, 11, 0)) := by decide +kernel
theorem f_254_5 : rfI 254 5 = some (.ifCond .eq 11, (0, 0, 0, 0)) := by decide +kernel
theorem f_254_8 : rfI 254 8 = some (.aload_n 0, (0, 0, 0, 0)) := by decide +kernel
theorem f_254_9 : rfI 254 9 = some (.iload_n 2, (0, 0, 0, 0)) := by decide +kernel
theorem f_254_10 : rfI 254 10 = some (.invokevirtual 128, (188, 2, 11, 0)) := by decide +kernel
theorem f_254_13 : rfI 254 13 = some (.ifCond .ne 5, (0, 0, 0, 0)) := by decide +kernel
theorem f_254_16 : rfI 254 16 = some (.iconst (-1), (0, 0, 0, 0)) := by decide +kernel
theorem f_254_17 : rfI 254 17 = some (.ireturn, (0, 0, 0, 0)) := by decide +kernel
theorem f_254_18 : rfI 254 18 = some (.aload_n 0, (0, 0, 0, 0)) := by decide +kernel
theorem f_254_19 : rfI 254 19 = some (.iload_n 1, (0, 0, 0, 0)) := by decide +kernel
theorem f_254_20 : rfI 254 20 = some (.aload_n 0, (0, 0, 0, 0)) := by decide +kernel
theorem f_254_21 : rfI 254 21 = some (.getfield 7, (12, 0, 2, 0)) := by decide +kernel
theorem f_254_24 : rfI 254 24 = some (.iconst 0, (0, 0, 0, 0)) := by decide +kernel
theorem f_254_25 : rfI 254 25 = some (.iload_n 1, (0, 0, 0, 0)) := by decide +kernel
theorem f_254_26 : rfI 254 26 = some (.iadd, (0, 0, 0, 0)) := by decide +kernel
theorem f_254_27 : rfI 254 27 = some (.iaload, (0, 0, 0, 0)) := by decide +kernel
theorem f_254_28 : rfI 254 28 = some (.ineg, (0, 0, 0, 0)) := by decide +kernel
theorem f_254_29 : rfI 254 29 = some (.invokevirtual 339, (249, 3, 11, 0)) := by decide +kernel
theorem f_254_32 : rfI 254 32 = some (.iload_n 2, (0, 0, 0, 0)) := by decide +kernel
theorem f_254_33 : rfI 254 33 = some (.invokestatic 120, (184, 2, 10, 0)) := by decide +kernel
theorem f_254_36 : rfI 254 36 = some (.ifCond .ne 6, (0, 0, 0, 0)) := by decide +kernel
theorem f_254_39 : rfI 254 39 = some (.bipush (-2), (0, 0, 0, 0)) := by decide +kernel
theorem f_254_41 : rfI 254 41 = some (.ireturn, (0, 0, 0, 0)) := by decide +kernel
theorem f_254_42 : rfI 254 42 = some (.iconst 0, (0, 0, 0, 0)) := by decide +kernel
theorem f_254_43 : rfI 254 43 = some (.istore_n 3, (0, 0, 0, 0)) := by decide +kernel
theorem f_254_44 : rfI 254 44 = some (.aload_n 0, (0, 0, 0, 0)) := by decide +kernel
theorem f_254_45 : rfI 254 45 = some (.getfield 7, (12, 0, 2, 0)) := by decide +kernel
theorem f_254_48 : rfI 254 48 = some (.iconst 0, (0, 0, 0, 0)) := by decide +kernel
theorem f_254_49 : rfI 254 49 = some (.iload_n 1, (0, 0, 0, 0)) := by decide +kernel
theorem f_254_50 : rfI 254 50 = some (.iadd, (0, 0, 0, 0)) := by decide +kernel
theorem f_254_51 : rfI 254 51 = some (.iaload, (0, 0, 0, 0)) := by decide +kernel
theorem f_254_52 : rfI 254 52 = some (.istore 4, (0, 0, 0, 0)) := by decide +kernel
theorem f_254_54 : rfI 254 54 = some (.iload_n 3, (0, 0, 0, 0)) := by decide +kernel
theorem f_254_55 : rfI 254 55 = some (.iload 4, (0, 0, 0, 0)) := by decide +kernel
theorem f_254_57 : rfI 254 57 = some (.if_icmp .ge 41, (0, 0, 0, 0)) := by decide +kernel
theorem f_254_60 : rfI 254 60 = some (.iload_n 3, (0, 0, 0, 0)) := by decide +kernel
theorem f_254_61 : rfI 254 61 = some (.iload 4, (0, 0, 0, 0)) := by decide +kernel
theorem f_254_63 : rfI 254 63 = some (.iadd, (0, 0, 0, 0)) := by decide +kernel
theorem f_254_64 : rfI 254 64 = some (.iconst 2, (0, 0, 0, 0)) := by decide +kernel
theorem f_254_65 : rfI 254 65 = some (.idiv, (0, 0, 0, 0)) := by decide +kernel
theorem f_254_66 : rfI 254 66 = some (.istore 5, (0, 0, 0, 0)) := by decide +kernel
theorem f_254_68 : rfI 254 68 = some (.aload_n 0, (0, 0, 0, 0)) := by decide +kernel
theorem f_254_69 : rfI 254 69 = some (.iload_n 1, (0, 0, 0, 0)) := by decide +kernel
theorem f_254_70 : rfI 254 70 = some (.iload 5, (0, 0, 0, 0)) := by decide +kernel
theorem f_254_72 : rfI 254 72 = some (.ineg, (0, 0, 0, 0)) := by decide +kernel
theorem f_254_73 : rfI 254 73 = some (.invokevirtual 339, (249, 3, 11, 0)) := by decide +kernel
theorem f_254_76 : rfI 254 76 = some (.iload_n 2, (0, 0, 0, 0)) := by decide +kernel
theorem f_254_77 : rfI 254 77 = some (.invokestatic 120, (184, 2, 10, 0)) := by decide +kernel
theorem f_254_80 : rfI 254 80 = some (.ifCond .eq 10, (0, 0, 0, 0)) := by decide +kernel
theorem f_254_83 : rfI 254 83 = some (.iload 5, (0, 0, 0, 0)) := by decide +kernel
theorem f_254_85 : rfI 254 85 = some (.istore 4, (0, 0, 0, 0)) := by decide +kernel
theorem f_254_87 : rfI 254 87 = some (.goto 8, (0, 0, 0, 0)) := by decide +kernel
theorem f_254_90 : rfI 254 90 = some (.iload 5, (0, 0, 0, 0)) := by decide +kernel
theorem f_254_92 : rfI 254 92 = some (.iconst 1, (0, 0, 0, 0)) := by decide +kernel
theorem f_254_93 : rfI 254 93 = some (.iadd, (0, 0, 0, 0)) := by decide +kernel
theorem f_254_94 : rfI 254 94 = some (.istore_n 3, (0, 0, 0, 0)) := by decide +kernel
theorem f_254_95 : rfI 254 95 = some (.goto (-41), (0, 0, 0, 0)) := by decide +kernel
theorem f_254_98 : rfI 254 98 = some (.iload_n 3, (0, 0, 0, 0)) := by decide +kernel
theorem f_254_99 : rfI 254 99 = some (.ireturn, (0, 0, 0, 0)) := by decide +kernel
theorem f_255_0 : rfI 255 0 = some (.aload_n 0, (0, 0, 0, 0)) := by decide +kernel
theorem f_255_1 : rfI 255 1 = some (.iload_n 1, (0, 0, 0, 0)) := by decide +kernel
theorem f_255_2 : rfI 255 2 = some (.invokevirtual 128, (188, 2, 11, 0)) := by decide +kernel
theorem f_255_5 : rfI 255 5 = some (.ifCond .ne 5, (0, 0, 0, 0)) := by decide +kernel
theorem f_255_8 : rfI 255 8 = some (.iconst (-1), (0, 0, 0, 0)) := by decide +kernel
theorem f_255_9 : rfI 255 9 = some (.ireturn, (0, 0, 0, 0)) := by decide +kernel
theorem f_255_10 : rfI 255 10 = some (.aload_n 0, (0, 0, 0, 0)) := by decide +kernel
theorem f_255_11 : rfI 255 11 = some (.iload_n 1, (0, 0, 0, 0)) := by decide +kernel
theorem f_255_12 : rfI 255 12 = some (.sipush 9999, (0, 0, 0, 0)) := by decide +kernel
theorem f_255_15 : rfI 255 15 = some (.invokevirtual 339, (249, 3, 11, 0)) := by decide +kernel
theorem f_255_18 : rfI 255 18 = some (.ifCond .eq 6, (0, 0, 0, 0)) := by decide +kernel
theorem f_255_21 : rfI 255 21 = some (.bipush (-2), (0, 0, 0, 0)) := by decide +kernel
theorem f_255_23 : rfI 255 23 = some (.ireturn, (0, 0, 0, 0)) := by decide +kernel
theorem f_255_24 : rfI 255 24 = some (.iconst 0, (0, 0, 0, 0)) := by decide +kernel
theorem f_255_25 : rfI 255 25 = some (.istore_n 2, (0, 0, 0, 0)) := by decide +kernel
theorem f_255_26 : rfI 255 26 = some (.sipush 9999, (0, 0, 0, 0)) := by decide +kernel
theorem f_255_29 : rfI 255 29 = some (.istore_n 3, (0, 0, 0, 0)) := by decide +kernel
theorem f_255_30 : rfI 255 30 = some (.iload_n 2, (0, 0, 0, 0)) := by decide +kernel
theorem f_255_31 : rfI 255 31 = some (.iload_n 3, (0, 0, 0, 0)) := by decide +kernel
theorem f_255_32 : rfI 255 32 = some (.if_icmp .ge 34, (0, 0, 0, 0)) := by decide +kernel
theorem f_255_35 : rfI 255 35 = some (.iload_n 2, (0, 0, 0, 0)) := by decide +kernel
theorem f_255_36 : rfI 255 36 = some (.iload_n 3, (0, 0, 0, 0)) := by decide +kernel
theorem f_255_37 : rfI 255 37 = some (.iadd, (0, 0, 0, 0)) := by decide +kernel
theorem f_255_38 : rfI 255 38 = some (.iconst 2, (0, 0, 0, 0)) := by decide +kernel
theorem f_255_39 : rfI 255 39 = some (.idiv, (0, 0, 0, 0)) := by decide +kernel
theorem f_255_40 : rfI 255 40 = some (.istore 4, (0, 0, 0, 0)) := by decide +kernel
theorem f_255_42 : rfI 255 42 = some (.aload_n 0, (0, 0, 0, 0)) := by decide +kernel
theorem f_255_43 : rfI 255 43 = some (.iload_n 1, (0, 0, 0, 0)) := by decide +kernel
theorem f_255_44 : rfI 255 44 = some (.iload 4, (0, 0, 0, 0)) := by decide +kernel
theorem f_255_46 : rfI 255 46 = some (.invokevirtual 339, (249, 3, 11, 0)) := by decide +kernel
theorem f_255_49 : rfI 255 49 = some (.ifCond .ne 9, (0, 0, 0, 0)) := by decide +kernel
theorem f_255_52 : rfI 255 52 = some (.iload 4, (0, 0, 0, 0)) := by decide +kernel
theorem f_255_54 : rfI 255 54 = some (.istore_n 3, (0, 0, 0, 0)) := by decide +kernel
theorem f_255_55 : rfI 255 55 = some (.goto 8, (0, 0, 0, 0)) := by decide +kernel
theorem f_255_58 : rfI 255 58 = some (.iload 4, (0, 0, 0, 0)) := by decide +kernel
theorem f_255_60 : rfI 255 60 = some (.iconst 1, (0, 0, 0, 0)) := by decide +kernel
theorem f_255_61 : rfI 255 61 = some (.iadd, (0, 0, 0, 0)) := by decide +kernel
theorem f_255_62 : rfI 255 62 = some (.istore_n 2, (0, 0, 0, 0)) := by decide +kernel
theorem f_255_63 : rfI 255 63 = some (.goto (-33), (0, 0, 0, 0)) := by decide +kernel
theorem f_255_66 : rfI 255 66 = some (.iload_n 2, (0, 0, 0, 0)) := by decide +kernel
theorem f_255_67 : rfI 255 67 = some (.ireturn, (0, 0, 0, 0)) := by decide +kernel
theorem f_256_0 : rfI 256 0 = some (.iconst 0, (0, 0, 0, 0)) := by decide +kernel
theorem f_256_1 : rfI 256 1 = some (.istore_n 1, (0, 0, 0, 0)) := by decide +kernel
theorem f_256_2 : rfI 256 2 = some (.iconst 0, (0, 0, 0, 0)) := by decide +kernel
theorem f_256_3 : rfI 256 3 = some (.istore_n 2, (0, 0, 0, 0)) := by decide +kernel
theorem f_256_4 : rfI 256 4 = some (.iload_n 2, (0, 0, 0, 0)) := by decide +kernel
theorem f_256_5 : rfI 256 5 = some (.bipush 8, (0, 0, 0, 0)) := by decide +kernel
theorem f_256_7 : rfI 256 7 = some (.if_icmp .ge 50, (0, 0, 0, 0)) := by decide +kernel
theorem f_256_10 : rfI 256 10 = some (.iconst 0, (0, 0, 0, 0)) := by decide +kernel
theorem f_256_11 : rfI 256 11 = some (.istore_n 3, (0, 0, 0, 0)) := by decide +kernel
theorem f_256_12 : rfI 256 12 = some (.iload_n 3, (0, 0, 0, 0)) := by decide +kernel
theorem f_256_13 : rfI 256 13 = some (.iload_n 2, (0, 0, 0, 0)) := by decide +kernel
theorem f_256_14 : rfI 256 14 = some (.if_icmp .ge 37, (0, 0, 0, 0)) := by decide +kernel
theorem f_256_17 : rfI 256 17 = some (.iload_n 1, (0, 0, 0, 0)) := by decide +kernel
