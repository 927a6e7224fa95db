theorem la_1 : lay0[1]? = some (.inl (11, [some 2, some 4, some 8, some 12, some 16, some 17, some 24, some 26, some 27, some 34, some 36, some 40, some 47, none])) := by decide +kernel
theorem la_2 : lay0[2]? = some (.inl (9, [some 3, none, none, none, none, none])) := by decide +kernel
theorem la_3 : lay0[3]? = some (.inr (0, 260)) := by decide +kernel
theorem la_4 : lay0[4]? = some (.inl (10, [some 5, some 6, some 7, none, none, none, none, none])) := by decide +kernel
theorem la_5 : lay0[5]? = some (.inr (0, 8)) := by decide +kernel
theorem la_6 : lay0[6]? = some (.inr (0, 64)) := by decide +kernel
theorem la_7 : lay0[7]? = some (.inr (0, 64)) := by decide +kernel
theorem la_8 : lay0[8]? = some (.inl (10, [some 9, some 10, some 11, none, none, none, none, none])) := by decide +kernel
theorem la_9 : lay0[9]? = some (.inr (0, 8)) := by decide +kernel
theorem la_10 : lay0[10]? = some (.inr (0, 64)) := by decide +kernel
theorem la_11 : lay0[11]? = some (.inr (0, 64)) := by decide +kernel
theorem la_12 : lay0[12]? = some (.inl (10, [some 13, some 14, some 15, none, none, none, none, none])) := by decide +kernel
theorem la_13 : lay0[13]? = some (.inr (0, 8)) := by decide +kernel
theorem la_14 : lay0[14]? = some (.inr (0, 64)) := by decide +kernel
theorem la_15 : lay0[15]? = some (.inr (0, 64)) := by decide +kernel
theorem la_16 : lay0[16]? = some (.inl (5, [none])) := by decide +kernel
theorem la_17 : lay0[17]? = some (.inl (4, [some 18])) := by decide +kernel
theorem la_18 : lay0[18]? = some (.inl (3, [some 19, some 20, some 21, some 22, some 23, none, none])) := by decide +kernel
theorem la_19 : lay0[19]? = some (.inr (0, 16)) := by decide +kernel
theorem la_20 : lay0[20]? = some (.inr (0, 16)) := by decide +kernel
theorem la_21 : lay0[21]? = some (.inr (0, 16)) := by decide +kernel
theorem la_22 : lay0[22]? = some (.inr (0, 16)) := by decide +kernel
theorem la_23 : lay0[23]? = some (.inr (0, 480)) := by decide +kernel
theorem la_24 : lay0[24]? = some (.inl (0, [some 25, none, none, none, none, none])) := by decide +kernel
theorem la_25 : lay0[25]? = some (.inr (0, 32)) := by decide +kernel
theorem la_26 : lay0[26]? = some (.inl (6, [none, none])) := by decide +kernel
theorem la_27 : lay0[27]? = some (.inl (1, [some 28, some 29, some 30, some 31, some 32, some 33, none])) := by decide +kernel
theorem la_28 : lay0[28]? = some (.inr (0, 64)) := by decide +kernel
theorem la_29 : lay0[29]? = some (.inr (0, 8)) := by decide +kernel
theorem la_30 : lay0[30]? = some (.inr (0, 8)) := by decide +kernel
theorem la_31 : lay0[31]? = some (.inr (0, 8)) := by decide +kernel
theorem la_32 : lay0[32]? = some (.inr (0, 8)) := by decide +kernel
theorem la_33 : lay0[33]? = some (.inr (0, 8)) := by decide +kernel
theorem la_34 : lay0[34]? = some (.inl (8, [some 35])) := by decide +kernel
theorem la_35 : lay0[35]? = some (.inr (0, 72)) := by decide +kernel
theorem la_36 : lay0[36]? = some (.inl (7, [some 37, some 38, some 39, none])) := by decide +kernel
theorem la_37 : lay0[37]? = some (.inr (0, 8)) := by decide +kernel
theorem la_38 : lay0[38]? = some (.inr (0, 256)) := by decide +kernel
theorem la_39 : lay0[39]? = some (.inr (0, 256)) := by decide +kernel
theorem la_40 : lay0[40]? = some (.inl (2, [some 41, some 42, some 43, some 44, some 45, some 46])) := by decide +kernel
theorem la_41 : lay0[41]? = some (.inr (0, 8)) := by decide +kernel
theorem la_42 : lay0[42]? = some (.inr (0, 48)) := by decide +kernel
theorem la_43 : lay0[43]? = some (.inr (0, 61)) := by decide +kernel
theorem la_44 : lay0[44]? = some (.inr (0, 61)) := by decide +kernel
theorem la_45 : lay0[45]? = some (.inr (0, 8)) := by decide +kernel
theorem la_46 : lay0[46]? = some (.inr (0, 64)) := by decide +kernel
theorem la_47 : lay0[47]? = some (.inl (3, [some 48, some 49, some 50, some 51, some 52, none, none])) := by decide +kernel
theorem la_48 : lay0[48]? = some (.inr (0, 16)) := by decide +kernel
theorem la_49 : lay0[49]? = some (.inr (0, 16)) := by decide +kernel
theorem la_50 : lay0[50]? = some (.inr (0, 16)) := by decide +kernel
theorem la_51 : lay0[51]? = some (.inr (0, 16)) := by decide +kernel
theorem la_52 : lay0[52]? = some (.inr (0, 480)) := by decide +kernel
theorem la_53 : lay0[53]? = some (.inl (12, [some 54, some 55, some 56, some 57, none, none, none, none, none, none, none, none, none, none, some 58, some 59, some 60, some 61, some 62, some 63, some 64, some 65, some 66, some 67, some 68, some 69, some 70, some 71, none, none, none, some 72, some 73, some 74, some 75, some 76, none, some 77, some 78, some 79, some 80, some 81, some 82, some 83, some 84, some 85, some 86, some 87, some 88, none])) := by decide +kernel
theorem la_54 : lay0[54]? = some (.inr (0, 141)) := by decide +kernel
theorem la_55 : lay0[55]? = some (.inr (0, 141)) := by decide +kernel
theorem la_56 : lay0[56]? = some (.inr (0, 141)) := by decide +kernel
theorem la_57 : lay0[57]? = some (.inr (1, 260)) := by decide +kernel
theorem la_58 : lay0[58]? = some (.inr (0, 260)) := by decide +kernel
theorem la_59 : lay0[59]? = some (.inr (0, 260)) := by decide +kernel
theorem la_60 : lay0[60]? = some (.inr (0, 16)) := by decide +kernel
theorem la_61 : lay0[61]? = some (.inr (0, 16)) := by decide +kernel
theorem la_62 : lay0[62]? = some (.inr (0, 16)) := by decide +kernel
theorem la_63 : lay0[63]? = some (.inr (0, 16)) := by decide +kernel
theorem la_64 : lay0[64]? = some (.inr (0, 260)) := by decide +kernel
theorem la_65 : lay0[65]? = some (.inr (0, 16)) := by decide +kernel
theorem la_66 : lay0[66]? = some (.inr (0, 16)) := by decide +kernel
theorem la_67 : lay0[67]? = some (.inr (0, 16)) := by decide +kernel
theorem la_68 : lay0[68]? = some (.inr (0, 16)) := by decide +kernel
theorem la_69 : lay0[69]? = some (.inr (0, 260)) := by decide +kernel
theorem la_70 : lay0[70]? = some (.inr (0, 7)) := by decide +kernel
theorem la_71 : lay0[71]? = some (.inr (0, 141)) := by decide +kernel
theorem la_72 : lay0[72]? = some (.inr (0, 8)) := by decide +kernel
theorem la_73 : lay0[73]? = some (.inr (0, 8)) := by decide +kernel
theorem la_74 : lay0[74]? = some (.inr (0, 8)) := by decide +kernel
theorem la_75 : lay0[75]? = some (.inr (0, 8)) := by decide +kernel
theorem la_76 : lay0[76]? = some (.inr (0, 8)) := by decide +kernel
theorem la_77 : lay0[77]? = some (.inr (0, 8)) := by decide +kernel
theorem la_78 : lay0[78]? = some (.inr (0, 8)) := by decide +kernel
theorem la_79 : lay0[79]? = some (.inr (0, 256)) := by decide +kernel
theorem la_80 : lay0[80]? = some (.inr (0, 256)) := by decide +kernel
theorem la_81 : lay0[81]? = some (.inr (0, 256)) := by decide +kernel
theorem la_82 : lay0[82]? = some (.inr (0, 8)) := by decide +kernel
theorem la_83 : lay0[83]? = some (.inr (0, 8)) := by decide +kernel
theorem la_84 : lay0[84]? = some (.inr (0, 61)) := by decide +kernel
theorem la_85 : lay0[85]? = some (.inr (0, 61)) := by decide +kernel
theorem la_86 : lay0[86]? = some (.inr (0, 61)) := by decide +kernel
theorem la_87 : lay0[87]? = some (.inr (0, 8)) := by decide +kernel
theorem la_88 : lay0[88]? = some (.inr (0, 64)) := by decide +kernel
theorem ow_1 : mOwn 1 = 0 := by decide +kernel
theorem vd_1 : mVd 1 = true := by decide +kernel
theorem bz_1 : mBz 1 = false := by decide +kernel
theorem mx_1 : mMx 1 = 2 := by decide +kernel
theorem rk_1 (a : List aV) : rkF 1 a = 1 := rkF_n (by decide +kernel) (by decide +kernel)
theorem ow_2 : mOwn 2 = 0 := by decide +kernel
theorem vd_2 : mVd 2 = true := by decide +kernel
theorem bz_2 : mBz 2 = false := by decide +kernel
theorem mx_2 : mMx 2 = 4 := by decide +kernel
theorem rk_2 (a : List aV) : rkF 2 a = 0 := rkF_n (by decide +kernel) (by decide +kernel)
theorem ow_3 : mOwn 3 = 0 := by decide +kernel
theorem vd_3 : mVd 3 = false := by decide +kernel
theorem bz_3 : mBz 3 = false := by decide +kernel
theorem mx_3 : mMx 3 = 7 := by decide +kernel
theorem rk_3 (a : List aV) : rkF 3 a = 4 := rkF_n (by decide +kernel) (by decide +kernel)
theorem ow_4 : mOwn 4 = 0 := by decide +kernel
theorem vd_4 : mVd 4 = false := by decide +kernel
theorem bz_4 : mBz 4 = true := by decide +kernel
theorem mx_4 : mMx 4 = 5 := by decide +kernel
theorem rk_4 (a : List aV) : rkF 4 a = 4 := rkF_n (by decide +kernel) (by decide +kernel)
theorem ow_5 : mOwn 5 = 0 := by decide +kernel
theorem vd_5 : mVd 5 = false := by decide +kernel
theorem bz_5 : mBz 5 = false := by decide +kernel
theorem mx_5 : mMx 5 = 9 := by decide +kernel
theorem rk_5 (a : List aV) : rkF 5 a = 3 := rkF_n (by decide +kernel) (by decide +kernel)
theorem ow_6 : mOwn 6 = 0 := by decide +kernel
theorem vd_6 : mVd 6 = true := by decide +kernel
theorem bz_6 : mBz 6 = false := by decide +kernel
theorem mx_6 : mMx 6 = 2 := by decide +kernel
theorem rk_6 (a : List aV) : rkF 6 a = 0 := rkF_n (by decide +kernel) (by decide +kernel)
theorem ow_7 : mOwn 7 = 0 := by decide +kernel
theorem vd_7 : mVd 7 = false := by decide +kernel
theorem bz_7 : mBz 7 = false := by decide +kernel
theorem mx_7 : mMx 7 = 1 := by decide +kernel
theorem rk_7 (a : List aV) : rkF 7 a = 0 := rkF_n (by decide +kernel) (by decide +kernel)
theorem ow_8 : mOwn 8 = 0 := by decide +kernel
theorem vd_8 : mVd 8 = false := by decide +kernel
theorem bz_8 : mBz 8 = false := by decide +kernel
theorem mx_8 : mMx 8 = 2 := by decide +kernel
theorem rk_8 (a : List aV) : rkF 8 a = 1 := rkF_n (by decide +kernel) (by decide +kernel)
theorem ow_9 : mOwn 9 = 0 := by decide +kernel
theorem vd_9 : mVd 9 = false := by decide +kernel
theorem bz_9 : mBz 9 = false := by decide +kernel
theorem mx_9 : mMx 9 = 3 := by decide +kernel
theorem rk_9 (a : List aV) : rkF 9 a = 2 := rkF_n (by decide +kernel) (by decide +kernel)
theorem ow_10 : mOwn 10 = 0 := by decide +kernel
theorem vd_10 : mVd 10 = true := by decide +kernel
theorem bz_10 : mBz 10 = false := by decide +kernel
theorem mx_10 : mMx 10 = 4 := by decide +kernel
theorem rk_10 (a : List aV) : rkF 10 a = 2 := rkF_n (by decide +kernel) (by decide +kernel)
theorem ow_11 : mOwn 11 = 0 := by decide +kernel
theorem vd_11 : mVd 11 = true := by decide +kernel
theorem bz_11 : mBz 11 = false := by decide +kernel
theorem mx_11 : mMx 11 = 4 := by decide +kernel
theorem rk_11 (a : List aV) : rkF 11 a = 1 := rkF_n (by decide +kernel) (by decide +kernel)
theorem ow_13 : mOwn 13 = 1 := by decide +kernel
theorem vd_13 : mVd 13 = true := by decide +kernel
theorem bz_13 : mBz 13 = false := by decide +kernel
theorem mx_13 : mMx 13 = 4 := by decide +kernel
theorem rk_13 (a : List aV) : rkF 13 a = 2 := rkF_n (by decide +kernel) (by decide +kernel)
theorem ow_14 : mOwn 14 = 1 := by decide +kernel
theorem vd_14 : mVd 14 = true := by decide +kernel
theorem bz_14 : mBz 14 = false := by decide +kernel
theorem mx_14 : mMx 14 = 3 := by decide +kernel
theorem rk_14 (a : List aV) : rkF 14 a = 1 := rkF_n (by decide +kernel) (by decide +kernel)
theorem ow_15 : mOwn 15 = 1 := by decide +kernel
theorem vd_15 : mVd 15 = true := by decide +kernel
theorem bz_15 : mBz 15 = false := by decide +kernel
theorem mx_15 : mMx 15 = 2 := by decide +kernel
theorem rk_15 (a : List aV) : rkF 15 a = 2 := rkF_n (by decide +kernel) (by decide +kernel)
theorem ow_16 : mOwn 16 = 1 := by decide +kernel
theorem vd_16 : mVd 16 = true := by decide +kernel
theorem bz_16 : mBz 16 = false := by decide +kernel
theorem mx_16 : mMx 16 = 3 := by decide +kernel
theorem rk_16 (a : List aV) : rkF 16 a = 0 := rkF_n (by decide +kernel) (by decide +kernel)
theorem ow_17 : mOwn 17 = 1 := by decide +kernel
theorem vd_17 : mVd 17 = false := by decide +kernel
theorem bz_17 : mBz 17 = true := by decide +kernel
theorem mx_17 : mMx 17 = 5 := by decide +kernel
theorem rk_17 (a : List aV) : rkF 17 a = 1 := rkF_n (by decide +kernel) (by decide +kernel)
theorem ow_18 : mOwn 18 = 1 := by decide +kernel
theorem vd_18 : mVd 18 = false := by decide +kernel
theorem bz_18 : mBz 18 = false := by decide +kernel
theorem mx_18 : mMx 18 = 2 := by decide +kernel
theorem rk_18 (a : List aV) : rkF 18 a = 1 := rkF_n (by decide +kernel) (by decide +kernel)
theorem ow_19 : mOwn 19 = 1 := by decide +kernel
theorem vd_19 : mVd 19 = false := by decide +kernel
theorem bz_19 : mBz 19 = false := by decide +kernel
theorem mx_19 : mMx 19 = 2 := by decide +kernel
theorem rk_19 (a : List aV) : rkF 19 a = 1 := rkF_n (by decide +kernel) (by decide +kernel)
theorem ow_20 : mOwn 20 = 1 := by decide +kernel
theorem vd_20 : mVd 20 = false := by decide +kernel
theorem bz_20 : mBz 20 = false := by decide +kernel
theorem mx_20 : mMx 20 = 2 := by decide +kernel
theorem rk_20 (a : List aV) : rkF 20 a = 1 := rkF_n (by decide +kernel) (by decide +kernel)
theorem ow_21 : mOwn 21 = 1 := by decide +kernel
theorem vd_21 : mVd 21 = false := by decide +kernel
theorem bz_21 : mBz 21 = false := by decide +kernel
theorem mx_21 : mMx 21 = 3 := by decide +kernel
theorem rk_21 (a : List aV) : rkF 21 a = 0 := rkF_n (by decide +kernel) (by decide +kernel)
theorem ow_23 : mOwn 23 = 2 := by decide +kernel
theorem vd_23 : mVd 23 = true := by decide +kernel
theorem bz_23 : mBz 23 = false := by decide +kernel
theorem mx_23 : mMx 23 = 5 := by decide +kernel
theorem rk_23 (a : List aV) : rkF 23 a = 1 := rkF_n (by decide +kernel) (by decide +kernel)
theorem ow_24 : mOwn 24 = 2 := by decide +kernel
theorem vd_24 : mVd 24 = false := by decide +kernel
theorem bz_24 : mBz 24 = false := by decide +kernel
theorem mx_24 : mMx 24 = 2 := by decide +kernel
theorem rk_24 (a : List aV) : rkF 24 a = 0 := rkF_n (by decide +kernel) (by decide +kernel)
theorem ow_25 : mOwn 25 = 2 := by decide +kernel
theorem vd_25 : mVd 25 = false := by decide +kernel
theorem bz_25 : mBz 25 = false := by decide +kernel
theorem mx_25 : mMx 25 = 4 := by decide +kernel
theorem rk_25 (a : List aV) : rkF 25 a = 0 := rkF_n (by decide +kernel) (by decide +kernel)
theorem ow_26 : mOwn 26 = 2 := by decide +kernel
theorem vd_26 : mVd 26 = false := by decide +kernel
theorem bz_26 : mBz 26 = false := by decide +kernel
theorem mx_26 : mMx 26 = 3 := by decide +kernel
theorem rk_26 (a : List aV) : rkF 26 a = 0 := rkF_n (by decide +kernel) (by decide +kernel)
theorem ow_27 : mOwn 27 = 2 := by decide +kernel
theorem vd_27 : mVd 27 = true := by decide +kernel
theorem bz_27 : mBz 27 = false := by decide +kernel
theorem mx_27 : mMx 27 = 7 := by decide +kernel
theorem rk_27 (a : List aV) : rkF 27 a = 2 := rkF_n (by decide +kernel) (by decide +kernel)
theorem ow_28 : mOwn 28 = 2 := by decide +kernel
theorem vd_28 : mVd 28 = false := by decide +kernel
theorem bz_28 : mBz 28 = true := by decide +kernel
theorem mx_28 : mMx 28 = 7 := by decide +kernel
theorem rk_28 (a : List aV) : rkF 28 a = 1 := rkF_n (by decide +kernel) (by decide +kernel)
theorem ow_29 : mOwn 29 = 2 := by decide +kernel
theorem vd_29 : mVd 29 = false := by decide +kernel
theorem bz_29 : mBz 29 = false := by decide +kernel
theorem mx_29 : mMx 29 = 2 := by decide +kernel
theorem rk_29 (a : List aV) : rkF 29 a = 0 := rkF_n (by decide +kernel) (by decide +kernel)
theorem ow_30 : mOwn 30 = 2 := by decide +kernel
theorem vd_30 : mVd 30 = false := by decide +kernel
theorem bz_30 : mBz 30 = false := by decide +kernel
theorem mx_30 : mMx 30 = 2 := by decide +kernel
theorem rk_30 (a : List aV) : rkF 30 a = 0 := rkF_n (by decide +kernel) (by decide +kernel)
theorem ow_31 : mOwn 31 = 2 := by decide +kernel
theorem vd_31 : mVd 31 = false := by decide +kernel
theorem bz_31 : mBz 31 = false := by decide +kernel
theorem mx_31 : mMx 31 = 3 := by decide +kernel
theorem rk_31 (a : List aV) : rkF 31 a = 1 := rkF_n (by decide +kernel) (by decide +kernel)
theorem ow_32 : mOwn 32 = 2 := by decide +kernel
theorem vd_32 : mVd 32 = false := by decide +kernel
theorem bz_32 : mBz 32 = false := by decide +kernel
theorem mx_32 : mMx 32 = 7 := by decide +kernel
theorem rk_32 (a : List aV) : rkF 32 a = 3 := rkF_n (by decide +kernel) (by decide +kernel)
theorem ow_33 : mOwn 33 = 2 := by decide +kernel
theorem vd_33 : mVd 33 = false := by decide +kernel
theorem bz_33 : mBz 33 = false := by decide +kernel
theorem mx_33 : mMx 33 = 5 := by decide +kernel
theorem rk_33 (a : List aV) : rkF 33 a = 2 := rkF_n (by decide +kernel) (by decide +kernel)
theorem ow_34 : mOwn 34 = 2 := by decide +kernel
theorem vd_34 : mVd 34 = false := by decide +kernel
theorem bz_34 : mBz 34 = true := by decide +kernel
theorem mx_34 : mMx 34 = 3 := by decide +kernel
theorem rk_34 (a : List aV) : rkF 34 a = 2 := rkF_n (by decide +kernel) (by decide +kernel)
theorem ow_35 : mOwn 35 = 2 := by decide +kernel
theorem vd_35 : mVd 35 = false := by decide +kernel
theorem bz_35 : mBz 35 = true := by decide +kernel
theorem mx_35 : mMx 35 = 5 := by decide +kernel
theorem rk_35 (a : List aV) : rkF 35 a = 1 := rkF_n (by decide +kernel) (by decide +kernel)
theorem ow_36 : mOwn 36 = 2 := by decide +kernel
theorem vd_36 : mVd 36 = false := by decide +kernel
theorem bz_36 : mBz 36 = false := by decide +kernel
theorem mx_36 : mMx 36 = 7 := by decide +kernel
theorem rk_36 (a : List aV) : rkF 36 a = 1 := rkF_n (by decide +kernel) (by decide +kernel)
theorem ow_37 : mOwn 37 = 2 := by decide +kernel
theorem vd_37 : mVd 37 = true := by decide +kernel
theorem bz_37 : mBz 37 = false := by decide +kernel
theorem mx_37 : mMx 37 = 4 := by decide +kernel
theorem rk_37 (a : List aV) : rkF 37 a = 0 := rkF_n (by decide +kernel) (by decide +kernel)
theorem ow_38 : mOwn 38 = 2 := by decide +kernel
theorem vd_38 : mVd 38 = false := by decide +kernel
theorem bz_38 : mBz 38 = false := by decide +kernel
theorem mx_38 : mMx 38 = 7 := by decide +kernel
theorem rk_38 (a : List aV) : rkF 38 a = 2 := rkF_n (by decide +kernel) (by decide +kernel)
theorem ow_39 : mOwn 39 = 2 := by decide +kernel
theorem vd_39 : mVd 39 = false := by decide +kernel
theorem bz_39 : mBz 39 = false := by decide +kernel
theorem mx_39 : mMx 39 = 7 := by decide +kernel
theorem rk_39 (a : List aV) : rkF 39 a = 1 := rkF_n (by decide +kernel) (by decide +kernel)
theorem ow_40 : mOwn 40 = 2 := by decide +kernel
theorem vd_40 : mVd 40 = false := by decide +kernel
theorem bz_40 : mBz 40 = false := by decide +kernel
theorem mx_40 : mMx 40 = 4 := by decide +kernel
theorem rk_40 (a : List aV) : rkF 40 a = 0 := rkF_n (by decide +kernel) (by decide +kernel)
theorem ow_42 : mOwn 42 = 3 := by decide +kernel
theorem vd_42 : mVd 42 = true := by decide +kernel
theorem bz_42 : mBz 42 = false := by decide +kernel
theorem mx_42 : mMx 42 = 1 := by decide +kernel
theorem rk_42 (a : List aV) : rkF 42 a = 0 := rkF_n (by decide +kernel) (by decide +kernel)
theorem ow_43 : mOwn 43 = 3 := by decide +kernel
theorem vd_43 : mVd 43 = true := by decide +kernel
theorem bz_43 : mBz 43 = false := by decide +kernel
theorem mx_43 : mMx 43 = 2 := by decide +kernel
theorem rk_43 (a : List aV) : rkF 43 a = 0 := rkF_n (by decide +kernel) (by decide +kernel)
theorem ow_44 : mOwn 44 = 3 := by decide +kernel
theorem vd_44 : mVd 44 = true := by decide +kernel
theorem bz_44 : mBz 44 = false := by decide +kernel
theorem mx_44 : mMx 44 = 2 := by decide +kernel
theorem rk_44 (a : List aV) : rkF 44 a = 0 := rkF_n (by decide +kernel) (by decide +kernel)
theorem ow_45 : mOwn 45 = 3 := by decide +kernel
theorem vd_45 : mVd 45 = true := by decide +kernel
theorem bz_45 : mBz 45 = false := by decide +kernel
theorem mx_45 : mMx 45 = 1 := by decide +kernel
theorem rk_45 (a : List aV) : rkF 45 a = 0 := rkF_n (by decide +kernel) (by decide +kernel)
theorem ow_46 : mOwn 46 = 3 := by decide +kernel
theorem vd_46 : mVd 46 = true := by decide +kernel
theorem bz_46 : mBz 46 = false := by decide +kernel
theorem mx_46 : mMx 46 = 1 := by decide +kernel
theorem rk_46 (a : List aV) : rkF 46 a = 0 := rkF_n (by decide +kernel) (by decide +kernel)
theorem ow_47 : mOwn 47 = 3 := by decide +kernel
theorem vd_47 : mVd 47 = true := by decide +kernel
theorem bz_47 : mBz 47 = false := by decide +kernel
theorem mx_47 : mMx 47 = 2 := by decide +kernel
theorem rk_47 (a : List aV) : rkF 47 a = 0 := rkF_n (by decide +kernel) (by decide +kernel)
theorem ow_48 : mOwn 48 = 3 := by decide +kernel
theorem vd_48 : mVd 48 = true := by decide +kernel
theorem bz_48 : mBz 48 = false := by decide +kernel
theorem mx_48 : mMx 48 = 3 := by decide +kernel
theorem rk_48 (a : List aV) : rkF 48 a = 0 := rkF_n (by decide +kernel) (by decide +kernel)
theorem ow_49 : mOwn 49 = 3 := by decide +kernel
theorem vd_49 : mVd 49 = false := by decide +kernel
theorem bz_49 : mBz 49 = false := by decide +kernel
theorem mx_49 : mMx 49 = 2 := by decide +kernel
theorem rk_49 (a : List aV) : rkF 49 a = 0 := rkF_n (by decide +kernel) (by decide +kernel)
theorem ow_51 : mOwn 51 = 4 := by decide +kernel
theorem vd_51 : mVd 51 = false := by decide +kernel
theorem bz_51 : mBz 51 = false := by decide +kernel
theorem mx_51 : mMx 51 = 4 := by decide +kernel
theorem rk_51 (a : List aV) : rkF 51 a = 67 := rkF_n (by decide +kernel) (by decide +kernel)
theorem ow_52 : mOwn 52 = 4 := by decide +kernel
theorem vd_52 : mVd 52 = false := by decide +kernel
theorem bz_52 : mBz 52 = true := by decide +kernel
theorem mx_52 : mMx 52 = 3 := by decide +kernel
theorem rk_52 (a : List aV) : rkF 52 a = 66 := rkF_n (by decide +kernel) (by decide +kernel)
theorem ow_53 : mOwn 53 = 4 := by decide +kernel
theorem vd_53 : mVd 53 = false := by decide +kernel
theorem bz_53 : mBz 53 = true := by decide +kernel
theorem mx_53 : mMx 53 = 5 := by decide +kernel
theorem rk_53 (a : List aV) : rkF 53 a = 9 + 8 * (7 - (match a.getLast? with | some (.inl o) => o.toNat | _ => 7)) := by unfold rkF; rw [show mRk.getD 53 0 = 9 by decide +kernel, if_pos (by decide +kernel)]; rfl
theorem ow_54 : mOwn 54 = 4 := by decide +kernel
theorem vd_54 : mVd 54 = false := by decide +kernel
theorem bz_54 : mBz 54 = true := by decide +kernel
theorem mx_54 : mMx 54 = 5 := by decide +kernel
theorem rk_54 (a : List aV) : rkF 54 a = 8 + 8 * (7 - (match a.getLast? with | some (.inl o) => o.toNat | _ => 7)) := by unfold rkF; rw [show mRk.getD 54 0 = 8 by decide +kernel, if_pos (by decide +kernel)]; rfl
theorem ow_55 : mOwn 55 = 4 := by decide +kernel
theorem vd_55 : mVd 55 = false := by decide +kernel
theorem bz_55 : mBz 55 = false := by decide +kernel
theorem mx_55 : mMx 55 = 3 := by decide +kernel
theorem rk_55 (a : List aV) : rkF 55 a = 1 := rkF_n (by decide +kernel) (by decide +kernel)
theorem ow_56 : mOwn 56 = 4 := by decide +kernel
theorem vd_56 : mVd 56 = false := by decide +kernel
theorem bz_56 : mBz 56 = true := by decide +kernel
theorem mx_56 : mMx 56 = 5 := by decide +kernel
theorem rk_56 (a : List aV) : rkF 56 a = 7 + 8 * (7 - (match a.getLast? with | some (.inl o) => o.toNat | _ => 7)) := by unfold rkF; rw [show mRk.getD 56 0 = 7 by decide +kernel, if_pos (by decide +kernel)]; rfl
theorem ow_57 : mOwn 57 = 4 := by decide +kernel
theorem vd_57 : mVd 57 = false := by decide +kernel
theorem bz_57 : mBz 57 = true := by decide +kernel
theorem mx_57 : mMx 57 = 4 := by decide +kernel
theorem rk_57 (a : List aV) : rkF 57 a = 6 + 8 * (7 - (match a.getLast? with | some (.inl o) => o.toNat | _ => 7)) := by unfold rkF; rw [show mRk.getD 57 0 = 6 by decide +kernel, if_pos (by decide +kernel)]; rfl
theorem ow_58 : mOwn 58 = 4 := by decide +kernel
theorem vd_58 : mVd 58 = false := by decide +kernel
theorem bz_58 : mBz 58 = true := by decide +kernel
theorem mx_58 : mMx 58 = 5 := by decide +kernel
theorem rk_58 (a : List aV) : rkF 58 a = 5 + 8 * (7 - (match a.getLast? with | some (.inl o) => o.toNat | _ => 7)) := by unfold rkF; rw [show mRk.getD 58 0 = 5 by decide +kernel, if_pos (by decide +kernel)]; rfl
theorem ow_59 : mOwn 59 = 4 := by decide +kernel
theorem vd_59 : mVd 59 = false := by decide +kernel
theorem bz_59 : mBz 59 = true := by decide +kernel
theorem mx_59 : mMx 59 = 5 := by decide +kernel
theorem rk_59 (a : List aV) : rkF 59 a = 4 + 8 * (7 - (match a.getLast? with | some (.inl o) => o.toNat | _ => 7)) := by unfold rkF; rw [show mRk.getD 59 0 = 4 by decide +kernel, if_pos (by decide +kernel)]; rfl
theorem ow_60 : mOwn 60 = 4 := by decide +kernel
theorem vd_60 : mVd 60 = false := by decide +kernel
theorem bz_60 : mBz 60 = true := by decide +kernel
theorem mx_60 : mMx 60 = 4 := by decide +kernel
theorem rk_60 (a : List aV) : rkF 60 a = 3 + 8 * (7 - (match a.getLast? with | some (.inl o) => o.toNat | _ => 7)) := by unfold rkF; rw [show mRk.getD 60 0 = 3 by decide +kernel, if_pos (by decide +kernel)]; rfl
theorem ow_61 : mOwn 61 = 4 := by decide +kernel
theorem vd_61 : mVd 61 = false := by decide +kernel
theorem bz_61 : mBz 61 = true := by decide +kernel
theorem mx_61 : mMx 61 = 2 := by decide +kernel
theorem rk_61 (a : List aV) : rkF 61 a = 0 := rkF_n (by decide +kernel) (by decide +kernel)
theorem ow_63 : mOwn 63 = 5 := by decide +kernel
theorem vd_63 : mVd 63 = false := by decide +kernel
theorem bz_63 : mBz 63 = false := by decide +kernel
theorem mx_63 : mMx 63 = 5 := by decide +kernel
theorem rk_63 (a : List aV) : rkF 63 a = 5 := rkF_n (by decide +kernel) (by decide +kernel)
theorem ow_64 : mOwn 64 = 5 := by decide +kernel
theorem vd_64 : mVd 64 = false := by decide +kernel
theorem bz_64 : mBz 64 = true := by decide +kernel
theorem mx_64 : mMx 64 = 8 := by decide +kernel
theorem rk_64 (a : List aV) : rkF 64 a = 4 := rkF_n (by decide +kernel) (by decide +kernel)
theorem ow_65 : mOwn 65 = 5 := by decide +kernel
theorem vd_65 : mVd 65 = false := by decide +kernel
theorem bz_65 : mBz 65 = true := by decide +kernel
theorem mx_65 : mMx 65 = 4 := by decide +kernel
theorem rk_65 (a : List aV) : rkF 65 a = 3 := rkF_n (by decide +kernel) (by decide +kernel)
theorem ow_66 : mOwn 66 = 5 := by decide +kernel
theorem vd_66 : mVd 66 = false := by decide +kernel
theorem bz_66 : mBz 66 = true := by decide +kernel
theorem mx_66 : mMx 66 = 5 := by decide +kernel
theorem rk_66 (a : List aV) : rkF 66 a = 3 := rkF_n (by decide +kernel) (by decide +kernel)
theorem ow_67 : mOwn 67 = 5 := by decide +kernel
theorem vd_67 : mVd 67 = false := by decide +kernel
theorem bz_67 : mBz 67 = true := by decide +kernel
theorem mx_67 : mMx 67 = 5 := by decide +kernel
theorem rk_67 (a : List aV) : rkF 67 a = 2 := rkF_n (by decide +kernel) (by decide +kernel)
theorem ow_68 : mOwn 68 = 5 := by decide +kernel
theorem vd_68 : mVd 68 = false := by decide +kernel
theorem bz_68 : mBz 68 = true := by decide +kernel
theorem mx_68 : mMx 68 = 5 := by decide +kernel
theorem rk_68 (a : List aV) : rkF 68 a = 2 := rkF_n (by decide +kernel) (by decide +kernel)
theorem ow_70 : mOwn 70 = 6 := by decide +kernel
theorem vd_70 : mVd 70 = true := by decide +kernel
theorem bz_70 : mBz 70 = false := by decide +kernel
theorem mx_70 : mMx 70 = 6 := by decide +kernel
theorem rk_70 (a : List aV) : rkF 70 a = 6 := rkF_n (by decide +kernel) (by decide +kernel)
theorem ow_71 : mOwn 71 = 6 := by decide +kernel
theorem vd_71 : mVd 71 = true := by decide +kernel
theorem bz_71 : mBz 71 = false := by decide +kernel
theorem mx_71 : mMx 71 = 9 := by decide +kernel
theorem rk_71 (a : List aV) : rkF 71 a = 5 := rkF_n (by decide +kernel) (by decide +kernel)
theorem ow_72 : mOwn 72 = 6 := by decide +kernel
theorem vd_72 : mVd 72 = true := by decide +kernel
theorem bz_72 : mBz 72 = false := by decide +kernel
theorem mx_72 : mMx 72 = 8 := by decide +kernel
theorem rk_72 (a : List aV) : rkF 72 a = 5 := rkF_n (by decide +kernel) (by decide +kernel)
theorem ow_73 : mOwn 73 = 6 := by decide +kernel
theorem vd_73 : mVd 73 = true := by decide +kernel
theorem bz_73 : mBz 73 = false := by decide +kernel
theorem mx_73 : mMx 73 = 5 := by decide +kernel
theorem rk_73 (a : List aV) : rkF 73 a = 5 := rkF_n (by decide +kernel) (by decide +kernel)
theorem ow_74 : mOwn 74 = 6 := by decide +kernel
theorem vd_74 : mVd 74 = true := by decide +kernel
theorem bz_74 : mBz 74 = false := by decide +kernel
theorem mx_74 : mMx 74 = 3 := by decide +kernel
theorem rk_74 (a : List aV) : rkF 74 a = 3 := rkF_n (by decide +kernel) (by decide +kernel)
theorem ow_76 : mOwn 76 = 7 := by decide +kernel
theorem vd_76 : mVd 76 = false := by decide +kernel
theorem bz_76 : mBz 76 = false := by decide +kernel
theorem mx_76 : mMx 76 = 4 := by decide +kernel
theorem rk_76 (a : List aV) : rkF 76 a = 2 := rkF_n (by decide +kernel) (by decide +kernel)
theorem ow_77 : mOwn 77 = 7 := by decide +kernel
theorem vd_77 : mVd 77 = false := by decide +kernel
theorem bz_77 : mBz 77 = false := by decide +kernel
theorem mx_77 : mMx 77 = 4 := by decide +kernel
theorem rk_77 (a : List aV) : rkF 77 a = 0 := rkF_n (by decide +kernel) (by decide +kernel)
theorem ow_78 : mOwn 78 = 7 := by decide +kernel
theorem vd_78 : mVd 78 = false := by decide +kernel
theorem bz_78 : mBz 78 = false := by decide +kernel
theorem mx_78 : mMx 78 = 4 := by decide +kernel
theorem rk_78 (a : List aV) : rkF 78 a = 1 := rkF_n (by decide +kernel) (by decide +kernel)
theorem ow_79 : mOwn 79 = 7 := by decide +kernel
theorem vd_79 : mVd 79 = true := by decide +kernel
theorem bz_79 : mBz 79 = false := by decide +kernel
theorem mx_79 : mMx 79 = 4 := by decide +kernel
theorem rk_79 (a : List aV) : rkF 79 a = 3 := rkF_n (by decide +kernel) (by decide +kernel)
theorem ow_80 : mOwn 80 = 7 := by decide +kernel
theorem vd_80 : mVd 80 = false := by decide +kernel
theorem bz_80 : mBz 80 = false := by decide +kernel
theorem mx_80 : mMx 80 = 7 := by decide +kernel
theorem rk_80 (a : List aV) : rkF 80 a = 1 := rkF_n (by decide +kernel) (by decide +kernel)
theorem ow_81 : mOwn 81 = 7 := by decide +kernel
theorem vd_81 : mVd 81 = false := by decide +kernel
theorem bz_81 : mBz 81 = false := by decide +kernel
theorem mx_81 : mMx 81 = 3 := by decide +kernel
theorem rk_81 (a : List aV) : rkF 81 a = 0 := rkF_n (by decide +kernel) (by decide +kernel)
theorem ow_82 : mOwn 82 = 7 := by decide +kernel
theorem vd_82 : mVd 82 = false := by decide +kernel
theorem bz_82 : mBz 82 = false := by decide +kernel
theorem mx_82 : mMx 82 = 2 := by decide +kernel
theorem rk_82 (a : List aV) : rkF 82 a = 0 := rkF_n (by decide +kernel) (by decide +kernel)
theorem ow_83 : mOwn 83 = 7 := by decide +kernel
theorem vd_83 : mVd 83 = false := by decide +kernel
theorem bz_83 : mBz 83 = false := by decide +kernel
theorem mx_83 : mMx 83 = 2 := by decide +kernel
theorem rk_83 (a : List aV) : rkF 83 a = 0 := rkF_n (by decide +kernel) (by decide +kernel)
theorem ow_84 : mOwn 84 = 7 := by decide +kernel
theorem vd_84 : mVd 84 = false := by decide +kernel
theorem bz_84 : mBz 84 = false := by decide +kernel
theorem mx_84 : mMx 84 = 2 := by decide +kernel
theorem rk_84 (a : List aV) : rkF 84 a = 0 := rkF_n (by decide +kernel) (by decide +kernel)
theorem ow_86 : mOwn 86 = 8 := by decide +kernel
theorem vd_86 : mVd 86 = true := by decide +kernel
theorem bz_86 : mBz 86 = false := by decide +kernel
theorem mx_86 : mMx 86 = 5 := by decide +kernel
theorem rk_86 (a : List aV) : rkF 86 a = 3 := rkF_n (by decide +kernel) (by decide +kernel)
theorem ow_87 : mOwn 87 = 8 := by decide +kernel
theorem vd_87 : mVd 87 = false := by decide +kernel
theorem bz_87 : mBz 87 = false := by decide +kernel
theorem mx_87 : mMx 87 = 6 := by decide +kernel
theorem rk_87 (a : List aV) : rkF 87 a = 2 := rkF_n (by decide +kernel) (by decide +kernel)
theorem ow_88 : mOwn 88 = 8 := by decide +kernel
theorem vd_88 : mVd 88 = false := by decide +kernel
theorem bz_88 : mBz 88 = false := by decide +kernel
theorem mx_88 : mMx 88 = 3 := by decide +kernel
theorem rk_88 (a : List aV) : rkF 88 a = 1 := rkF_n (by decide +kernel) (by decide +kernel)
theorem ow_89 : mOwn 89 = 8 := by decide +kernel
theorem vd_89 : mVd 89 = false := by decide +kernel
theorem bz_89 : mBz 89 = false := by decide +kernel
theorem mx_89 : mMx 89 = 3 := by decide +kernel
theorem rk_89 (a : List aV) : rkF 89 a = 2 := rkF_n (by decide +kernel) (by decide +kernel)
theorem ow_90 : mOwn 90 = 8 := by decide +kernel
theorem vd_90 : mVd 90 = false := by decide +kernel
theorem bz_90 : mBz 90 = false := by decide +kernel
theorem mx_90 : mMx 90 = 5 := by decide +kernel
theorem rk_90 (a : List aV) : rkF 90 a = 2 := rkF_n (by decide +kernel) (by decide +kernel)
theorem ow_92 : mOwn 92 = 9 := by decide +kernel
theorem vd_92 : mVd 92 = false := by decide +kernel
theorem bz_92 : mBz 92 = true := by decide +kernel
theorem mx_92 : mMx 92 = 1 := by decide +kernel
theorem rk_92 (a : List aV) : rkF 92 a = 0 := rkF_n (by decide +kernel) (by decide +kernel)
theorem ow_93 : mOwn 93 = 9 := by decide +kernel
theorem vd_93 : mVd 93 = true := by decide +kernel
theorem bz_93 : mBz 93 = false := by decide +kernel
theorem mx_93 : mMx 93 = 3 := by decide +kernel
theorem rk_93 (a : List aV) : rkF 93 a = 0 := rkF_n (by decide +kernel) (by decide +kernel)
theorem ow_94 : mOwn 94 = 9 := by decide +kernel
theorem vd_94 : mVd 94 = true := by decide +kernel
theorem bz_94 : mBz 94 = false := by decide +kernel
theorem mx_94 : mMx 94 = 1 := by decide +kernel
theorem rk_94 (a : List aV) : rkF 94 a = 0 := rkF_n (by decide +kernel) (by decide +kernel)
theorem ow_95 : mOwn 95 = 9 := by decide +kernel
theorem vd_95 : mVd 95 = false := by decide +kernel
theorem bz_95 : mBz 95 = false := by decide +kernel
theorem mx_95 : mMx 95 = 2 := by decide +kernel
theorem rk_95 (a : List aV) : rkF 95 a = 0 := rkF_n (by decide +kernel) (by decide +kernel)
theorem ow_96 : mOwn 96 = 9 := by decide +kernel
theorem vd_96 : mVd 96 = false := by decide +kernel
theorem bz_96 : mBz 96 = false := by decide +kernel
theorem mx_96 : mMx 96 = 2 := by decide +kernel
theorem rk_96 (a : List aV) : rkF 96 a = 1 := rkF_n (by decide +kernel) (by decide +kernel)
theorem ow_97 : mOwn 97 = 9 := by decide +kernel
theorem vd_97 : mVd 97 = false := by decide +kernel
theorem bz_97 : mBz 97 = false := by decide +kernel
theorem mx_97 : mMx 97 = 4 := by decide +kernel
theorem rk_97 (a : List aV) : rkF 97 a = 1 := rkF_n (by decide +kernel) (by decide +kernel)
theorem ow_98 : mOwn 98 = 9 := by decide +kernel
theorem vd_98 : mVd 98 = false := by decide +kernel
theorem bz_98 : mBz 98 = true := by decide +kernel
theorem mx_98 : mMx 98 = 3 := by decide +kernel
theorem rk_98 (a : List aV) : rkF 98 a = 1 := rkF_n (by decide +kernel) (by decide +kernel)
theorem ow_99 : mOwn 99 = 9 := by decide +kernel
theorem vd_99 : mVd 99 = true := by decide +kernel
theorem bz_99 : mBz 99 = false := by decide +kernel
theorem mx_99 : mMx 99 = 2 := by decide +kernel
theorem rk_99 (a : List aV) : rkF 99 a = 0 := rkF_n (by decide +kernel) (by decide +kernel)
theorem ow_100 : mOwn 100 = 9 := by decide +kernel
theorem vd_100 : mVd 100 = false := by decide +kernel
theorem bz_100 : mBz 100 = true := by decide +kernel
theorem mx_100 : mMx 100 = 1 := by decide +kernel
theorem rk_100 (a : List aV) : rkF 100 a = 0 := rkF_n (by decide +kernel) (by decide +kernel)
theorem ow_101 : mOwn 101 = 9 := by decide +kernel
theorem vd_101 : mVd 101 = false := by decide +kernel
theorem bz_101 : mBz 101 = false := by decide +kernel
theorem mx_101 : mMx 101 = 1 := by decide +kernel
theorem rk_101 (a : List aV) : rkF 101 a = 1 := rkF_n (by decide +kernel) (by decide +kernel)
theorem ow_102 : mOwn 102 = 9 := by decide +kernel
theorem vd_102 : mVd 102 = true := by decide +kernel
theorem bz_102 : mBz 102 = false := by decide +kernel
theorem mx_102 : mMx 102 = 1 := by decide +kernel
theorem rk_102 (a : List aV) : rkF 102 a = 0 := rkF_n (by decide +kernel) (by decide +kernel)
theorem ow_103 : mOwn 103 = 9 := by decide +kernel
theorem vd_103 : mVd 103 = false := by decide +kernel
theorem bz_103 : mBz 103 = true := by decide +kernel
theorem mx_103 : mMx 103 = 2 := by decide +kernel
theorem rk_103 (a : List aV) : rkF 103 a = 1 := rkF_n (by decide +kernel) (by decide +kernel)
theorem ow_104 : mOwn 104 = 9 := by decide +kernel
theorem vd_104 : mVd 104 = false := by decide +kernel
theorem bz_104 : mBz 104 = true := by decide +kernel
theorem mx_104 : mMx 104 = 3 := by decide +kernel
theorem rk_104 (a : List aV) : rkF 104 a = 1 := rkF_n (by decide +kernel) (by decide +kernel)
theorem ow_105 : mOwn 105 = 9 := by decide +kernel
theorem vd_105 : mVd 105 = false := by decide +kernel
theorem bz_105 : mBz 105 = true := by decide +kernel
theorem mx_105 : mMx 105 = 2 := by decide +kernel
theorem rk_105 (a : List aV) : rkF 105 a = 2 := rkF_n (by decide +kernel) (by decide +kernel)
theorem ow_106 : mOwn 106 = 9 := by decide +kernel
theorem vd_106 : mVd 106 = false := by decide +kernel
theorem bz_106 : mBz 106 = true := by decide +kernel
theorem mx_106 : mMx 106 = 4 := by decide +kernel
theorem rk_106 (a : List aV) : rkF 106 a = 2 := rkF_n (by decide +kernel) (by decide +kernel)
theorem ow_108 : mOwn 108 = 10 := by decide +kernel
theorem vd_108 : mVd 108 = true := by decide +kernel
theorem bz_108 : mBz 108 = false := by decide +kernel
theorem mx_108 : mMx 108 = 2 := by decide +kernel
theorem rk_108 (a : List aV) : rkF 108 a = 0 := rkF_n (by decide +kernel) (by decide +kernel)
theorem ow_109 : mOwn 109 = 10 := by decide +kernel
theorem vd_109 : mVd 109 = false := by decide +kernel
theorem bz_109 : mBz 109 = true := by decide +kernel
theorem mx_109 : mMx 109 = 2 := by decide +kernel
theorem rk_109 (a : List aV) : rkF 109 a = 1 := rkF_n (by decide +kernel) (by decide +kernel)
theorem ow_110 : mOwn 110 = 10 := by decide +kernel
theorem vd_110 : mVd 110 = false := by decide +kernel
theorem bz_110 : mBz 110 = true := by decide +kernel
theorem mx_110 : mMx 110 = 2 := by decide +kernel
theorem rk_110 (a : List aV) : rkF 110 a = 1 := rkF_n (by decide +kernel) (by decide +kernel)
theorem ow_111 : mOwn 111 = 10 := by decide +kernel
theorem vd_111 : mVd 111 = false := by decide +kernel
theorem bz_111 : mBz 111 = true := by decide +kernel
theorem mx_111 : mMx 111 = 3 := by decide +kernel
theorem rk_111 (a : List aV) : rkF 111 a = 2 := rkF_n (by decide +kernel) (by decide +kernel)
theorem ow_112 : mOwn 112 = 10 := by decide +kernel
theorem vd_112 : mVd 112 = false := by decide +kernel
theorem bz_112 : mBz 112 = true := by decide +kernel
theorem mx_112 : mMx 112 = 3 := by decide +kernel
theorem rk_112 (a : List aV) : rkF 112 a = 2 := rkF_n (by decide +kernel) (by decide +kernel)
theorem ow_113 : mOwn 113 = 10 := by decide +kernel
theorem vd_113 : mVd 113 = true := by decide +kernel
theorem bz_113 : mBz 113 = false := by decide +kernel
theorem mx_113 : mMx 113 = 3 := by decide +kernel
theorem rk_113 (a : List aV) : rkF 113 a = 1 := rkF_n (by decide +kernel) (by decide +kernel)
theorem ow_114 : mOwn 114 = 10 := by decide +kernel
theorem vd_114 : mVd 114 = false := by decide +kernel
theorem bz_114 : mBz 114 = false := by decide +kernel
theorem mx_114 : mMx 114 = 2 := by decide +kernel
theorem rk_114 (a : List aV) : rkF 114 a = 1 := rkF_n (by decide +kernel) (by decide +kernel)
theorem ow_115 : mOwn 115 = 10 := by decide +kernel
theorem vd_115 : mVd 115 = true := by decide +kernel
theorem bz_115 : mBz 115 = false := by decide +kernel
theorem mx_115 : mMx 115 = 3 := by decide +kernel
theorem rk_115 (a : List aV) : rkF 115 a = 1 := rkF_n (by decide +kernel) (by decide +kernel)
theorem ow_116 : mOwn 116 = 10 := by decide +kernel
theorem vd_116 : mVd 116 = false := by decide +kernel
theorem bz_116 : mBz 116 = false := by decide +kernel
theorem mx_116 : mMx 116 = 3 := by decide +kernel
theorem rk_116 (a : List aV) : rkF 116 a = 1 := rkF_n (by decide +kernel) (by decide +kernel)
theorem ow_117 : mOwn 117 = 10 := by decide +kernel
theorem vd_117 : mVd 117 = true := by decide +kernel
theorem bz_117 : mBz 117 = false := by decide +kernel
theorem mx_117 : mMx 117 = 4 := by decide +kernel
theorem rk_117 (a : List aV) : rkF 117 a = 1 := rkF_n (by decide +kernel) (by decide +kernel)
theorem ow_118 : mOwn 118 = 10 := by decide +kernel
theorem vd_118 : mVd 118 = false := by decide +kernel
theorem bz_118 : mBz 118 = false := by decide +kernel
theorem mx_118 : mMx 118 = 3 := by decide +kernel
theorem rk_118 (a : List aV) : rkF 118 a = 1 := rkF_n (by decide +kernel) (by decide +kernel)
theorem ow_119 : mOwn 119 = 10 := by decide +kernel
theorem vd_119 : mVd 119 = true := by decide +kernel
theorem bz_119 : mBz 119 = false := by decide +kernel
theorem mx_119 : mMx 119 = 4 := by decide +kernel
theorem rk_119 (a : List aV) : rkF 119 a = 1 := rkF_n (by decide +kernel) (by decide +kernel)
theorem ow_120 : mOwn 120 = 10 := by decide +kernel
theorem vd_120 : mVd 120 = false := by decide +kernel
theorem bz_120 : mBz 120 = false := by decide +kernel
theorem mx_120 : mMx 120 = 5 := by decide +kernel
theorem rk_120 (a : List aV) : rkF 120 a = 2 := rkF_n (by decide +kernel) (by decide +kernel)
theorem ow_121 : mOwn 121 = 10 := by decide +kernel
theorem vd_121 : mVd 121 = false := by decide +kernel
theorem bz_121 : mBz 121 = false := by decide +kernel
theorem mx_121 : mMx 121 = 4 := by decide +kernel
theorem rk_121 (a : List aV) : rkF 121 a = 0 := rkF_n (by decide +kernel) (by decide +kernel)
theorem ow_122 : mOwn 122 = 10 := by decide +kernel
theorem vd_122 : mVd 122 = false := by decide +kernel
theorem bz_122 : mBz 122 = false := by decide +kernel
theorem mx_122 : mMx 122 = 4 := by decide +kernel
theorem rk_122 (a : List aV) : rkF 122 a = 0 := rkF_n (by decide +kernel) (by decide +kernel)
theorem ow_123 : mOwn 123 = 10 := by decide +kernel
theorem vd_123 : mVd 123 = false := by decide +kernel
theorem bz_123 : mBz 123 = false := by decide +kernel
theorem mx_123 : mMx 123 = 2 := by decide +kernel
theorem rk_123 (a : List aV) : rkF 123 a = 2 := rkF_n (by decide +kernel) (by decide +kernel)
theorem ow_124 : mOwn 124 = 10 := by decide +kernel
theorem vd_124 : mVd 124 = false := by decide +kernel
theorem bz_124 : mBz 124 = false := by decide +kernel
theorem mx_124 : mMx 124 = 3 := by decide +kernel
theorem rk_124 (a : List aV) : rkF 124 a = 2 := rkF_n (by decide +kernel) (by decide +kernel)
theorem ow_125 : mOwn 125 = 10 := by decide +kernel
theorem vd_125 : mVd 125 = false := by decide +kernel
theorem bz_125 : mBz 125 = false := by decide +kernel
theorem mx_125 : mMx 125 = 3 := by decide +kernel
theorem rk_125 (a : List aV) : rkF 125 a = 1 := rkF_n (by decide +kernel) (by decide +kernel)
theorem ow_126 : mOwn 126 = 10 := by decide +kernel
theorem vd_126 : mVd 126 = false := by decide +kernel
theorem bz_126 : mBz 126 = false := by decide +kernel
theorem mx_126 : mMx 126 = 4 := by decide +kernel
theorem rk_126 (a : List aV) : rkF 126 a = 2 := rkF_n (by decide +kernel) (by decide +kernel)
theorem ow_127 : mOwn 127 = 10 := by decide +kernel
theorem vd_127 : mVd 127 = false := by decide +kernel
theorem bz_127 : mBz 127 = false := by decide +kernel
theorem mx_127 : mMx 127 = 5 := by decide +kernel
theorem rk_127 (a : List aV) : rkF 127 a = 3 := rkF_n (by decide +kernel) (by decide +kernel)
theorem ow_128 : mOwn 128 = 10 := by decide +kernel
theorem vd_128 : mVd 128 = false := by decide +kernel
theorem bz_128 : mBz 128 = false := by decide +kernel
theorem mx_128 : mMx 128 = 5 := by decide +kernel
theorem rk_128 (a : List aV) : rkF 128 a = 2 := rkF_n (by decide +kernel) (by decide +kernel)
theorem ow_129 : mOwn 129 = 10 := by decide +kernel
theorem vd_129 : mVd 129 = true := by decide +kernel
theorem bz_129 : mBz 129 = false := by decide +kernel
theorem mx_129 : mMx 129 = 3 := by decide +kernel
theorem rk_129 (a : List aV) : rkF 129 a = 2 := rkF_n (by decide +kernel) (by decide +kernel)
theorem ow_130 : mOwn 130 = 10 := by decide +kernel
theorem vd_130 : mVd 130 = true := by decide +kernel
theorem bz_130 : mBz 130 = false := by decide +kernel
theorem mx_130 : mMx 130 = 4 := by decide +kernel
theorem rk_130 (a : List aV) : rkF 130 a = 3 := rkF_n (by decide +kernel) (by decide +kernel)
theorem ow_131 : mOwn 131 = 10 := by decide +kernel
theorem vd_131 : mVd 131 = false := by decide +kernel
theorem bz_131 : mBz 131 = false := by decide +kernel
theorem mx_131 : mMx 131 = 1 := by decide +kernel
theorem rk_131 (a : List aV) : rkF 131 a = 0 := rkF_n (by decide +kernel) (by decide +kernel)
theorem ow_133 : mOwn 133 = 11 := by decide +kernel
theorem vd_133 : mVd 133 = false := by decide +kernel
theorem bz_133 : mBz 133 = true := by decide +kernel
theorem mx_133 : mMx 133 = 3 := by decide +kernel
theorem rk_133 (a : List aV) : rkF 133 a = 2 := rkF_n (by decide +kernel) (by decide +kernel)
theorem ow_134 : mOwn 134 = 11 := by decide +kernel
theorem vd_134 : mVd 134 = false := by decide +kernel
theorem bz_134 : mBz 134 = true := by decide +kernel
theorem mx_134 : mMx 134 = 4 := by decide +kernel
theorem rk_134 (a : List aV) : rkF 134 a = 3 := rkF_n (by decide +kernel) (by decide +kernel)
theorem ow_135 : mOwn 135 = 11 := by decide +kernel
theorem vd_135 : mVd 135 = false := by decide +kernel
theorem bz_135 : mBz 135 = true := by decide +kernel
theorem mx_135 : mMx 135 = 4 := by decide +kernel
theorem rk_135 (a : List aV) : rkF 135 a = 3 := rkF_n (by decide +kernel) (by decide +kernel)
theorem ow_136 : mOwn 136 = 11 := by decide +kernel
theorem vd_136 : mVd 136 = false := by decide +kernel
theorem bz_136 : mBz 136 = false := by decide +kernel
theorem mx_136 : mMx 136 = 6 := by decide +kernel
theorem rk_136 (a : List aV) : rkF 136 a = 1 := rkF_n (by decide +kernel) (by decide +kernel)
theorem ow_137 : mOwn 137 = 11 := by decide +kernel
theorem vd_137 : mVd 137 = false := by decide +kernel
theorem bz_137 : mBz 137 = false := by decide +kernel
theorem mx_137 : mMx 137 = 3 := by decide +kernel
theorem rk_137 (a : List aV) : rkF 137 a = 68 := rkF_n (by decide +kernel) (by decide +kernel)
theorem ow_138 : mOwn 138 = 11 := by decide +kernel
theorem vd_138 : mVd 138 = false := by decide +kernel
theorem bz_138 : mBz 138 = false := by decide +kernel
theorem mx_138 : mMx 138 = 3 := by decide +kernel
theorem rk_138 (a : List aV) : rkF 138 a = 6 := rkF_n (by decide +kernel) (by decide +kernel)
theorem ow_139 : mOwn 139 = 11 := by decide +kernel
theorem vd_139 : mVd 139 = false := by decide +kernel
theorem bz_139 : mBz 139 = false := by decide +kernel
theorem mx_139 : mMx 139 = 2 := by decide +kernel
theorem rk_139 (a : List aV) : rkF 139 a = 7 := rkF_n (by decide +kernel) (by decide +kernel)
theorem ow_140 : mOwn 140 = 11 := by decide +kernel
theorem vd_140 : mVd 140 = false := by decide +kernel
theorem bz_140 : mBz 140 = false := by decide +kernel
theorem mx_140 : mMx 140 = 4 := by decide +kernel
theorem rk_140 (a : List aV) : rkF 140 a = 7 := rkF_n (by decide +kernel) (by decide +kernel)
theorem ow_141 : mOwn 141 = 11 := by decide +kernel
theorem vd_141 : mVd 141 = false := by decide +kernel
theorem bz_141 : mBz 141 = false := by decide +kernel
theorem mx_141 : mMx 141 = 3 := by decide +kernel
theorem rk_141 (a : List aV) : rkF 141 a = 4 := rkF_n (by decide +kernel) (by decide +kernel)
theorem ow_142 : mOwn 142 = 11 := by decide +kernel
theorem vd_142 : mVd 142 = false := by decide +kernel
theorem bz_142 : mBz 142 = false := by decide +kernel
theorem mx_142 : mMx 142 = 3 := by decide +kernel
theorem rk_142 (a : List aV) : rkF 142 a = 3 := rkF_n (by decide +kernel) (by decide +kernel)
theorem ow_143 : mOwn 143 = 11 := by decide +kernel
theorem vd_143 : mVd 143 = false := by decide +kernel
theorem bz_143 : mBz 143 = false := by decide +kernel
theorem mx_143 : mMx 143 = 3 := by decide +kernel
theorem rk_143 (a : List aV) : rkF 143 a = 3 := rkF_n (by decide +kernel) (by decide +kernel)
theorem ow_144 : mOwn 144 = 11 := by decide +kernel
theorem vd_144 : mVd 144 = false := by decide +kernel
theorem bz_144 : mBz 144 = false := by decide +kernel
theorem mx_144 : mMx 144 = 4 := by decide +kernel
theorem rk_144 (a : List aV) : rkF 144 a = 3 := rkF_n (by decide +kernel) (by decide +kernel)
theorem ow_145 : mOwn 145 = 11 := by decide +kernel
theorem vd_145 : mVd 145 = false := by decide +kernel
theorem bz_145 : mBz 145 = false := by decide +kernel
theorem mx_145 : mMx 145 = 3 := by decide +kernel
theorem rk_145 (a : List aV) : rkF 145 a = 3 := rkF_n (by decide +kernel) (by decide +kernel)
theorem ow_146 : mOwn 146 = 11 := by decide +kernel
theorem vd_146 : mVd 146 = false := by decide +kernel
theorem bz_146 : mBz 146 = false := by decide +kernel
theorem mx_146 : mMx 146 = 6 := by decide +kernel
theorem rk_146 (a : List aV) : rkF 146 a = 4 := rkF_n (by decide +kernel) (by decide +kernel)
theorem ow_147 : mOwn 147 = 11 := by decide +kernel
theorem vd_147 : mVd 147 = false := by decide +kernel
theorem bz_147 : mBz 147 = false := by decide +kernel
theorem mx_147 : mMx 147 = 3 := by decide +kernel
theorem rk_147 (a : List aV) : rkF 147 a = 4 := rkF_n (by decide +kernel) (by decide +kernel)
theorem ow_148 : mOwn 148 = 11 := by decide +kernel
theorem vd_148 : mVd 148 = false := by decide +kernel
theorem bz_148 : mBz 148 = false := by decide +kernel
theorem mx_148 : mMx 148 = 3 := by decide +kernel
theorem rk_148 (a : List aV) : rkF 148 a = 3 := rkF_n (by decide +kernel) (by decide +kernel)
theorem ow_149 : mOwn 149 = 11 := by decide +kernel
theorem vd_149 : mVd 149 = false := by decide +kernel
theorem bz_149 : mBz 149 = false := by decide +kernel
theorem mx_149 : mMx 149 = 7 := by decide +kernel
theorem rk_149 (a : List aV) : rkF 149 a = 4 := rkF_n (by decide +kernel) (by decide +kernel)
theorem ow_150 : mOwn 150 = 11 := by decide +kernel
theorem vd_150 : mVd 150 = false := by decide +kernel
theorem bz_150 : mBz 150 = false := by decide +kernel
theorem mx_150 : mMx 150 = 3 := by decide +kernel
theorem rk_150 (a : List aV) : rkF 150 a = 3 := rkF_n (by decide +kernel) (by decide +kernel)
theorem ow_151 : mOwn 151 = 11 := by decide +kernel
theorem vd_151 : mVd 151 = false := by decide +kernel
theorem bz_151 : mBz 151 = false := by decide +kernel
theorem mx_151 : mMx 151 = 1 := by decide +kernel
theorem rk_151 (a : List aV) : rkF 151 a = 3 := rkF_n (by decide +kernel) (by decide +kernel)
theorem ow_152 : mOwn 152 = 11 := by decide +kernel
theorem vd_152 : mVd 152 = false := by decide +kernel
theorem bz_152 : mBz 152 = false := by decide +kernel
theorem mx_152 : mMx 152 = 3 := by decide +kernel
theorem rk_152 (a : List aV) : rkF 152 a = 3 := rkF_n (by decide +kernel) (by decide +kernel)
theorem ow_153 : mOwn 153 = 11 := by decide +kernel
theorem vd_153 : mVd 153 = false := by decide +kernel
theorem bz_153 : mBz 153 = false := by decide +kernel
theorem mx_153 : mMx 153 = 4 := by decide +kernel
theorem rk_153 (a : List aV) : rkF 153 a = 4 := rkF_n (by decide +kernel) (by decide +kernel)
theorem ow_154 : mOwn 154 = 11 := by decide +kernel
theorem vd_154 : mVd 154 = false := by decide +kernel
theorem bz_154 : mBz 154 = false := by decide +kernel
theorem mx_154 : mMx 154 = 5 := by decide +kernel
theorem rk_154 (a : List aV) : rkF 154 a = 4 := rkF_n (by decide +kernel) (by decide +kernel)
theorem ow_155 : mOwn 155 = 11 := by decide +kernel
theorem vd_155 : mVd 155 = false := by decide +kernel
theorem bz_155 : mBz 155 = false := by decide +kernel
theorem mx_155 : mMx 155 = 4 := by decide +kernel
theorem rk_155 (a : List aV) : rkF 155 a = 4 := rkF_n (by decide +kernel) (by decide +kernel)
theorem ow_156 : mOwn 156 = 11 := by decide +kernel
theorem vd_156 : mVd 156 = false := by decide +kernel
theorem bz_156 : mBz 156 = true := by decide +kernel
theorem mx_156 : mMx 156 = 3 := by decide +kernel
theorem rk_156 (a : List aV) : rkF 156 a = 4 := rkF_n (by decide +kernel) (by decide +kernel)
theorem ow_157 : mOwn 157 = 11 := by decide +kernel
theorem vd_157 : mVd 157 = false := by decide +kernel
theorem bz_157 : mBz 157 = false := by decide +kernel
theorem mx_157 : mMx 157 = 3 := by decide +kernel
theorem rk_157 (a : List aV) : rkF 157 a = 4 := rkF_n (by decide +kernel) (by decide +kernel)
theorem ow_158 : mOwn 158 = 11 := by decide +kernel
theorem vd_158 : mVd 158 = false := by decide +kernel
theorem bz_158 : mBz 158 = false := by decide +kernel
theorem mx_158 : mMx 158 = 11 := by decide +kernel
theorem rk_158 (a : List aV) : rkF 158 a = 3 := rkF_n (by decide +kernel) (by decide +kernel)
theorem ow_159 : mOwn 159 = 11 := by decide +kernel
theorem vd_159 : mVd 159 = false := by decide +kernel
theorem bz_159 : mBz 159 = false := by decide +kernel
theorem mx_159 : mMx 159 = 5 := by decide +kernel
theorem rk_159 (a : List aV) : rkF 159 a = 3 := rkF_n (by decide +kernel) (by decide +kernel)
theorem ow_160 : mOwn 160 = 11 := by decide +kernel
theorem vd_160 : mVd 160 = false := by decide +kernel
theorem bz_160 : mBz 160 = false := by decide +kernel
theorem mx_160 : mMx 160 = 7 := by decide +kernel
theorem rk_160 (a : List aV) : rkF 160 a = 2 := rkF_n (by decide +kernel) (by decide +kernel)
theorem ow_161 : mOwn 161 = 11 := by decide +kernel
theorem vd_161 : mVd 161 = false := by decide +kernel
theorem bz_161 : mBz 161 = false := by decide +kernel
theorem mx_161 : mMx 161 = 5 := by decide +kernel
theorem rk_161 (a : List aV) : rkF 161 a = 1 := rkF_n (by decide +kernel) (by decide +kernel)
theorem ow_162 : mOwn 162 = 11 := by decide +kernel
theorem vd_162 : mVd 162 = false := by decide +kernel
theorem bz_162 : mBz 162 = false := by decide +kernel
theorem mx_162 : mMx 162 = 4 := by decide +kernel
theorem rk_162 (a : List aV) : rkF 162 a = 1 := rkF_n (by decide +kernel) (by decide +kernel)
theorem ow_163 : mOwn 163 = 11 := by decide +kernel
theorem vd_163 : mVd 163 = false := by decide +kernel
theorem bz_163 : mBz 163 = true := by decide +kernel
theorem mx_163 : mMx 163 = 2 := by decide +kernel
theorem rk_163 (a : List aV) : rkF 163 a = 0 := rkF_n (by decide +kernel) (by decide +kernel)
theorem ow_164 : mOwn 164 = 11 := by decide +kernel
theorem vd_164 : mVd 164 = false := by decide +kernel
theorem bz_164 : mBz 164 = false := by decide +kernel
theorem mx_164 : mMx 164 = 6 := by decide +kernel
theorem rk_164 (a : List aV) : rkF 164 a = 0 := rkF_n (by decide +kernel) (by decide +kernel)
theorem ow_165 : mOwn 165 = 11 := by decide +kernel
theorem vd_165 : mVd 165 = false := by decide +kernel
theorem bz_165 : mBz 165 = false := by decide +kernel
theorem mx_165 : mMx 165 = 8 := by decide +kernel
theorem rk_165 (a : List aV) : rkF 165 a = 1 := rkF_n (by decide +kernel) (by decide +kernel)
theorem ow_166 : mOwn 166 = 11 := by decide +kernel
theorem vd_166 : mVd 166 = false := by decide +kernel
theorem bz_166 : mBz 166 = false := by decide +kernel
theorem mx_166 : mMx 166 = 4 := by decide +kernel
theorem rk_166 (a : List aV) : rkF 166 a = 2 := rkF_n (by decide +kernel) (by decide +kernel)
theorem ow_167 : mOwn 167 = 11 := by decide +kernel
theorem vd_167 : mVd 167 = false := by decide +kernel
theorem bz_167 : mBz 167 = false := by decide +kernel
theorem mx_167 : mMx 167 = 5 := by decide +kernel
theorem rk_167 (a : List aV) : rkF 167 a = 5 := rkF_n (by decide +kernel) (by decide +kernel)
theorem ow_168 : mOwn 168 = 11 := by decide +kernel
theorem vd_168 : mVd 168 = false := by decide +kernel
theorem bz_168 : mBz 168 = false := by decide +kernel
theorem mx_168 : mMx 168 = 5 := by decide +kernel
theorem rk_168 (a : List aV) : rkF 168 a = 4 := rkF_n (by decide +kernel) (by decide +kernel)
theorem ow_169 : mOwn 169 = 11 := by decide +kernel
theorem vd_169 : mVd 169 = false := by decide +kernel
theorem bz_169 : mBz 169 = false := by decide +kernel
theorem mx_169 : mMx 169 = 1 := by decide +kernel
theorem rk_169 (a : List aV) : rkF 169 a = 3 := rkF_n (by decide +kernel) (by decide +kernel)
theorem ow_170 : mOwn 170 = 11 := by decide +kernel
theorem vd_170 : mVd 170 = false := by decide +kernel
theorem bz_170 : mBz 170 = false := by decide +kernel
theorem mx_170 : mMx 170 = 3 := by decide +kernel
theorem rk_170 (a : List aV) : rkF 170 a = 2 := rkF_n (by decide +kernel) (by decide +kernel)
theorem ow_171 : mOwn 171 = 11 := by decide +kernel
theorem vd_171 : mVd 171 = false := by decide +kernel
theorem bz_171 : mBz 171 = false := by decide +kernel
theorem mx_171 : mMx 171 = 3 := by decide +kernel
theorem rk_171 (a : List aV) : rkF 171 a = 3 := rkF_n (by decide +kernel) (by decide +kernel)
theorem ow_172 : mOwn 172 = 11 := by decide +kernel
theorem vd_172 : mVd 172 = false := by decide +kernel
theorem bz_172 : mBz 172 = true := by decide +kernel
theorem mx_172 : mMx 172 = 2 := by decide +kernel
theorem rk_172 (a : List aV) : rkF 172 a = 0 := rkF_n (by decide +kernel) (by decide +kernel)
theorem ow_173 : mOwn 173 = 11 := by decide +kernel
theorem vd_173 : mVd 173 = false := by decide +kernel
theorem bz_173 : mBz 173 = false := by decide +kernel
theorem mx_173 : mMx 173 = 1 := by decide +kernel
theorem rk_173 (a : List aV) : rkF 173 a = 1 := rkF_n (by decide +kernel) (by decide +kernel)
theorem ow_174 : mOwn 174 = 11 := by decide +kernel
theorem vd_174 : mVd 174 = false := by decide +kernel
theorem bz_174 : mBz 174 = true := by decide +kernel
theorem mx_174 : mMx 174 = 1 := by decide +kernel
theorem rk_174 (a : List aV) : rkF 174 a = 1 := rkF_n (by decide +kernel) (by decide +kernel)
theorem ow_175 : mOwn 175 = 11 := by decide +kernel
theorem vd_175 : mVd 175 = false := by decide +kernel
theorem bz_175 : mBz 175 = false := by decide +kernel
theorem mx_175 : mMx 175 = 4 := by decide +kernel
theorem rk_175 (a : List aV) : rkF 175 a = 2 := rkF_n (by decide +kernel) (by decide +kernel)
theorem ow_176 : mOwn 176 = 11 := by decide +kernel
theorem vd_176 : mVd 176 = false := by decide +kernel
theorem bz_176 : mBz 176 = false := by decide +kernel
theorem mx_176 : mMx 176 = 3 := by decide +kernel
theorem rk_176 (a : List aV) : rkF 176 a = 2 := rkF_n (by decide +kernel) (by decide +kernel)
theorem ow_177 : mOwn 177 = 11 := by decide +kernel
theorem vd_177 : mVd 177 = false := by decide +kernel
theorem bz_177 : mBz 177 = true := by decide +kernel
theorem mx_177 : mMx 177 = 1 := by decide +kernel
theorem rk_177 (a : List aV) : rkF 177 a = 0 := rkF_n (by decide +kernel) (by decide +kernel)
theorem ow_178 : mOwn 178 = 11 := by decide +kernel
theorem vd_178 : mVd 178 = false := by decide +kernel
theorem bz_178 : mBz 178 = true := by decide +kernel
theorem mx_178 : mMx 178 = 1 := by decide +kernel
theorem rk_178 (a : List aV) : rkF 178 a = 0 := rkF_n (by decide +kernel) (by decide +kernel)
theorem ow_179 : mOwn 179 = 11 := by decide +kernel
theorem vd_179 : mVd 179 = false := by decide +kernel
theorem bz_179 : mBz 179 = false := by decide +kernel
theorem mx_179 : mMx 179 = 2 := by decide +kernel
theorem rk_179 (a : List aV) : rkF 179 a = 0 := rkF_n (by decide +kernel) (by decide +kernel)
theorem ow_181 : mOwn 181 = 12 := by decide +kernel
theorem vd_181 : mVd 181 = false := by decide +kernel
theorem bz_181 : mBz 181 = true := by decide +kernel
theorem mx_181 : mMx 181 = 3 := by decide +kernel
theorem rk_181 (a : List aV) : rkF 181 a = 0 := rkF_n (by decide +kernel) (by decide +kernel)
theorem ow_182 : mOwn 182 = 12 := by decide +kernel
theorem vd_182 : mVd 182 = false := by decide +kernel
theorem bz_182 : mBz 182 = false := by decide +kernel
theorem mx_182 : mMx 182 = 2 := by decide +kernel
theorem rk_182 (a : List aV) : rkF 182 a = 0 := rkF_n (by decide +kernel) (by decide +kernel)
theorem ow_183 : mOwn 183 = 12 := by decide +kernel
theorem vd_183 : mVd 183 = false := by decide +kernel
theorem bz_183 : mBz 183 = false := by decide +kernel
theorem mx_183 : mMx 183 = 2 := by decide +kernel
theorem rk_183 (a : List aV) : rkF 183 a = 0 := rkF_n (by decide +kernel) (by decide +kernel)
theorem ow_184 : mOwn 184 = 12 := by decide +kernel
theorem vd_184 : mVd 184 = false := by decide +kernel
theorem bz_184 : mBz 184 = true := by decide +kernel
theorem mx_184 : mMx 184 = 2 := by decide +kernel
theorem rk_184 (a : List aV) : rkF 184 a = 0 := rkF_n (by decide +kernel) (by decide +kernel)
theorem ow_185 : mOwn 185 = 12 := by decide +kernel
theorem vd_185 : mVd 185 = false := by decide +kernel
theorem bz_185 : mBz 185 = false := by decide +kernel
theorem mx_185 : mMx 185 = 3 := by decide +kernel
theorem rk_185 (a : List aV) : rkF 185 a = 0 := rkF_n (by decide +kernel) (by decide +kernel)
theorem ow_186 : mOwn 186 = 12 := by decide +kernel
theorem vd_186 : mVd 186 = true := by decide +kernel
theorem bz_186 : mBz 186 = false := by decide +kernel
theorem mx_186 : mMx 186 = 3 := by decide +kernel
theorem rk_186 (a : List aV) : rkF 186 a = 0 := rkF_n (by decide +kernel) (by decide +kernel)
theorem ow_187 : mOwn 187 = 12 := by decide +kernel
theorem vd_187 : mVd 187 = false := by decide +kernel
theorem bz_187 : mBz 187 = true := by decide +kernel
theorem mx_187 : mMx 187 = 2 := by decide +kernel
theorem rk_187 (a : List aV) : rkF 187 a = 1 := rkF_n (by decide +kernel) (by decide +kernel)
theorem ow_188 : mOwn 188 = 12 := by decide +kernel
theorem vd_188 : mVd 188 = false := by decide +kernel
theorem bz_188 : mBz 188 = true := by decide +kernel
theorem mx_188 : mMx 188 = 2 := by decide +kernel
theorem rk_188 (a : List aV) : rkF 188 a = 2 := rkF_n (by decide +kernel) (by decide +kernel)
theorem ow_189 : mOwn 189 = 12 := by decide +kernel
theorem vd_189 : mVd 189 = false := by decide +kernel
theorem bz_189 : mBz 189 = true := by decide +kernel
theorem mx_189 : mMx 189 = 3 := by decide +kernel
theorem rk_189 (a : List aV) : rkF 189 a = 3 := rkF_n (by decide +kernel) (by decide +kernel)
theorem ow_190 : mOwn 190 = 12 := by decide +kernel
theorem vd_190 : mVd 190 = false := by decide +kernel
theorem bz_190 : mBz 190 = false := by decide +kernel
theorem mx_190 : mMx 190 = 2 := by decide +kernel
theorem rk_190 (a : List aV) : rkF 190 a = 0 := rkF_n (by decide +kernel) (by decide +kernel)
theorem ow_191 : mOwn 191 = 12 := by decide +kernel
theorem vd_191 : mVd 191 = false := by decide +kernel
theorem bz_191 : mBz 191 = false := by decide +kernel
theorem mx_191 : mMx 191 = 2 := by decide +kernel
theorem rk_191 (a : List aV) : rkF 191 a = 0 := rkF_n (by decide +kernel) (by decide +kernel)
theorem ow_192 : mOwn 192 = 12 := by decide +kernel
theorem vd_192 : mVd 192 = false := by decide +kernel
theorem bz_192 : mBz 192 = false := by decide +kernel
theorem mx_192 : mMx 192 = 4 := by decide +kernel
theorem rk_192 (a : List aV) : rkF 192 a = 1 := rkF_n (by decide +kernel) (by decide +kernel)
theorem ow_193 : mOwn 193 = 12 := by decide +kernel
theorem vd_193 : mVd 193 = false := by decide +kernel
theorem bz_193 : mBz 193 = false := by decide +kernel
theorem mx_193 : mMx 193 = 4 := by decide +kernel
theorem rk_193 (a : List aV) : rkF 193 a = 1 := rkF_n (by decide +kernel) (by decide +kernel)
theorem ow_194 : mOwn 194 = 12 := by decide +kernel
theorem vd_194 : mVd 194 = false := by decide +kernel
theorem bz_194 : mBz 194 = false := by decide +kernel
theorem mx_194 : mMx 194 = 3 := by decide +kernel
theorem rk_194 (a : List aV) : rkF 194 a = 2 := rkF_n (by decide +kernel) (by decide +kernel)
theorem ow_195 : mOwn 195 = 12 := by decide +kernel
theorem vd_195 : mVd 195 = false := by decide +kernel
theorem bz_195 : mBz 195 = false := by decide +kernel
theorem mx_195 : mMx 195 = 2 := by decide +kernel
theorem rk_195 (a : List aV) : rkF 195 a = 2 := rkF_n (by decide +kernel) (by decide +kernel)
theorem ow_196 : mOwn 196 = 12 := by decide +kernel
theorem vd_196 : mVd 196 = false := by decide +kernel
theorem bz_196 : mBz 196 = true := by decide +kernel
theorem mx_196 : mMx 196 = 3 := by decide +kernel
theorem rk_196 (a : List aV) : rkF 196 a = 1 := rkF_n (by decide +kernel) (by decide +kernel)
theorem ow_197 : mOwn 197 = 12 := by decide +kernel
theorem vd_197 : mVd 197 = false := by decide +kernel
theorem bz_197 : mBz 197 = true := by decide +kernel
theorem mx_197 : mMx 197 = 4 := by decide +kernel
theorem rk_197 (a : List aV) : rkF 197 a = 4 := rkF_n (by decide +kernel) (by decide +kernel)
theorem ow_198 : mOwn 198 = 12 := by decide +kernel
theorem vd_198 : mVd 198 = false := by decide +kernel
theorem bz_198 : mBz 198 = true := by decide +kernel
theorem mx_198 : mMx 198 = 6 := by decide +kernel
theorem rk_198 (a : List aV) : rkF 198 a = 4 := rkF_n (by decide +kernel) (by decide +kernel)
theorem ow_199 : mOwn 199 = 12 := by decide +kernel
theorem vd_199 : mVd 199 = true := by decide +kernel
theorem bz_199 : mBz 199 = false := by decide +kernel
theorem mx_199 : mMx 199 = 3 := by decide +kernel
theorem rk_199 (a : List aV) : rkF 199 a = 0 := rkF_n (by decide +kernel) (by decide +kernel)
theorem ow_200 : mOwn 200 = 12 := by decide +kernel
theorem vd_200 : mVd 200 = false := by decide +kernel
theorem bz_200 : mBz 200 = false := by decide +kernel
theorem mx_200 : mMx 200 = 6 := by decide +kernel
theorem rk_200 (a : List aV) : rkF 200 a = 1 := rkF_n (by decide +kernel) (by decide +kernel)
theorem ow_201 : mOwn 201 = 12 := by decide +kernel
theorem vd_201 : mVd 201 = false := by decide +kernel
theorem bz_201 : mBz 201 = false := by decide +kernel
theorem mx_201 : mMx 201 = 2 := by decide +kernel
theorem rk_201 (a : List aV) : rkF 201 a = 0 := rkF_n (by decide +kernel) (by decide +kernel)
theorem ow_202 : mOwn 202 = 12 := by decide +kernel
theorem vd_202 : mVd 202 = false := by decide +kernel
theorem bz_202 : mBz 202 = false := by decide +kernel
theorem mx_202 : mMx 202 = 1 := by decide +kernel
theorem rk_202 (a : List aV) : rkF 202 a = 0 := rkF_n (by decide +kernel) (by decide +kernel)
theorem ow_203 : mOwn 203 = 12 := by decide +kernel
theorem vd_203 : mVd 203 = false := by decide +kernel
theorem bz_203 : mBz 203 = true := by decide +kernel
theorem mx_203 : mMx 203 = 1 := by decide +kernel
theorem rk_203 (a : List aV) : rkF 203 a = 1 := rkF_n (by decide +kernel) (by decide +kernel)
theorem ow_204 : mOwn 204 = 12 := by decide +kernel
theorem vd_204 : mVd 204 = false := by decide +kernel
theorem bz_204 : mBz 204 = true := by decide +kernel
theorem mx_204 : mMx 204 = 3 := by decide +kernel
theorem rk_204 (a : List aV) : rkF 204 a = 0 := rkF_n (by decide +kernel) (by decide +kernel)
theorem ow_205 : mOwn 205 = 12 := by decide +kernel
theorem vd_205 : mVd 205 = false := by decide +kernel
theorem bz_205 : mBz 205 = true := by decide +kernel
theorem mx_205 : mMx 205 = 2 := by decide +kernel
theorem rk_205 (a : List aV) : rkF 205 a = 1 := rkF_n (by decide +kernel) (by decide +kernel)
theorem ow_206 : mOwn 206 = 12 := by decide +kernel
theorem vd_206 : mVd 206 = false := by decide +kernel
theorem bz_206 : mBz 206 = true := by decide +kernel
theorem mx_206 : mMx 206 = 2 := by decide +kernel
theorem rk_206 (a : List aV) : rkF 206 a = 2 := rkF_n (by decide +kernel) (by decide +kernel)
theorem ow_207 : mOwn 207 = 12 := by decide +kernel
theorem vd_207 : mVd 207 = true := by decide +kernel
theorem bz_207 : mBz 207 = false := by decide +kernel
theorem mx_207 : mMx 207 = 3 := by decide +kernel
theorem rk_207 (a : List aV) : rkF 207 a = 0 := rkF_n (by decide +kernel) (by decide +kernel)
theorem ow_208 : mOwn 208 = 12 := by decide +kernel
theorem vd_208 : mVd 208 = false := by decide +kernel
theorem bz_208 : mBz 208 = true := by decide +kernel
theorem mx_208 : mMx 208 = 2 := by decide +kernel
theorem rk_208 (a : List aV) : rkF 208 a = 1 := rkF_n (by decide +kernel) (by decide +kernel)
theorem ow_209 : mOwn 209 = 12 := by decide +kernel
theorem vd_209 : mVd 209 = false := by decide +kernel
theorem bz_209 : mBz 209 = false := by decide +kernel
theorem mx_209 : mMx 209 = 1 := by decide +kernel
theorem rk_209 (a : List aV) : rkF 209 a = 0 := rkF_n (by decide +kernel) (by decide +kernel)
theorem ow_210 : mOwn 210 = 12 := by decide +kernel
theorem vd_210 : mVd 210 = false := by decide +kernel
theorem bz_210 : mBz 210 = false := by decide +kernel
theorem mx_210 : mMx 210 = 1 := by decide +kernel
theorem rk_210 (a : List aV) : rkF 210 a = 0 := rkF_n (by decide +kernel) (by decide +kernel)
theorem ow_211 : mOwn 211 = 12 := by decide +kernel
theorem vd_211 : mVd 211 = false := by decide +kernel
theorem bz_211 : mBz 211 = false := by decide +kernel
theorem mx_211 : mMx 211 = 1 := by decide +kernel
theorem rk_211 (a : List aV) : rkF 211 a = 0 := rkF_n (by decide +kernel) (by decide +kernel)
theorem ow_212 : mOwn 212 = 12 := by decide +kernel
theorem vd_212 : mVd 212 = true := by decide +kernel
theorem bz_212 : mBz 212 = false := by decide +kernel
theorem mx_212 : mMx 212 = 2 := by decide +kernel
theorem rk_212 (a : List aV) : rkF 212 a = 1 := rkF_n (by decide +kernel) (by decide +kernel)
theorem ow_213 : mOwn 213 = 12 := by decide +kernel
theorem vd_213 : mVd 213 = false := by decide +kernel
theorem bz_213 : mBz 213 = true := by decide +kernel
theorem mx_213 : mMx 213 = 2 := by decide +kernel
theorem rk_213 (a : List aV) : rkF 213 a = 3 := rkF_n (by decide +kernel) (by decide +kernel)
theorem ow_214 : mOwn 214 = 12 := by decide +kernel
theorem vd_214 : mVd 214 = false := by decide +kernel
theorem bz_214 : mBz 214 = true := by decide +kernel
theorem mx_214 : mMx 214 = 3 := by decide +kernel
theorem rk_214 (a : List aV) : rkF 214 a = 0 := rkF_n (by decide +kernel) (by decide +kernel)
theorem ow_215 : mOwn 215 = 12 := by decide +kernel
theorem vd_215 : mVd 215 = false := by decide +kernel
theorem bz_215 : mBz 215 = true := by decide +kernel
theorem mx_215 : mMx 215 = 3 := by decide +kernel
theorem rk_215 (a : List aV) : rkF 215 a = 4 := rkF_n (by decide +kernel) (by decide +kernel)
theorem ow_216 : mOwn 216 = 12 := by decide +kernel
theorem vd_216 : mVd 216 = true := by decide +kernel
theorem bz_216 : mBz 216 = false := by decide +kernel
theorem mx_216 : mMx 216 = 1 := by decide +kernel
theorem rk_216 (a : List aV) : rkF 216 a = 1 := rkF_n (by decide +kernel) (by decide +kernel)
theorem ow_217 : mOwn 217 = 12 := by decide +kernel
theorem vd_217 : mVd 217 = true := by decide +kernel
theorem bz_217 : mBz 217 = false := by decide +kernel
theorem mx_217 : mMx 217 = 3 := by decide +kernel
theorem rk_217 (a : List aV) : rkF 217 a = 1 := rkF_n (by decide +kernel) (by decide +kernel)
theorem ow_218 : mOwn 218 = 12 := by decide +kernel
theorem vd_218 : mVd 218 = true := by decide +kernel
theorem bz_218 : mBz 218 = false := by decide +kernel
theorem mx_218 : mMx 218 = 2 := by decide +kernel
theorem rk_218 (a : List aV) : rkF 218 a = 1 := rkF_n (by decide +kernel) (by decide +kernel)
theorem ow_219 : mOwn 219 = 12 := by decide +kernel
theorem vd_219 : mVd 219 = false := by decide +kernel
theorem bz_219 : mBz 219 = true := by decide +kernel
theorem mx_219 : mMx 219 = 2 := by decide +kernel
theorem rk_219 (a : List aV) : rkF 219 a = 5 := rkF_n (by decide +kernel) (by decide +kernel)
theorem ow_220 : mOwn 220 = 12 := by decide +kernel
theorem vd_220 : mVd 220 = false := by decide +kernel
theorem bz_220 : mBz 220 = true := by decide +kernel
theorem mx_220 : mMx 220 = 1 := by decide +kernel
theorem rk_220 (a : List aV) : rkF 220 a = 6 := rkF_n (by decide +kernel) (by decide +kernel)
theorem ow_221 : mOwn 221 = 12 := by decide +kernel
theorem vd_221 : mVd 221 = false := by decide +kernel
theorem bz_221 : mBz 221 = true := by decide +kernel
theorem mx_221 : mMx 221 = 2 := by decide +kernel
theorem rk_221 (a : List aV) : rkF 221 a = 7 := rkF_n (by decide +kernel) (by decide +kernel)
theorem ow_222 : mOwn 222 = 12 := by decide +kernel
theorem vd_222 : mVd 222 = true := by decide +kernel
theorem bz_222 : mBz 222 = false := by decide +kernel
theorem mx_222 : mMx 222 = 2 := by decide +kernel
theorem rk_222 (a : List aV) : rkF 222 a = 0 := rkF_n (by decide +kernel) (by decide +kernel)
theorem ow_223 : mOwn 223 = 12 := by decide +kernel
theorem vd_223 : mVd 223 = false := by decide +kernel
theorem bz_223 : mBz 223 = false := by decide +kernel
theorem mx_223 : mMx 223 = 4 := by decide +kernel
theorem rk_223 (a : List aV) : rkF 223 a = 8 := rkF_n (by decide +kernel) (by decide +kernel)
theorem ow_224 : mOwn 224 = 12 := by decide +kernel
theorem vd_224 : mVd 224 = false := by decide +kernel
theorem bz_224 : mBz 224 = false := by decide +kernel
theorem mx_224 : mMx 224 = 3 := by decide +kernel
theorem rk_224 (a : List aV) : rkF 224 a = 0 := rkF_n (by decide +kernel) (by decide +kernel)
theorem ow_225 : mOwn 225 = 12 := by decide +kernel
theorem vd_225 : mVd 225 = false := by decide +kernel
theorem bz_225 : mBz 225 = false := by decide +kernel
theorem mx_225 : mMx 225 = 8 := by decide +kernel
theorem rk_225 (a : List aV) : rkF 225 a = 1 := rkF_n (by decide +kernel) (by decide +kernel)
theorem ow_226 : mOwn 226 = 12 := by decide +kernel
theorem vd_226 : mVd 226 = false := by decide +kernel
theorem bz_226 : mBz 226 = false := by decide +kernel
theorem mx_226 : mMx 226 = 5 := by decide +kernel
theorem rk_226 (a : List aV) : rkF 226 a = 2 := rkF_n (by decide +kernel) (by decide +kernel)
theorem ow_227 : mOwn 227 = 12 := by decide +kernel
theorem vd_227 : mVd 227 = false := by decide +kernel
theorem bz_227 : mBz 227 = true := by decide +kernel
theorem mx_227 : mMx 227 = 3 := by decide +kernel
theorem rk_227 (a : List aV) : rkF 227 a = 2 := rkF_n (by decide +kernel) (by decide +kernel)
theorem ow_228 : mOwn 228 = 12 := by decide +kernel
theorem vd_228 : mVd 228 = true := by decide +kernel
theorem bz_228 : mBz 228 = false := by decide +kernel
theorem mx_228 : mMx 228 = 2 := by decide +kernel
theorem rk_228 (a : List aV) : rkF 228 a = 2 := rkF_n (by decide +kernel) (by decide +kernel)
theorem ow_229 : mOwn 229 = 12 := by decide +kernel
theorem vd_229 : mVd 229 = false := by decide +kernel
theorem bz_229 : mBz 229 = true := by decide +kernel
theorem mx_229 : mMx 229 = 2 := by decide +kernel
theorem rk_229 (a : List aV) : rkF 229 a = 1 := rkF_n (by decide +kernel) (by decide +kernel)
theorem ow_230 : mOwn 230 = 12 := by decide +kernel
theorem vd_230 : mVd 230 = false := by decide +kernel
theorem bz_230 : mBz 230 = true := by decide +kernel
theorem mx_230 : mMx 230 = 2 := by decide +kernel
theorem rk_230 (a : List aV) : rkF 230 a = 2 := rkF_n (by decide +kernel) (by decide +kernel)
theorem ow_231 : mOwn 231 = 12 := by decide +kernel
theorem vd_231 : mVd 231 = false := by decide +kernel
theorem bz_231 : mBz 231 = true := by decide +kernel
theorem mx_231 : mMx 231 = 4 := by decide +kernel
theorem rk_231 (a : List aV) : rkF 231 a = 1 := rkF_n (by decide +kernel) (by decide +kernel)
theorem ow_232 : mOwn 232 = 12 := by decide +kernel
theorem vd_232 : mVd 232 = false := by decide +kernel
theorem bz_232 : mBz 232 = true := by decide +kernel
theorem mx_232 : mMx 232 = 6 := by decide +kernel
theorem rk_232 (a : List aV) : rkF 232 a = 3 := rkF_n (by decide +kernel) (by decide +kernel)
theorem ow_233 : mOwn 233 = 12 := by decide +kernel
theorem vd_233 : mVd 233 = false := by decide +kernel
theorem bz_233 : mBz 233 = false := by decide +kernel
theorem mx_233 : mMx 233 = 3 := by decide +kernel
theorem rk_233 (a : List aV) : rkF 233 a = 4 := rkF_n (by decide +kernel) (by decide +kernel)
theorem ow_234 : mOwn 234 = 12 := by decide +kernel
theorem vd_234 : mVd 234 = true := by decide +kernel
theorem bz_234 : mBz 234 = false := by decide +kernel
theorem mx_234 : mMx 234 = 3 := by decide +kernel
theorem rk_234 (a : List aV) : rkF 234 a = 1 := rkF_n (by decide +kernel) (by decide +kernel)
theorem ow_235 : mOwn 235 = 12 := by decide +kernel
theorem vd_235 : mVd 235 = true := by decide +kernel
theorem bz_235 : mBz 235 = false := by decide +kernel
theorem mx_235 : mMx 235 = 2 := by decide +kernel
theorem rk_235 (a : List aV) : rkF 235 a = 2 := rkF_n (by decide +kernel) (by decide +kernel)
theorem ow_236 : mOwn 236 = 12 := by decide +kernel
theorem vd_236 : mVd 236 = true := by decide +kernel
theorem bz_236 : mBz 236 = false := by decide +kernel
theorem mx_236 : mMx 236 = 7 := by decide +kernel
theorem rk_236 (a : List aV) : rkF 236 a = 3 := rkF_n (by decide +kernel) (by decide +kernel)
theorem ow_237 : mOwn 237 = 12 := by decide +kernel
theorem vd_237 : mVd 237 = true := by decide +kernel
theorem bz_237 : mBz 237 = false := by decide +kernel
theorem mx_237 : mMx 237 = 3 := by decide +kernel
theorem rk_237 (a : List aV) : rkF 237 a = 3 := rkF_n (by decide +kernel) (by decide +kernel)
theorem ow_238 : mOwn 238 = 12 := by decide +kernel
theorem vd_238 : mVd 238 = true := by decide +kernel
theorem bz_238 : mBz 238 = false := by decide +kernel
theorem mx_238 : mMx 238 = 3 := by decide +kernel
theorem rk_238 (a : List aV) : rkF 238 a = 4 := rkF_n (by decide +kernel) (by decide +kernel)
theorem ow_239 : mOwn 239 = 12 := by decide +kernel
theorem vd_239 : mVd 239 = true := by decide +kernel
theorem bz_239 : mBz 239 = false := by decide +kernel
theorem mx_239 : mMx 239 = 3 := by decide +kernel
theorem rk_239 (a : List aV) : rkF 239 a = 5 := rkF_n (by decide +kernel) (by decide +kernel)
theorem ow_240 : mOwn 240 = 12 := by decide +kernel
theorem vd_240 : mVd 240 = false := by decide +kernel
theorem bz_240 : mBz 240 = false := by decide +kernel
theorem mx_240 : mMx 240 = 2 := by decide +kernel
theorem rk_240 (a : List aV) : rkF 240 a = 6 := rkF_n (by decide +kernel) (by decide +kernel)
theorem ow_241 : mOwn 241 = 12 := by decide +kernel
theorem vd_241 : mVd 241 = false := by decide +kernel
theorem bz_241 : mBz 241 = false := by decide +kernel
theorem mx_241 : mMx 241 = 3 := by decide +kernel
theorem rk_241 (a : List aV) : rkF 241 a = 3 := rkF_n (by decide +kernel) (by decide +kernel)
theorem ow_242 : mOwn 242 = 12 := by decide +kernel
theorem vd_242 : mVd 242 = false := by decide +kernel
theorem bz_242 : mBz 242 = false := by decide +kernel
theorem mx_242 : mMx 242 = 4 := by decide +kernel
theorem rk_242 (a : List aV) : rkF 242 a = 6 := rkF_n (by decide +kernel) (by decide +kernel)
theorem ow_243 : mOwn 243 = 12 := by decide +kernel
theorem vd_243 : mVd 243 = false := by decide +kernel
theorem bz_243 : mBz 243 = false := by decide +kernel
theorem mx_243 : mMx 243 = 7 := by decide +kernel
theorem rk_243 (a : List aV) : rkF 243 a = 1 := rkF_n (by decide +kernel) (by decide +kernel)
theorem ow_244 : mOwn 244 = 12 := by decide +kernel
theorem vd_244 : mVd 244 = false := by decide +kernel
theorem bz_244 : mBz 244 = false := by decide +kernel
theorem mx_244 : mMx 244 = 3 := by decide +kernel
theorem rk_244 (a : List aV) : rkF 244 a = 3 := rkF_n (by decide +kernel) (by decide +kernel)
theorem ow_245 : mOwn 245 = 12 := by decide +kernel
theorem vd_245 : mVd 245 = false := by decide +kernel
theorem bz_245 : mBz 245 = false := by decide +kernel
theorem mx_245 : mMx 245 = 3 := by decide +kernel
theorem rk_245 (a : List aV) : rkF 245 a = 2 := rkF_n (by decide +kernel) (by decide +kernel)
theorem ow_246 : mOwn 246 = 12 := by decide +kernel
theorem vd_246 : mVd 246 = false := by decide +kernel
theorem bz_246 : mBz 246 = false := by decide +kernel
theorem mx_246 : mMx 246 = 3 := by decide +kernel
theorem rk_246 (a : List aV) : rkF 246 a = 2 := rkF_n (by decide +kernel) (by decide +kernel)
theorem ow_247 : mOwn 247 = 12 := by decide +kernel
theorem vd_247 : mVd 247 = true := by decide +kernel
theorem bz_247 : mBz 247 = false := by decide +kernel
theorem mx_247 : mMx 247 = 3 := by decide +kernel
theorem rk_247 (a : List aV) : rkF 247 a = 1 := rkF_n (by decide +kernel) (by decide +kernel)
theorem ow_248 : mOwn 248 = 12 := by decide +kernel
theorem vd_248 : mVd 248 = false := by decide +kernel
theorem bz_248 : mBz 248 = true := by decide +kernel
theorem mx_248 : mMx 248 = 4 := by decide +kernel
theorem rk_248 (a : List aV) : rkF 248 a = 2 := rkF_n (by decide +kernel) (by decide +kernel)
theorem ow_249 : mOwn 249 = 12 := by decide +kernel
theorem vd_249 : mVd 249 = false := by decide +kernel
theorem bz_249 : mBz 249 = false := by decide +kernel
theorem mx_249 : mMx 249 = 5 := by decide +kernel
theorem rk_249 (a : List aV) : rkF 249 a = 3 := rkF_n (by decide +kernel) (by decide +kernel)
theorem ow_250 : mOwn 250 = 12 := by decide +kernel
theorem vd_250 : mVd 250 = false := by decide +kernel
theorem bz_250 : mBz 250 = false := by decide +kernel
theorem mx_250 : mMx 250 = 3 := by decide +kernel
theorem rk_250 (a : List aV) : rkF 250 a = 4 := rkF_n (by decide +kernel) (by decide +kernel)
theorem ow_251 : mOwn 251 = 12 := by decide +kernel
theorem vd_251 : mVd 251 = false := by decide +kernel
theorem bz_251 : mBz 251 = false := by decide +kernel
theorem mx_251 : mMx 251 = 2 := by decide +kernel
theorem rk_251 (a : List aV) : rkF 251 a = 4 := rkF_n (by decide +kernel) (by decide +kernel)
theorem ow_252 : mOwn 252 = 12 := by decide +kernel
theorem vd_252 : mVd 252 = false := by decide +kernel
theorem bz_252 : mBz 252 = false := by decide +kernel
theorem mx_252 : mMx 252 = 6 := by decide +kernel
theorem rk_252 (a : List aV) : rkF 252 a = 4 := rkF_n (by decide +kernel) (by decide +kernel)
theorem ow_253 : mOwn 253 = 12 := by decide +kernel
theorem vd_253 : mVd 253 = false := by decide +kernel
theorem bz_253 : mBz 253 = false := by decide +kernel
theorem mx_253 : mMx 253 = 3 := by decide +kernel
theorem rk_253 (a : List aV) : rkF 253 a = 4 := rkF_n (by decide +kernel) (by decide +kernel)
theorem ow_254 : mOwn 254 = 12 := by decide +kernel
theorem vd_254 : mVd 254 = false := by decide +kernel
theorem bz_254 : mBz 254 = false := by decide +kernel
theorem mx_254 : mMx 254 = 6 := by decide +kernel
theorem rk_254 (a : List aV) : rkF 254 a = 4 := rkF_n (by decide +kernel) (by decide +kernel)
theorem ow_255 : mOwn 255 = 12 := by decide +kernel
theorem vd_255 : mVd 255 = false := by decide +kernel
theorem bz_255 : mBz 255 = false := by decide +kernel
theorem mx_255 : mMx 255 = 5 := by decide +kernel
theorem rk_255 (a : List aV) : rkF 255 a = 4 := rkF_n (by decide +kernel) (by decide +kernel)
theorem ow_256 : mOwn 256 = 12 := by decide +kernel
theorem vd_256 : mVd 256 = false := by decide +kernel
theorem bz_256 : mBz 256 = false := by decide +kernel
theorem mx_256 : mMx 256 = 4 := by decide +kernel
theorem rk_256 (a : List aV) : rkF 256 a = 1 := rkF_n (by decide +kernel) (by decide +kernel)
theorem ow_257 : mOwn 257 = 12 := by decide +kernel
theorem vd_257 : mVd 257 = true := by decide +kernel
theorem bz_257 : mBz 257 = false := by decide +kernel
theorem mx_257 : mMx 257 = 5 := by decide +kernel
theorem rk_257 (a : List aV) : rkF 257 a = 1 := rkF_n (by decide +kernel) (by decide +kernel)
theorem ow_258 : mOwn 258 = 12 := by decide +kernel
theorem vd_258 : mVd 258 = true := by decide +kernel
theorem bz_258 : mBz 258 = false := by decide +kernel
theorem mx_258 : mMx 258 = 3 := by decide +kernel
theorem rk_258 (a : List aV) : rkF 258 a = 0 := rkF_n (by decide +kernel) (by decide +kernel)
theorem ow_259 : mOwn 259 = 12 := by decide +kernel
theorem vd_259 : mVd 259 = false := by decide +kernel
theorem bz_259 : mBz 259 = false := by decide +kernel
theorem mx_259 : mMx 259 = 4 := by decide +kernel
theorem rk_259 (a : List aV) : rkF 259 a = 2 := rkF_n (by decide +kernel) (by decide +kernel)
theorem ow_260 : mOwn 260 = 12 := by decide +kernel
theorem vd_260 : mVd 260 = false := by decide +kernel
theorem bz_260 : mBz 260 = false := by decide +kernel
theorem mx_260 : mMx 260 = 7 := by decide +kernel
theorem rk_260 (a : List aV) : rkF 260 a = 2 := rkF_n (by decide +kernel) (by decide +kernel)
theorem ow_261 : mOwn 261 = 12 := by decide +kernel
theorem vd_261 : mVd 261 = false := by decide +kernel
theorem bz_261 : mBz 261 = false := by decide +kernel
theorem mx_261 : mMx 261 = 8 := by decide +kernel
theorem rk_261 (a : List aV) : rkF 261 a = 3 := rkF_n (by decide +kernel) (by decide +kernel)
theorem ow_262 : mOwn 262 = 12 := by decide +kernel
theorem vd_262 : mVd 262 = true := by decide +kernel
theorem bz_262 : mBz 262 = false := by decide +kernel
theorem mx_262 : mMx 262 = 3 := by decide +kernel
theorem rk_262 (a : List aV) : rkF 262 a = 2 := rkF_n (by decide +kernel) (by decide +kernel)
theorem ow_263 : mOwn 263 = 12 := by decide +kernel
theorem vd_263 : mVd 263 = false := by decide +kernel
theorem bz_263 : mBz 263 = false := by decide +kernel
theorem mx_263 : mMx 263 = 4 := by decide +kernel
theorem rk_263 (a : List aV) : rkF 263 a = 3 := rkF_n (by decide +kernel) (by decide +kernel)
theorem ow_264 : mOwn 264 = 12 := by decide +kernel
theorem vd_264 : mVd 264 = false := by decide +kernel
theorem bz_264 : mBz 264 = true := by decide +kernel
theorem mx_264 : mMx 264 = 4 := by decide +kernel
theorem rk_264 (a : List aV) : rkF 264 a = 4 := rkF_n (by decide +kernel) (by decide +kernel)
theorem ow_265 : mOwn 265 = 12 := by decide +kernel
theorem vd_265 : mVd 265 = false := by decide +kernel
theorem bz_265 : mBz 265 = false := by decide +kernel
theorem mx_265 : mMx 265 = 2 := by decide +kernel
theorem rk_265 (a : List aV) : rkF 265 a = 1 := rkF_n (by decide +kernel) (by decide +kernel)
theorem ow_266 : mOwn 266 = 12 := by decide +kernel
theorem vd_266 : mVd 266 = false := by decide +kernel
theorem bz_266 : mBz 266 = false := by decide +kernel
theorem mx_266 : mMx 266 = 7 := by decide +kernel
theorem rk_266 (a : List aV) : rkF 266 a = 4 := rkF_n (by decide +kernel) (by decide +kernel)
theorem ow_267 : mOwn 267 = 12 := by decide +kernel
theorem vd_267 : mVd 267 = false := by decide +kernel
theorem bz_267 : mBz 267 = false := by decide +kernel
theorem mx_267 : mMx 267 = 8 := by decide +kernel
theorem rk_267 (a : List aV) : rkF 267 a = 1 := rkF_n (by decide +kernel) (by decide +kernel)
theorem ow_268 : mOwn 268 = 12 := by decide +kernel
theorem vd_268 : mVd 268 = false := by decide +kernel
theorem bz_268 : mBz 268 = false := by decide +kernel
theorem mx_268 : mMx 268 = 7 := by decide +kernel
theorem rk_268 (a : List aV) : rkF 268 a = 0 := rkF_n (by decide +kernel) (by decide +kernel)
theorem ow_269 : mOwn 269 = 12 := by decide +kernel
theorem vd_269 : mVd 269 = false := by decide +kernel
theorem bz_269 : mBz 269 = false := by decide +kernel
theorem mx_269 : mMx 269 = 4 := by decide +kernel
theorem rk_269 (a : List aV) : rkF 269 a = 1 := rkF_n (by decide +kernel) (by decide +kernel)
theorem ow_270 : mOwn 270 = 12 := by decide +kernel
theorem vd_270 : mVd 270 = false := by decide +kernel
theorem bz_270 : mBz 270 = false := by decide +kernel
theorem mx_270 : mMx 270 = 8 := by decide +kernel
theorem rk_270 (a : List aV) : rkF 270 a = 1 := rkF_n (by decide +kernel) (by decide +kernel)
theorem ow_271 : mOwn 271 = 12 := by decide +kernel
theorem vd_271 : mVd 271 = false := by decide +kernel
theorem bz_271 : mBz 271 = false := by decide +kernel
theorem mx_271 : mMx 271 = 3 := by decide +kernel
theorem rk_271 (a : List aV) : rkF 271 a = 1 := rkF_n (by decide +kernel) (by decide +kernel)
theorem ow_272 : mOwn 272 = 12 := by decide +kernel
theorem vd_272 : mVd 272 = false := by decide +kernel
theorem bz_272 : mBz 272 = false := by decide +kernel
theorem mx_272 : mMx 272 = 5 := by decide +kernel
theorem rk_272 (a : List aV) : rkF 272 a = 1 := rkF_n (by decide +kernel) (by decide +kernel)
theorem ow_273 : mOwn 273 = 12 := by decide +kernel
theorem vd_273 : mVd 273 = false := by decide +kernel
theorem bz_273 : mBz 273 = false := by decide +kernel
theorem mx_273 : mMx 273 = 3 := by decide +kernel
theorem rk_273 (a : List aV) : rkF 273 a = 2 := rkF_n (by decide +kernel) (by decide +kernel)
theorem ow_274 : mOwn 274 = 12 := by decide +kernel
theorem vd_274 : mVd 274 = true := by decide +kernel
theorem bz_274 : mBz 274 = false := by decide +kernel
theorem mx_274 : mMx 274 = 5 := by decide +kernel
theorem rk_274 (a : List aV) : rkF 274 a = 2 := rkF_n (by decide +kernel) (by decide +kernel)
theorem ow_275 : mOwn 275 = 12 := by decide +kernel
theorem vd_275 : mVd 275 = false := by decide +kernel
theorem bz_275 : mBz 275 = false := by decide +kernel
theorem mx_275 : mMx 275 = 5 := by decide +kernel
theorem rk_275 (a : List aV) : rkF 275 a = 3 := rkF_n (by decide +kernel) (by decide +kernel)
theorem ow_276 : mOwn 276 = 12 := by decide +kernel
theorem vd_276 : mVd 276 = false := by decide +kernel
theorem bz_276 : mBz 276 = true := by decide +kernel
theorem mx_276 : mMx 276 = 3 := by decide +kernel
theorem rk_276 (a : List aV) : rkF 276 a = 0 := rkF_n (by decide +kernel) (by decide +kernel)
theorem ow_277 : mOwn 277 = 12 := by decide +kernel
theorem vd_277 : mVd 277 = false := by decide +kernel
theorem bz_277 : mBz 277 = false := by decide +kernel
theorem mx_277 : mMx 277 = 3 := by decide +kernel
theorem rk_277 (a : List aV) : rkF 277 a = 1 := rkF_n (by decide +kernel) (by decide +kernel)
theorem ow_278 : mOwn 278 = 12 := by decide +kernel
theorem vd_278 : mVd 278 = false := by decide +kernel
theorem bz_278 : mBz 278 = false := by decide +kernel
theorem mx_278 : mMx 278 = 5 := by decide +kernel
theorem rk_278 (a : List aV) : rkF 278 a = 0 := rkF_n (by decide +kernel) (by decide +kernel)
theorem ow_279 : mOwn 279 = 12 := by decide +kernel
theorem vd_279 : mVd 279 = false := by decide +kernel
theorem bz_279 : mBz 279 = false := by decide +kernel
theorem mx_279 : mMx 279 = 7 := by decide +kernel
theorem rk_279 (a : List aV) : rkF 279 a = 1 := rkF_n (by decide +kernel) (by decide +kernel)
theorem ow_280 : mOwn 280 = 12 := by decide +kernel
theorem vd_280 : mVd 280 = false := by decide +kernel
theorem bz_280 : mBz 280 = false := by decide +kernel
theorem mx_280 : mMx 280 = 5 := by decide +kernel
theorem rk_280 (a : List aV) : rkF 280 a = 1 := rkF_n (by decide +kernel) (by decide +kernel)
theorem ow_281 : mOwn 281 = 12 := by decide +kernel
theorem vd_281 : mVd 281 = false := by decide +kernel
theorem bz_281 : mBz 281 = false := by decide +kernel
theorem mx_281 : mMx 281 = 8 := by decide +kernel
theorem rk_281 (a : List aV) : rkF 281 a = 2 := rkF_n (by decide +kernel) (by decide +kernel)
theorem ow_282 : mOwn 282 = 12 := by decide +kernel
theorem vd_282 : mVd 282 = false := by decide +kernel
theorem bz_282 : mBz 282 = true := by decide +kernel
theorem mx_282 : mMx 282 = 2 := by decide +kernel
theorem rk_282 (a : List aV) : rkF 282 a = 1 := rkF_n (by decide +kernel) (by decide +kernel)
theorem ow_283 : mOwn 283 = 12 := by decide +kernel
theorem vd_283 : mVd 283 = false := by decide +kernel
theorem bz_283 : mBz 283 = false := by decide +kernel
theorem mx_283 : mMx 283 = 1 := by decide +kernel
theorem rk_283 (a : List aV) : rkF 283 a = 1 := rkF_n (by decide +kernel) (by decide +kernel)
theorem ow_284 : mOwn 284 = 12 := by decide +kernel
theorem vd_284 : mVd 284 = false := by decide +kernel
theorem bz_284 : mBz 284 = true := by decide +kernel
theorem mx_284 : mMx 284 = 1 := by decide +kernel
theorem rk_284 (a : List aV) : rkF 284 a = 1 := rkF_n (by decide +kernel) (by decide +kernel)
theorem ow_285 : mOwn 285 = 12 := by decide +kernel
theorem vd_285 : mVd 285 = false := by decide +kernel
theorem bz_285 : mBz 285 = false := by decide +kernel
theorem mx_285 : mMx 285 = 3 := by decide +kernel
theorem rk_285 (a : List aV) : rkF 285 a = 2 := rkF_n (by decide +kernel) (by decide +kernel)
theorem ow_286 : mOwn 286 = 12 := by decide +kernel
theorem vd_286 : mVd 286 = false := by decide +kernel
theorem bz_286 : mBz 286 = false := by decide +kernel
theorem mx_286 : mMx 286 = 4 := by decide +kernel
theorem rk_286 (a : List aV) : rkF 286 a = 3 := rkF_n (by decide +kernel) (by decide +kernel)
theorem ow_287 : mOwn 287 = 14 := by decide +kernel
theorem vd_287 : mVd 287 = false := by decide +kernel
theorem bz_287 : mBz 287 = false := by decide +kernel
theorem mx_287 : mMx 287 = 1 := by decide +kernel
theorem rk_287 (a : List aV) : rkF 287 a = 0 := rkF_n (by decide +kernel) (by decide +kernel)
theorem ow_290 : mOwn 290 = 13 := by decide +kernel
theorem vd_290 : mVd 290 = false := by decide +kernel
theorem bz_290 : mBz 290 = true := by decide +kernel
theorem mx_290 : mMx 290 = 4 := by decide +kernel
theorem rk_290 (a : List aV) : rkF 290 a = 69 := rkF_n (by decide +kernel) (by decide +kernel)
theorem f_1_0 : rfI 1 0 = some (.aload_n 0, (0, 0, 0, 0)) := by decide +kernel
theorem f_1_1 : rfI 1 1 = some (.iload_n 1, (0, 0, 0, 0)) := by decide +kernel
theorem f_1_2 : rfI 1 2 = some (.iconst 0, (0, 0, 0, 0)) := by decide +kernel
theorem f_1_3 : rfI 1 3 = some (.iconst 0, (0, 0, 0, 0)) := by decide +kernel
theorem f_1_4 : rfI 1 4 = some (.invokevirtual 30, (2, 4, 11, 0)) := by decide +kernel
theorem f_1_7 : rfI 1 7 = some (.return_, (0, 0, 0, 0)) := by decide +kernel
theorem f_2_0 : rfI 2 0 = some (.aload_n 0, (0, 0, 0, 0)) := by decide +kernel
theorem f_2_1 : rfI 2 1 = some (.iload_n 1, (0, 0, 0, 0)) := by decide +kernel
theorem f_2_2 : rfI 2 2 = some (.putfield 21, (0, 3, 0, 0)) := by decide +kernel
theorem f_2_5 : rfI 2 5 = some (.aload_n 0, (0, 0, 0, 0)) := by decide +kernel
theorem f_2_6 : rfI 2 6 = some (.iload_n 2, (0, 0, 0, 0)) := by decide +kernel
theorem f_2_7 : rfI 2 7 = some (.putfield 24, (0, 4, 0, 0)) := by decide +kernel
theorem f_2_10 : rfI 2 10 = some (.aload_n 0, (0, 0, 0, 0)) := by decide +kernel
theorem f_2_11 : rfI 2 11 = some (.iload_n 3, (0, 0, 0, 0)) := by decide +kernel
theorem f_2_12 : rfI 2 12 = some (.putfield 27, (0, 5, 0, 0)) := by decide +kernel
theorem f_2_15 : rfI 2 15 = some (.return_, (0, 0, 0, 0)) := by decide +kernel
theorem f_3_0 : rfI 3 0 = some (.iconst 0, (0, 0, 0, 0)) := by decide +kernel
theorem f_3_1 : rfI 3 1 = some (.istore 5, (0, 0, 0, 0)) := by decide +kernel
theorem f_3_3 : rfI 3 3 = some (.iload 5, (0, 0, 0, 0)) := by decide +kernel
theorem f_3_5 : rfI 3 5 = some (.bipush 16, (0, 0, 0, 0)) := by decide +kernel
theorem f_3_7 : rfI 3 7 = some (.if_icmp .ge 86, (0, 0, 0, 0)) := by decide +kernel
theorem f_3_10 : rfI 3 10 = some (.iload 5, (0, 0, 0, 0)) := by decide +kernel
theorem f_3_12 : rfI 3 12 = some (.aload_n 1, (0, 0, 0, 0)) := by decide +kernel
theorem f_3_13 : rfI 3 13 = some (.getfield 36, (3, 5, 0, 0)) := by decide +kernel
theorem f_3_16 : rfI 3 16 = some (.if_icmp .ge 77, (0, 0, 0, 0)) := by decide +kernel
theorem f_3_19 : rfI 3 19 = some (.aload_n 1, (0, 0, 0, 0)) := by decide +kernel
theorem f_3_20 : rfI 3 20 = some (.getfield 39, (3, 0, 2, 0)) := by decide +kernel
theorem f_3_23 : rfI 3 23 = some (.iload 5, (0, 0, 0, 0)) := by decide +kernel
theorem f_3_25 : rfI 3 25 = some (.iaload, (0, 0, 0, 0)) := by decide +kernel
theorem f_3_26 : rfI 3 26 = some (.iload_n 3, (0, 0, 0, 0)) := by decide +kernel
theorem f_3_27 : rfI 3 27 = some (.if_icmp .ne 60, (0, 0, 0, 0)) := by decide +kernel
theorem f_3_30 : rfI 3 30 = some (.aload_n 0, (0, 0, 0, 0)) := by decide +kernel
theorem f_3_31 : rfI 3 31 = some (.aload_n 1, (0, 0, 0, 0)) := by decide +kernel
theorem f_3_32 : rfI 3 32 = some (.aload_n 2, (0, 0, 0, 0)) := by decide +kernel
theorem f_3_33 : rfI 3 33 = some (.aload_n 1, (0, 0, 0, 0)) := by decide +kernel
theorem f_3_34 : rfI 3 34 = some (.getfield 42, (3, 2, 2, 0)) := by decide +kernel
theorem f_3_37 : rfI 3 37 = some (.iload 5, (0, 0, 0, 0)) := by decide +kernel
theorem f_3_39 : rfI 3 39 = some (.iaload, (0, 0, 0, 0)) := by decide +kernel
theorem f_3_40 : rfI 3 40 = some (.aload_n 1, (0, 0, 0, 0)) := by decide +kernel
theorem f_3_41 : rfI 3 41 = some (.getfield 45, (3, 3, 2, 0)) := by decide +kernel
theorem f_3_44 : rfI 3 44 = some (.iload 5, (0, 0, 0, 0)) := by decide +kernel
theorem f_3_46 : rfI 3 46 = some (.iaload, (0, 0, 0, 0)) := by decide +kernel
theorem f_3_47 : rfI 3 47 = some (.invokevirtual 48, (5, 5, 11, 0)) := by decide +kernel
theorem f_3_50 : rfI 3 50 = some (.ifCond .eq 37, (0, 0, 0, 0)) := by decide +kernel
theorem f_3_53 : rfI 3 53 = some (.aload_n 0, (0, 0, 0, 0)) := by decide +kernel
theorem f_3_54 : rfI 3 54 = some (.aload_n 1, (0, 0, 0, 0)) := by decide +kernel
theorem f_3_55 : rfI 3 55 = some (.aload_n 2, (0, 0, 0, 0)) := by decide +kernel
theorem f_3_56 : rfI 3 56 = some (.aload_n 1, (0, 0, 0, 0)) := by decide +kernel
theorem f_3_57 : rfI 3 57 = some (.getfield 52, (3, 1, 2, 0)) := by decide +kernel
theorem f_3_60 : rfI 3 60 = some (.iload 5, (0, 0, 0, 0)) := by decide +kernel
theorem f_3_62 : rfI 3 62 = some (.iaload, (0, 0, 0, 0)) := by decide +kernel
theorem f_3_63 : rfI 3 63 = some (.aload_n 1, (0, 0, 0, 0)) := by decide +kernel
theorem f_3_64 : rfI 3 64 = some (.getfield 42, (3, 2, 2, 0)) := by decide +kernel
theorem f_3_67 : rfI 3 67 = some (.iload 5, (0, 0, 0, 0)) := by decide +kernel
theorem f_3_69 : rfI 3 69 = some (.iaload, (0, 0, 0, 0)) := by decide +kernel
theorem f_3_70 : rfI 3 70 = some (.invokevirtual 48, (5, 5, 11, 0)) := by decide +kernel
theorem f_3_73 : rfI 3 73 = some (.istore 6, (0, 0, 0, 0)) := by decide +kernel
theorem f_3_75 : rfI 3 75 = some (.iconst 0, (0, 0, 0, 0)) := by decide +kernel
theorem f_3_76 : rfI 3 76 = some (.iload 4, (0, 0, 0, 0)) := by decide +kernel
theorem f_3_78 : rfI 3 78 = some (.iload 6, (0, 0, 0, 0)) := by decide +kernel
theorem f_3_80 : rfI 3 80 = some (.invokestatic 55, (1001, 2, 14, 0)) := by decide +kernel
theorem f_3_83 : rfI 3 83 = some (.invokestatic 61, (1001, 2, 13, 0)) := by decide +kernel
theorem f_3_86 : rfI 3 86 = some (.ireturn, (0, 0, 0, 0)) := by decide +kernel
theorem f_3_87 : rfI 3 87 = some (.iinc 5 1, (0, 0, 0, 0)) := by decide +kernel
theorem f_3_90 : rfI 3 90 = some (.goto (-87), (0, 0, 0, 0)) := by decide +kernel
theorem f_3_93 : rfI 3 93 = some (.iconst 0, (0, 0, 0, 0)) := by decide +kernel
theorem f_3_94 : rfI 3 94 = some (.ireturn, (0, 0, 0, 0)) := by decide +kernel
theorem f_4_0 : rfI 4 0 = some (.iconst 0, (0, 0, 0, 0)) := by decide +kernel
theorem f_4_1 : rfI 4 1 = some (.istore 4, (0, 0, 0, 0)) := by decide +kernel
theorem f_4_3 : rfI 4 3 = some (.iload 4, (0, 0, 0, 0)) := by decide +kernel
theorem f_4_5 : rfI 4 5 = some (.bipush 16, (0, 0, 0, 0)) := by decide +kernel
theorem f_4_7 : rfI 4 7 = some (.if_icmp .ge 54, (0, 0, 0, 0)) := by decide +kernel
theorem f_4_10 : rfI 4 10 = some (.iload 4, (0, 0, 0, 0)) := by decide +kernel
theorem f_4_12 : rfI 4 12 = some (.aload_n 1, (0, 0, 0, 0)) := by decide +kernel
theorem f_4_13 : rfI 4 13 = some (.getfield 36, (3, 5, 0, 0)) := by decide +kernel
theorem f_4_16 : rfI 4 16 = some (.if_icmp .ge 45, (0, 0, 0, 0)) := by decide +kernel
theorem f_4_19 : rfI 4 19 = some (.aload_n 1, (0, 0, 0, 0)) := by decide +kernel
theorem f_4_20 : rfI 4 20 = some (.getfield 39, (3, 0, 2, 0)) := by decide +kernel
theorem f_4_23 : rfI 4 23 = some (.iload 4, (0, 0, 0, 0)) := by decide +kernel
theorem f_4_25 : rfI 4 25 = some (.iaload, (0, 0, 0, 0)) := by decide +kernel
theorem f_4_26 : rfI 4 26 = some (.iload_n 3, (0, 0, 0, 0)) := by decide +kernel
theorem f_4_27 : rfI 4 27 = some (.if_icmp .ne 28, (0, 0, 0, 0)) := by decide +kernel
theorem f_4_30 : rfI 4 30 = some (.aload_n 0, (0, 0, 0, 0)) := by decide +kernel
theorem f_4_31 : rfI 4 31 = some (.aload_n 1, (0, 0, 0, 0)) := by decide +kernel
theorem f_4_32 : rfI 4 32 = some (.aload_n 2, (0, 0, 0, 0)) := by decide +kernel
theorem f_4_33 : rfI 4 33 = some (.aload_n 1, (0, 0, 0, 0)) := by decide +kernel
theorem f_4_34 : rfI 4 34 = some (.getfield 42, (3, 2, 2, 0)) := by decide +kernel
theorem f_4_37 : rfI 4 37 = some (.iload 4, (0, 0, 0, 0)) := by decide +kernel
theorem f_4_39 : rfI 4 39 = some (.iaload, (0, 0, 0, 0)) := by decide +kernel
theorem f_4_40 : rfI 4 40 = some (.aload_n 1, (0, 0, 0, 0)) := by decide +kernel
theorem f_4_41 : rfI 4 41 = some (.getfield 45, (3, 3, 2, 0)) := by decide +kernel
theorem f_4_44 : rfI 4 44 = some (.iload 4, (0, 0, 0, 0)) := by decide +kernel
theorem f_4_46 : rfI 4 46 = some (.iaload, (0, 0, 0, 0)) := by decide +kernel
theorem f_4_47 : rfI 4 47 = some (.invokevirtual 48, (5, 5, 11, 0)) := by decide +kernel
theorem f_4_50 : rfI 4 50 = some (.ifCond .eq 5, (0, 0, 0, 0)) := by decide +kernel
theorem f_4_53 : rfI 4 53 = some (.iconst 1, (0, 0, 0, 0)) := by decide +kernel
theorem f_4_54 : rfI 4 54 = some (.ireturn, (0, 0, 0, 0)) := by decide +kernel
theorem f_4_55 : rfI 4 55 = some (.iinc 4 1, (0, 0, 0, 0)) := by decide +kernel
theorem f_4_58 : rfI 4 58 = some (.goto (-55), (0, 0, 0, 0)) := by decide +kernel
theorem f_4_61 : rfI 4 61 = some (.iconst 0, (0, 0, 0, 0)) := by decide +kernel
theorem f_4_62 : rfI 4 62 = some (.ireturn, (0, 0, 0, 0)) := by decide +kernel
theorem f_5_0 : rfI 5 0 = some (.aload_n 0, (0, 0, 0, 0)) := by decide +kernel
theorem f_5_1 : rfI 5 1 = some (.iconst 0, (0, 0, 0, 0)) := by decide +kernel
theorem f_5_2 : rfI 5 2 = some (.putfield 13, (0, 1, 0, 0)) := by decide +kernel
theorem f_5_5 : rfI 5 5 = some (.aload_n 0, (0, 0, 0, 0)) := by decide +kernel
theorem f_5_6 : rfI 5 6 = some (.iconst 0, (0, 0, 0, 0)) := by decide +kernel
theorem f_5_7 : rfI 5 7 = some (.putfield 17, (0, 2, 1, 0)) := by decide +kernel
theorem f_5_10 : rfI 5 10 = some (.iload_n 3, (0, 0, 0, 0)) := by decide +kernel
theorem f_5_11 : rfI 5 11 = some (.istore 5, (0, 0, 0, 0)) := by decide +kernel
theorem f_5_13 : rfI 5 13 = some (.iload 5, (0, 0, 0, 0)) := by decide +kernel
theorem f_5_15 : rfI 5 15 = some (.iload 4, (0, 0, 0, 0)) := by decide +kernel
theorem f_5_17 : rfI 5 17 = some (.if_icmp .ge 167, (0, 0, 0, 0)) := by decide +kernel
theorem f_5_20 : rfI 5 20 = some (.aload_n 0, (0, 0, 0, 0)) := by decide +kernel
theorem f_5_21 : rfI 5 21 = some (.getfield 17, (0, 2, 1, 0)) := by decide +kernel
theorem f_5_24 : rfI 5 24 = some (.ifCond .ne 160, (0, 0, 0, 0)) := by decide +kernel
theorem f_5_27 : rfI 5 27 = some (.aload_n 1, (0, 0, 0, 0)) := by decide +kernel
theorem f_5_28 : rfI 5 28 = some (.iload 5, (0, 0, 0, 0)) := by decide +kernel
theorem f_5_30 : rfI 5 30 = some (.invokevirtual 64, (49, 2, 11, 0)) := by decide +kernel
theorem f_5_33 : rfI 5 33 = some (.istore 6, (0, 0, 0, 0)) := by decide +kernel
theorem f_5_35 : rfI 5 35 = some (.iinc 5 1, (0, 0, 0, 0)) := by decide +kernel
theorem f_5_38 : rfI 5 38 = some (.iload 6, (0, 0, 0, 0)) := by decide +kernel
theorem f_5_40 : rfI 5 40 = some (.bipush 48, (0, 0, 0, 0)) := by decide +kernel
theorem f_5_42 : rfI 5 42 = some (.if_icmp .ne 19, (0, 0, 0, 0)) := by decide +kernel
theorem f_5_45 : rfI 5 45 = some (.aload_n 0, (0, 0, 0, 0)) := by decide +kernel
theorem f_5_46 : rfI 5 46 = some (.aload_n 1, (0, 0, 0, 0)) := by decide +kernel
theorem f_5_47 : rfI 5 47 = some (.iload 5, (0, 0, 0, 0)) := by decide +kernel
theorem f_5_49 : rfI 5 49 = some (.invokevirtual 64, (49, 2, 11, 0)) := by decide +kernel
theorem f_5_52 : rfI 5 52 = some (.invokevirtual 68, (6, 2, 11, 0)) := by decide +kernel
theorem f_5_55 : rfI 5 55 = some (.iinc 5 1, (0, 0, 0, 0)) := by decide +kernel
theorem f_5_58 : rfI 5 58 = some (.goto 123, (0, 0, 0, 0)) := by decide +kernel
theorem f_5_61 : rfI 5 61 = some (.iload 6, (0, 0, 0, 0)) := by decide +kernel
theorem f_5_63 : rfI 5 63 = some (.bipush 38, (0, 0, 0, 0)) := by decide +kernel
theorem f_5_65 : rfI 5 65 = some (.if_icmp .eq 10, (0, 0, 0, 0)) := by decide +kernel
theorem f_5_68 : rfI 5 68 = some (.iload 6, (0, 0, 0, 0)) := by decide +kernel
theorem f_5_70 : rfI 5 70 = some (.bipush 124, (0, 0, 0, 0)) := by decide +kernel
theorem f_5_72 : rfI 5 72 = some (.if_icmp .ne 75, (0, 0, 0, 0)) := by decide +kernel
theorem f_5_75 : rfI 5 75 = some (.aload_n 0, (0, 0, 0, 0)) := by decide +kernel
theorem f_5_76 : rfI 5 76 = some (.invokevirtual 72, (7, 1, 11, 0)) := by decide +kernel
theorem f_5_79 : rfI 5 79 = some (.ifCond .eq 7, (0, 0, 0, 0)) := by decide +kernel
theorem f_5_82 : rfI 5 82 = some (.iconst 1, (0, 0, 0, 0)) := by decide +kernel
theorem f_5_83 : rfI 5 83 = some (.goto 4, (0, 0, 0, 0)) := by decide +kernel
theorem f_5_86 : rfI 5 86 = some (.iconst 0, (0, 0, 0, 0)) := by decide +kernel
theorem f_5_87 : rfI 5 87 = some (.iload 6, (0, 0, 0, 0)) := by decide +kernel
theorem f_5_89 : rfI 5 89 = some (.bipush 124, (0, 0, 0, 0)) := by decide +kernel
theorem f_5_91 : rfI 5 91 = some (.if_icmp .ne 7, (0, 0, 0, 0)) := by decide +kernel
theorem f_5_94 : rfI 5 94 = some (.iconst 1, (0, 0, 0, 0)) := by decide +kernel
theorem f_5_95 : rfI 5 95 = some (.goto 4, (0, 0, 0, 0)) := by decide +kernel
theorem f_5_98 : rfI 5 98 = some (.iconst 0, (0, 0, 0, 0)) := by decide +kernel
theorem f_5_99 : rfI 5 99 = some (.if_icmp .ne 7, (0, 0, 0, 0)) := by decide +kernel
theorem f_5_102 : rfI 5 102 = some (.iconst 1, (0, 0, 0, 0)) := by decide +kernel
theorem f_5_103 : rfI 5 103 = some (.goto 4, (0, 0, 0, 0)) := by decide +kernel
theorem f_5_106 : rfI 5 106 = some (.iconst 0, (0, 0, 0, 0)) := by decide +kernel
theorem f_5_107 : rfI 5 107 = some (.istore 7, (0, 0, 0, 0)) := by decide +kernel
theorem f_5_109 : rfI 5 109 = some (.aload_n 1, (0, 0, 0, 0)) := by decide +kernel
theorem f_5_110 : rfI 5 110 = some (.iload 5, (0, 0, 0, 0)) := by decide +kernel
theorem f_5_112 : rfI 5 112 = some (.invokevirtual 64, (49, 2, 11, 0)) := by decide +kernel
theorem f_5_115 : rfI 5 115 = some (.istore 8, (0, 0, 0, 0)) := by decide +kernel
theorem f_5_117 : rfI 5 117 = some (.iinc 5 1, (0, 0, 0, 0)) := by decide +kernel
theorem f_5_120 : rfI 5 120 = some (.iload 7, (0, 0, 0, 0)) := by decide +kernel
theorem f_5_122 : rfI 5 122 = some (.ifCond .ne 11, (0, 0, 0, 0)) := by decide +kernel
theorem f_5_125 : rfI 5 125 = some (.aload_n 0, (0, 0, 0, 0)) := by decide +kernel
theorem f_5_126 : rfI 5 126 = some (.invokevirtual 76, (8, 1, 11, 0)) := by decide +kernel
theorem f_5_129 : rfI 5 129 = some (.pop, (0, 0, 0, 0)) := by decide +kernel
theorem f_5_130 : rfI 5 130 = some (.goto 14, (0, 0, 0, 0)) := by decide +kernel
theorem f_5_133 : rfI 5 133 = some (.iload 8, (0, 0, 0, 0)) := by decide +kernel
theorem f_5_135 : rfI 5 135 = some (.iload 5, (0, 0, 0, 0)) := by decide +kernel
theorem f_5_137 : rfI 5 137 = some (.if_icmp .le 7, (0, 0, 0, 0)) := by decide +kernel
theorem f_5_140 : rfI 5 140 = some (.iload 8, (0, 0, 0, 0)) := by decide +kernel
theorem f_5_142 : rfI 5 142 = some (.istore 5, (0, 0, 0, 0)) := by decide +kernel
theorem f_5_144 : rfI 5 144 = some (.goto 37, (0, 0, 0, 0)) := by decide +kernel
theorem f_5_147 : rfI 5 147 = some (.iload 6, (0, 0, 0, 0)) := by decide +kernel
theorem f_5_149 : rfI 5 149 = some (.bipush 97, (0, 0, 0, 0)) := by decide +kernel
theorem f_5_151 : rfI 5 151 = some (.if_icmp .lt 24, (0, 0, 0, 0)) := by decide +kernel
theorem f_5_154 : rfI 5 154 = some (.iload 6, (0, 0, 0, 0)) := by decide +kernel
theorem f_5_156 : rfI 5 156 = some (.bipush 122, (0, 0, 0, 0)) := by decide +kernel
theorem f_5_158 : rfI 5 158 = some (.if_icmp .gt 17, (0, 0, 0, 0)) := by decide +kernel
theorem f_5_161 : rfI 5 161 = some (.aload_n 0, (0, 0, 0, 0)) := by decide +kernel
theorem f_5_162 : rfI 5 162 = some (.aload_n 0, (0, 0, 0, 0)) := by decide +kernel
theorem f_5_163 : rfI 5 163 = some (.aload_n 2, (0, 0, 0, 0)) := by decide +kernel
theorem f_5_164 : rfI 5 164 = some (.iload 6, (0, 0, 0, 0)) := by decide +kernel
theorem f_5_166 : rfI 5 166 = some (.invokevirtual 79, (9, 3, 11, 0)) := by decide +kernel
theorem f_5_169 : rfI 5 169 = some (.invokevirtual 68, (6, 2, 11, 0)) := by decide +kernel
theorem f_5_172 : rfI 5 172 = some (.goto 9, (0, 0, 0, 0)) := by decide +kernel
theorem f_5_175 : rfI 5 175 = some (.aload_n 0, (0, 0, 0, 0)) := by decide +kernel
theorem f_5_176 : rfI 5 176 = some (.iload 6, (0, 0, 0, 0)) := by decide +kernel
theorem f_5_178 : rfI 5 178 = some (.invokevirtual 83, (10, 2, 11, 0)) := by decide +kernel
theorem f_5_181 : rfI 5 181 = some (.goto (-168), (0, 0, 0, 0)) := by decide +kernel
theorem f_5_184 : rfI 5 184 = some (.aload_n 0, (0, 0, 0, 0)) := by decide +kernel
theorem f_5_185 : rfI 5 185 = some (.getfield 17, (0, 2, 1, 0)) := by decide +kernel
theorem f_5_188 : rfI 5 188 = some (.ifCond .eq 7, (0, 0, 0, 0)) := by decide +kernel
theorem f_5_191 : rfI 5 191 = some (.iconst 0, (0, 0, 0, 0)) := by decide +kernel
theorem f_5_192 : rfI 5 192 = some (.goto 7, (0, 0, 0, 0)) := by decide +kernel
theorem f_5_195 : rfI 5 195 = some (.aload_n 0, (0, 0, 0, 0)) := by decide +kernel
theorem f_5_196 : rfI 5 196 = some (.invokevirtual 72, (7, 1, 11, 0)) := by decide +kernel
theorem f_5_199 : rfI 5 199 = some (.ireturn, (0, 0, 0, 0)) := by decide +kernel
theorem f_6_0 : rfI 6 0 = some (.aload_n 0, (0, 0, 0, 0)) := by decide +kernel
theorem f_6_1 : rfI 6 1 = some (.getfield 13, (0, 1, 0, 0)) := by decide +kernel
theorem f_6_4 : rfI 6 4 = some (.bipush 32, (0, 0, 0, 0)) := by decide +kernel
theorem f_6_6 : rfI 6 6 = some (.if_icmp .ge 23, (0, 0, 0, 0)) := by decide +kernel
theorem f_6_9 : rfI 6 9 = some (.aload_n 0, (0, 0, 0, 0)) := by decide +kernel
theorem f_6_10 : rfI 6 10 = some (.getfield 9, (0, 0, 2, 0)) := by decide +kernel
theorem f_6_13 : rfI 6 13 = some (.aload_n 0, (0, 0, 0, 0)) := by decide +kernel
theorem f_6_14 : rfI 6 14 = some (.getfield 13, (0, 1, 0, 0)) := by decide +kernel
theorem f_6_17 : rfI 6 17 = some (.iload_n 1, (0, 0, 0, 0)) := by decide +kernel
theorem f_6_18 : rfI 6 18 = some (.iastore, (0, 0, 0, 0)) := by decide +kernel
theorem f_6_19 : rfI 6 19 = some (.aload_n 0, (0, 0, 0, 0)) := by decide +kernel
theorem f_6_20 : rfI 6 20 = some (.dup, (0, 0, 0, 0)) := by decide +kernel
theorem f_6_21 : rfI 6 21 = some (.getfield 13, (0, 1, 0, 0)) := by decide +kernel
theorem f_6_24 : rfI 6 24 = some (.iconst 1, (0, 0, 0, 0)) := by decide +kernel
theorem f_6_25 : rfI 6 25 = some (.iadd, (0, 0, 0, 0)) := by decide +kernel
theorem f_6_26 : rfI 6 26 = some (.putfield 13, (0, 1, 0, 0)) := by decide +kernel
theorem f_6_29 : rfI 6 29 = some (.return_, (0, 0, 0, 0)) := by decide +kernel
theorem f_7_0 : rfI 7 0 = some (.aload_n 0, (0, 0, 0, 0)) := by decide +kernel
theorem f_7_1 : rfI 7 1 = some (.getfield 13, (0, 1, 0, 0)) := by decide +kernel
theorem f_7_4 : rfI 7 4 = some (.ifCond .le 17, (0, 0, 0, 0)) := by decide +kernel
theorem f_7_7 : rfI 7 7 = some (.aload_n 0, (0, 0, 0, 0)) := by decide +kernel
theorem f_7_8 : rfI 7 8 = some (.getfield 9, (0, 0, 2, 0)) := by decide +kernel
theorem f_7_11 : rfI 7 11 = some (.aload_n 0, (0, 0, 0, 0)) := by decide +kernel
theorem f_7_12 : rfI 7 12 = some (.getfield 13, (0, 1, 0, 0)) := by decide +kernel
theorem f_7_15 : rfI 7 15 = some (.iconst 1, (0, 0, 0, 0)) := by decide +kernel
theorem f_7_16 : rfI 7 16 = some (.isub, (0, 0, 0, 0)) := by decide +kernel
theorem f_7_17 : rfI 7 17 = some (.iaload, (0, 0, 0, 0)) := by decide +kernel
theorem f_7_18 : rfI 7 18 = some (.goto 4, (0, 0, 0, 0)) := by decide +kernel
theorem f_7_21 : rfI 7 21 = some (.iconst 0, (0, 0, 0, 0)) := by decide +kernel
theorem f_7_22 : rfI 7 22 = some (.ireturn, (0, 0, 0, 0)) := by decide +kernel
theorem f_8_0 : rfI 8 0 = some (.aload_n 0, (0, 0, 0, 0)) := by decide +kernel
theorem f_8_1 : rfI 8 1 = some (.invokevirtual 72, (7, 1, 11, 0)) := by decide +kernel
theorem f_8_4 : rfI 8 4 = some (.istore_n 1, (0, 0, 0, 0)) := by decide +kernel
theorem f_8_5 : rfI 8 5 = some (.aload_n 0, (0, 0, 0, 0)) := by decide +kernel
theorem f_8_6 : rfI 8 6 = some (.getfield 13, (0, 1, 0, 0)) := by decide +kernel
theorem f_8_9 : rfI 8 9 = some (.ifCond .le 13, (0, 0, 0, 0)) := by decide +kernel
theorem f_8_12 : rfI 8 12 = some (.aload_n 0, (0, 0, 0, 0)) := by decide +kernel
theorem f_8_13 : rfI 8 13 = some (.dup, (0, 0, 0, 0)) := by decide +kernel
theorem f_8_14 : rfI 8 14 = some (.getfield 13, (0, 1, 0, 0)) := by decide +kernel
theorem f_8_17 : rfI 8 17 = some (.iconst 1, (0, 0, 0, 0)) := by decide +kernel
theorem f_8_18 : rfI 8 18 = some (.isub, (0, 0, 0, 0)) := by decide +kernel
theorem f_8_19 : rfI 8 19 = some (.putfield 13, (0, 1, 0, 0)) := by decide +kernel
theorem f_8_22 : rfI 8 22 = some (.iload_n 1, (0, 0, 0, 0)) := by decide +kernel
theorem f_8_23 : rfI 8 23 = some (.ireturn, (0, 0, 0, 0)) := by decide +kernel
theorem f_9_0 : rfI 9 0 = some (.iload_n 2, (0, 0, 0, 0)) := by decide +kernel
theorem f_9_1 : rfI 9 1 = some (.tableswitch 121 98 111 #[71, 76, 108, 103, 121, 94, 121, 121, 121, 121, 121, 113, 121, 85], (0, 0, 0, 0)) := by decide +kernel
theorem f_9_72 : rfI 9 72 = some (.aload_n 0, (0, 0, 0, 0)) := by decide +kernel
theorem f_9_73 : rfI 9 73 = some (.getfield 21, (0, 3, 0, 0)) := by decide +kernel
theorem f_9_76 : rfI 9 76 = some (.ireturn, (0, 0, 0, 0)) := by decide +kernel
theorem f_9_77 : rfI 9 77 = some (.aload_n 1, (0, 0, 0, 0)) := by decide +kernel
theorem f_9_78 : rfI 9 78 = some (.aload_n 0, (0, 0, 0, 0)) := by decide +kernel
theorem f_9_79 : rfI 9 79 = some (.getfield 21, (0, 3, 0, 0)) := by decide +kernel
theorem f_9_82 : rfI 9 82 = some (.invokevirtual 86, (114, 2, 11, 0)) := by decide +kernel
theorem f_9_85 : rfI 9 85 = some (.ireturn, (0, 0, 0, 0)) := by decide +kernel
theorem f_9_86 : rfI 9 86 = some (.aload_n 1, (0, 0, 0, 0)) := by decide +kernel
theorem f_9_87 : rfI 9 87 = some (.aload_n 0, (0, 0, 0, 0)) := by decide +kernel
theorem f_9_88 : rfI 9 88 = some (.getfield 21, (0, 3, 0, 0)) := by decide +kernel
theorem f_9_91 : rfI 9 91 = some (.invokevirtual 91, (121, 2, 11, 0)) := by decide +kernel
theorem f_9_94 : rfI 9 94 = some (.ireturn, (0, 0, 0, 0)) := by decide +kernel
theorem f_9_95 : rfI 9 95 = some (.aload_n 1, (0, 0, 0, 0)) := by decide +kernel
theorem f_9_96 : rfI 9 96 = some (.aload_n 0, (0, 0, 0, 0)) := by decide +kernel
theorem f_9_97 : rfI 9 97 = some (.getfield 21, (0, 3, 0, 0)) := by decide +kernel
theorem f_9_100 : rfI 9 100 = some (.invokevirtual 94, (122, 2, 11, 0)) := by decide +kernel
theorem f_9_103 : rfI 9 103 = some (.ireturn, (0, 0, 0, 0)) := by decide +kernel
theorem f_9_104 : rfI 9 104 = some (.aload_n 0, (0, 0, 0, 0)) := by decide +kernel
theorem f_9_105 : rfI 9 105 = some (.getfield 24, (0, 4, 0, 0)) := by decide +kernel
theorem f_9_108 : rfI 9 108 = some (.ireturn, (0, 0, 0, 0)) := by decide +kernel
theorem f_9_109 : rfI 9 109 = some (.aload_n 0, (0, 0, 0, 0)) := by decide +kernel
theorem f_9_110 : rfI 9 110 = some (.getfield 27, (0, 5, 0, 0)) := by decide +kernel
theorem f_9_113 : rfI 9 113 = some (.ireturn, (0, 0, 0, 0)) := by decide +kernel
theorem f_9_114 : rfI 9 114 = some (.aload_n 1, (0, 0, 0, 0)) := by decide +kernel
theorem f_9_115 : rfI 9 115 = some (.getfield 97, (10, 5, 0, 0)) := by decide +kernel
theorem f_9_118 : rfI 9 118 = some (.bipush 12, (0, 0, 0, 0)) := by decide +kernel
theorem f_9_120 : rfI 9 120 = some (.irem, (0, 0, 0, 0)) := by decide +kernel
theorem f_9_121 : rfI 9 121 = some (.ireturn, (0, 0, 0, 0)) := by decide +kernel
theorem f_9_122 : rfI 9 122 = some (.iconst 0, (0, 0, 0, 0)) := by decide +kernel
theorem f_9_123 : rfI 9 123 = some (.ireturn, (0, 0, 0, 0)) := by decide +kernel
theorem f_10_0 : rfI 10 0 = some (.aload_n 0, (0, 0, 0, 0)) := by decide +kernel
theorem f_10_1 : rfI 10 1 = some (.invokevirtual 76, (8, 1, 11, 0)) := by decide +kernel
theorem f_10_4 : rfI 10 4 = some (.istore_n 2, (0, 0, 0, 0)) := by decide +kernel
theorem f_10_5 : rfI 10 5 = some (.iload_n 1, (0, 0, 0, 0)) := by decide +kernel
theorem f_10_6 : rfI 10 6 = some (.bipush 33, (0, 0, 0, 0)) := by decide +kernel
theorem f_10_8 : rfI 10 8 = some (.if_icmp .ne 17, (0, 0, 0, 0)) := by decide +kernel
theorem f_10_11 : rfI 10 11 = some (.aload_n 0, (0, 0, 0, 0)) := by decide +kernel
theorem f_10_12 : rfI 10 12 = some (.iload_n 2, (0, 0, 0, 0)) := by decide +kernel
theorem f_10_13 : rfI 10 13 = some (.ifCond .ne 7, (0, 0, 0, 0)) := by decide +kernel
theorem f_10_16 : rfI 10 16 = some (.iconst 1, (0, 0, 0, 0)) := by decide +kernel
theorem f_10_17 : rfI 10 17 = some (.goto 4, (0, 0, 0, 0)) := by decide +kernel
theorem f_10_20 : rfI 10 20 = some (.iconst 0, (0, 0, 0, 0)) := by decide +kernel
theorem f_10_21 : rfI 10 21 = some (.invokevirtual 68, (6, 2, 11, 0)) := by decide +kernel
theorem f_10_24 : rfI 10 24 = some (.return_, (0, 0, 0, 0)) := by decide +kernel
theorem f_10_25 : rfI 10 25 = some (.aload_n 0, (0, 0, 0, 0)) := by decide +kernel
theorem f_10_26 : rfI 10 26 = some (.invokevirtual 76, (8, 1, 11, 0)) := by decide +kernel
theorem f_10_29 : rfI 10 29 = some (.istore_n 3, (0, 0, 0, 0)) := by decide +kernel
theorem f_10_30 : rfI 10 30 = some (.iload_n 1, (0, 0, 0, 0)) := by decide +kernel
theorem f_10_31 : rfI 10 31 = some (.lookupswitch 138 #[(42, 77), (43, 57), (45, 67), (60, 87), (61, 121), (62, 104)], (0, 0, 0, 0)) := by decide +kernel
theorem f_10_88 : rfI 10 88 = some (.aload_n 0, (0, 0, 0, 0)) := by decide +kernel
theorem f_10_89 : rfI 10 89 = some (.iload_n 3, (0, 0, 0, 0)) := by decide +kernel
theorem f_10_90 : rfI 10 90 = some (.iload_n 2, (0, 0, 0, 0)) := by decide +kernel
theorem f_10_91 : rfI 10 91 = some (.iadd, (0, 0, 0, 0)) := by decide +kernel
theorem f_10_92 : rfI 10 92 = some (.invokevirtual 68, (6, 2, 11, 0)) := by decide +kernel
theorem f_10_95 : rfI 10 95 = some (.goto 81, (0, 0, 0, 0)) := by decide +kernel
theorem f_10_98 : rfI 10 98 = some (.aload_n 0, (0, 0, 0, 0)) := by decide +kernel
theorem f_10_99 : rfI 10 99 = some (.iload_n 3, (0, 0, 0, 0)) := by decide +kernel
theorem f_10_100 : rfI 10 100 = some (.iload_n 2, (0, 0, 0, 0)) := by decide +kernel
theorem f_10_101 : rfI 10 101 = some (.isub, (0, 0, 0, 0)) := by decide +kernel
theorem f_10_102 : rfI 10 102 = some (.invokevirtual 68, (6, 2, 11, 0)) := by decide +kernel
theorem f_10_105 : rfI 10 105 = some (.goto 71, (0, 0, 0, 0)) := by decide +kernel
theorem f_10_108 : rfI 10 108 = some (.aload_n 0, (0, 0, 0, 0)) := by decide +kernel
theorem f_10_109 : rfI 10 109 = some (.iload_n 3, (0, 0, 0, 0)) := by decide +kernel
theorem f_10_110 : rfI 10 110 = some (.iload_n 2, (0, 0, 0, 0)) := by decide +kernel
theorem f_10_111 : rfI 10 111 = some (.imul, (0, 0, 0, 0)) := by decide +kernel
theorem f_10_112 : rfI 10 112 = some (.invokevirtual 68, (6, 2, 11, 0)) := by decide +kernel
theorem f_10_115 : rfI 10 115 = some (.goto 61, (0, 0, 0, 0)) := by decide +kernel
theorem f_10_118 : rfI 10 118 = some (.aload_n 0, (0, 0, 0, 0)) := by decide +kernel
theorem f_10_119 : rfI 10 119 = some (.iload_n 3, (0, 0, 0, 0)) := by decide +kernel
theorem f_10_120 : rfI 10 120 = some (.iload_n 2, (0, 0, 0, 0)) := by decide +kernel
theorem f_10_121 : rfI 10 121 = some (.if_icmp .ge 7, (0, 0, 0, 0)) := by decide +kernel
theorem f_10_124 : rfI 10 124 = some (.iconst 1, (0, 0, 0, 0)) := by decide +kernel
theorem f_10_125 : rfI 10 125 = some (.goto 4, (0, 0, 0, 0)) := by decide +kernel
theorem f_10_128 : rfI 10 128 = some (.iconst 0, (0, 0, 0, 0)) := by decide +kernel
theorem f_10_129 : rfI 10 129 = some (.invokevirtual 68, (6, 2, 11, 0)) := by decide +kernel
theorem f_10_132 : rfI 10 132 = some (.goto 44, (0, 0, 0, 0)) := by decide +kernel
theorem f_10_135 : rfI 10 135 = some (.aload_n 0, (0, 0, 0, 0)) := by decide +kernel
theorem f_10_136 : rfI 10 136 = some (.iload_n 3, (0, 0, 0, 0)) := by decide +kernel
theorem f_10_137 : rfI 10 137 = some (.iload_n 2, (0, 0, 0, 0)) := by decide +kernel
theorem f_10_138 : rfI 10 138 = some (.if_icmp .le 7, (0, 0, 0, 0)) := by decide +kernel
theorem f_10_141 : rfI 10 141 = some (.iconst 1, (0, 0, 0, 0)) := by decide +kernel
theorem f_10_142 : rfI 10 142 = some (.goto 4, (0, 0, 0, 0)) := by decide +kernel
theorem f_10_145 : rfI 10 145 = some (.iconst 0, (0, 0, 0, 0)) := by decide +kernel
theorem f_10_146 : rfI 10 146 = some (.invokevirtual 68, (6, 2, 11, 0)) := by decide +kernel
theorem f_10_149 : rfI 10 149 = some (.goto 27, (0, 0, 0, 0)) := by decide +kernel
theorem f_10_152 : rfI 10 152 = some (.aload_n 0, (0, 0, 0, 0)) := by decide +kernel
theorem f_10_153 : rfI 10 153 = some (.iload_n 3, (0, 0, 0, 0)) := by decide +kernel
theorem f_10_154 : rfI 10 154 = some (.iload_n 2, (0, 0, 0, 0)) := by decide +kernel
theorem f_10_155 : rfI 10 155 = some (.if_icmp .ne 7, (0, 0, 0, 0)) := by decide +kernel
theorem f_10_158 : rfI 10 158 = some (.iconst 1, (0, 0, 0, 0)) := by decide +kernel
theorem f_10_159 : rfI 10 159 = some (.goto 4, (0, 0, 0, 0)) := by decide +kernel
theorem f_10_162 : rfI 10 162 = some (.iconst 0, (0, 0, 0, 0)) := by decide +kernel
theorem f_10_163 : rfI 10 163 = some (.invokevirtual 68, (6, 2, 11, 0)) := by decide +kernel
theorem f_10_166 : rfI 10 166 = some (.goto 10, (0, 0, 0, 0)) := by decide +kernel
theorem f_10_169 : rfI 10 169 = some (.aload_n 0, (0, 0, 0, 0)) := by decide +kernel
theorem f_10_170 : rfI 10 170 = some (.iload_n 1, (0, 0, 0, 0)) := by decide +kernel
theorem f_10_171 : rfI 10 171 = some (.iload_n 3, (0, 0, 0, 0)) := by decide +kernel
theorem f_10_172 : rfI 10 172 = some (.iload_n 2, (0, 0, 0, 0)) := by decide +kernel
theorem f_10_173 : rfI 10 173 = some (.invokevirtual 100, (11, 4, 11, 0)) := by decide +kernel
theorem f_10_176 : rfI 10 176 = some (.return_, (0, 0, 0, 0)) := by decide +kernel
theorem f_11_0 : rfI 11 0 = some (.iload_n 3, (0, 0, 0, 0)) := by decide +kernel
theorem f_11_1 : rfI 11 1 = some (.ifCond .ne 11, (0, 0, 0, 0)) := by decide +kernel
theorem f_11_4 : rfI 11 4 = some (.aload_n 0, (0, 0, 0, 0)) := by decide +kernel
theorem f_11_5 : rfI 11 5 = some (.iconst 1, (0, 0, 0, 0)) := by decide +kernel
theorem f_11_6 : rfI 11 6 = some (.putfield 17, (0, 2, 1, 0)) := by decide +kernel
theorem f_11_9 : rfI 11 9 = some (.goto 22, (0, 0, 0, 0)) := by decide +kernel
theorem f_11_12 : rfI 11 12 = some (.aload_n 0, (0, 0, 0, 0)) := by decide +kernel
theorem f_11_13 : rfI 11 13 = some (.iload_n 1, (0, 0, 0, 0)) := by decide +kernel
theorem f_11_14 : rfI 11 14 = some (.bipush 47, (0, 0, 0, 0)) := by decide +kernel
theorem f_11_16 : rfI 11 16 = some (.if_icmp .ne 9, (0, 0, 0, 0)) := by decide +kernel
theorem f_11_19 : rfI 11 19 = some (.iload_n 2, (0, 0, 0, 0)) := by decide +kernel
theorem f_11_20 : rfI 11 20 = some (.iload_n 3, (0, 0, 0, 0)) := by decide +kernel
theorem f_11_21 : rfI 11 21 = some (.idiv, (0, 0, 0, 0)) := by decide +kernel
theorem f_11_22 : rfI 11 22 = some (.goto 6, (0, 0, 0, 0)) := by decide +kernel
theorem f_11_25 : rfI 11 25 = some (.iload_n 2, (0, 0, 0, 0)) := by decide +kernel
theorem f_11_26 : rfI 11 26 = some (.iload_n 3, (0, 0, 0, 0)) := by decide +kernel
theorem f_11_27 : rfI 11 27 = some (.irem, (0, 0, 0, 0)) := by decide +kernel
theorem f_11_28 : rfI 11 28 = some (.invokevirtual 68, (6, 2, 11, 0)) := by decide +kernel
theorem f_11_31 : rfI 11 31 = some (.return_, (0, 0, 0, 0)) := by decide +kernel
theorem f_13_0 : rfI 13 0 = some (.iconst 0, (0, 0, 0, 0)) := by decide +kernel
theorem f_13_1 : rfI 13 1 = some (.istore_n 2, (0, 0, 0, 0)) := by decide +kernel
theorem f_13_2 : rfI 13 2 = some (.iload_n 2, (0, 0, 0, 0)) := by decide +kernel
theorem f_13_3 : rfI 13 3 = some (.bipush 8, (0, 0, 0, 0)) := by decide +kernel
theorem f_13_5 : rfI 13 5 = some (.if_icmp .ge 62, (0, 0, 0, 0)) := by decide +kernel
theorem f_13_8 : rfI 13 8 = some (.aload_n 0, (0, 0, 0, 0)) := by decide +kernel
theorem f_13_9 : rfI 13 9 = some (.getfield 15, (1, 1, 2, 0)) := by decide +kernel
theorem f_13_12 : rfI 13 12 = some (.iload_n 2, (0, 0, 0, 0)) := by decide +kernel
theorem f_13_13 : rfI 13 13 = some (.aload_n 1, (0, 0, 0, 0)) := by decide +kernel
theorem f_13_14 : rfI 13 14 = some (.iload_n 2, (0, 0, 0, 0)) := by decide +kernel
theorem f_13_15 : rfI 13 15 = some (.invokevirtual 34, (114, 2, 11, 0)) := by decide +kernel
theorem f_13_18 : rfI 13 18 = some (.iastore, (0, 0, 0, 0)) := by decide +kernel
theorem f_13_19 : rfI 13 19 = some (.aload_n 0, (0, 0, 0, 0)) := by decide +kernel
theorem f_13_20 : rfI 13 20 = some (.getfield 18, (1, 2, 2, 0)) := by decide +kernel
theorem f_13_23 : rfI 13 23 = some (.iload_n 2, (0, 0, 0, 0)) := by decide +kernel
theorem f_13_24 : rfI 13 24 = some (.aload_n 1, (0, 0, 0, 0)) := by decide +kernel
theorem f_13_25 : rfI 13 25 = some (.iload_n 2, (0, 0, 0, 0)) := by decide +kernel
theorem f_13_26 : rfI 13 26 = some (.invokevirtual 40, (121, 2, 11, 0)) := by decide +kernel
theorem f_13_29 : rfI 13 29 = some (.iastore, (0, 0, 0, 0)) := by decide +kernel
theorem f_13_30 : rfI 13 30 = some (.iconst 0, (0, 0, 0, 0)) := by decide +kernel
theorem f_13_31 : rfI 13 31 = some (.istore_n 3, (0, 0, 0, 0)) := by decide +kernel
theorem f_13_32 : rfI 13 32 = some (.iload_n 3, (0, 0, 0, 0)) := by decide +kernel
theorem f_13_33 : rfI 13 33 = some (.bipush 8, (0, 0, 0, 0)) := by decide +kernel
theorem f_13_35 : rfI 13 35 = some (.if_icmp .ge 26, (0, 0, 0, 0)) := by decide +kernel
theorem f_13_38 : rfI 13 38 = some (.aload_n 0, (0, 0, 0, 0)) := by decide +kernel
theorem f_13_39 : rfI 13 39 = some (.getfield 9, (1, 0, 2, 0)) := by decide +kernel
theorem f_13_42 : rfI 13 42 = some (.iload_n 2, (0, 0, 0, 0)) := by decide +kernel
theorem f_13_43 : rfI 13 43 = some (.bipush 8, (0, 0, 0, 0)) := by decide +kernel
theorem f_13_45 : rfI 13 45 = some (.imul, (0, 0, 0, 0)) := by decide +kernel
theorem f_13_46 : rfI 13 46 = some (.iload_n 3, (0, 0, 0, 0)) := by decide +kernel
theorem f_13_47 : rfI 13 47 = some (.iadd, (0, 0, 0, 0)) := by decide +kernel
theorem f_13_48 : rfI 13 48 = some (.aload_n 1, (0, 0, 0, 0)) := by decide +kernel
theorem f_13_49 : rfI 13 49 = some (.iload_n 2, (0, 0, 0, 0)) := by decide +kernel
theorem f_13_50 : rfI 13 50 = some (.iload_n 3, (0, 0, 0, 0)) := by decide +kernel
theorem f_13_51 : rfI 13 51 = some (.invokevirtual 43, (116, 3, 11, 0)) := by decide +kernel
theorem f_13_54 : rfI 13 54 = some (.iastore, (0, 0, 0, 0)) := by decide +kernel
theorem f_13_55 : rfI 13 55 = some (.iinc 3 1, (0, 0, 0, 0)) := by decide +kernel
theorem f_13_58 : rfI 13 58 = some (.goto (-26), (0, 0, 0, 0)) := by decide +kernel
theorem f_13_61 : rfI 13 61 = some (.iinc 2 1, (0, 0, 0, 0)) := by decide +kernel
theorem f_13_64 : rfI 13 64 = some (.goto (-62), (0, 0, 0, 0)) := by decide +kernel
theorem f_13_67 : rfI 13 67 = some (.return_, (0, 0, 0, 0)) := by decide +kernel
theorem f_14_0 : rfI 14 0 = some (.iload_n 1, (0, 0, 0, 0)) := by decide +kernel
theorem f_14_1 : rfI 14 1 = some (.invokestatic 47, (177, 1, 10, 0)) := by decide +kernel
theorem f_14_4 : rfI 14 4 = some (.ifCond .eq 21, (0, 0, 0, 0)) := by decide +kernel
theorem f_14_7 : rfI 14 7 = some (.aload_n 0, (0, 0, 0, 0)) := by decide +kernel
theorem f_14_8 : rfI 14 8 = some (.getfield 15, (1, 1, 2, 0)) := by decide +kernel
theorem f_14_11 : rfI 14 11 = some (.iload_n 1, (0, 0, 0, 0)) := by decide +kernel
theorem f_14_12 : rfI 14 12 = some (.iconst 0, (0, 0, 0, 0)) := by decide +kernel
theorem f_14_13 : rfI 14 13 = some (.aload_n 0, (0, 0, 0, 0)) := by decide +kernel
theorem f_14_14 : rfI 14 14 = some (.getfield 15, (1, 1, 2, 0)) := by decide +kernel
theorem f_14_17 : rfI 14 17 = some (.iload_n 1, (0, 0, 0, 0)) := by decide +kernel
theorem f_14_18 : rfI 14 18 = some (.iaload, (0, 0, 0, 0)) := by decide +kernel
theorem f_14_19 : rfI 14 19 = some (.iload_n 2, (0, 0, 0, 0)) := by decide +kernel
theorem f_14_20 : rfI 14 20 = some (.isub, (0, 0, 0, 0)) := by decide +kernel
theorem f_14_21 : rfI 14 21 = some (.invokestatic 51, (1001, 2, 13, 0)) := by decide +kernel
theorem f_14_24 : rfI 14 24 = some (.iastore, (0, 0, 0, 0)) := by decide +kernel
theorem f_14_25 : rfI 14 25 = some (.return_, (0, 0, 0, 0)) := by decide +kernel
theorem f_15_0 : rfI 15 0 = some (.aload_n 0, (0, 0, 0, 0)) := by decide +kernel
theorem f_15_1 : rfI 15 1 = some (.iconst 0, (0, 0, 0, 0)) := by decide +kernel
theorem f_15_2 : rfI 15 2 = some (.putfield 30, (1, 6, 0, 0)) := by decide +kernel
theorem f_15_5 : rfI 15 5 = some (.iconst 0, (0, 0, 0, 0)) := by decide +kernel
theorem f_15_6 : rfI 15 6 = some (.istore_n 1, (0, 0, 0, 0)) := by decide +kernel
theorem f_15_7 : rfI 15 7 = some (.iload_n 1, (0, 0, 0, 0)) := by decide +kernel
theorem f_15_8 : rfI 15 8 = some (.bipush 8, (0, 0, 0, 0)) := by decide +kernel
theorem f_15_10 : rfI 15 10 = some (.if_icmp .ge 28, (0, 0, 0, 0)) := by decide +kernel
theorem f_15_13 : rfI 15 13 = some (.aload_n 0, (0, 0, 0, 0)) := by decide +kernel
theorem f_15_14 : rfI 15 14 = some (.getfield 21, (1, 3, 2, 0)) := by decide +kernel
theorem f_15_17 : rfI 15 17 = some (.iload_n 1, (0, 0, 0, 0)) := by decide +kernel
theorem f_15_18 : rfI 15 18 = some (.aload_n 0, (0, 0, 0, 0)) := by decide +kernel
theorem f_15_19 : rfI 15 19 = some (.getfield 18, (1, 2, 2, 0)) := by decide +kernel
theorem f_15_22 : rfI 15 22 = some (.iload_n 1, (0, 0, 0, 0)) := by decide +kernel
theorem f_15_23 : rfI 15 23 = some (.iaload, (0, 0, 0, 0)) := by decide +kernel
theorem f_15_24 : rfI 15 24 = some (.iastore, (0, 0, 0, 0)) := by decide +kernel
theorem f_15_25 : rfI 15 25 = some (.aload_n 0, (0, 0, 0, 0)) := by decide +kernel
theorem f_15_26 : rfI 15 26 = some (.getfield 27, (1, 5, 2, 0)) := by decide +kernel
theorem f_15_29 : rfI 15 29 = some (.iload_n 1, (0, 0, 0, 0)) := by decide +kernel
theorem f_15_30 : rfI 15 30 = some (.iconst 0, (0, 0, 0, 0)) := by decide +kernel
theorem f_15_31 : rfI 15 31 = some (.iastore, (0, 0, 0, 0)) := by decide +kernel
theorem f_15_32 : rfI 15 32 = some (.iinc 1 1, (0, 0, 0, 0)) := by decide +kernel
theorem f_15_35 : rfI 15 35 = some (.goto (-28), (0, 0, 0, 0)) := by decide +kernel
theorem f_15_38 : rfI 15 38 = some (.iconst 1, (0, 0, 0, 0)) := by decide +kernel
theorem f_15_39 : rfI 15 39 = some (.istore_n 1, (0, 0, 0, 0)) := by decide +kernel
theorem f_15_40 : rfI 15 40 = some (.iload_n 1, (0, 0, 0, 0)) := by decide +kernel
theorem f_15_41 : rfI 15 41 = some (.ldc 56, (4, 4, 4, 1000000)) := by decide +kernel
theorem f_15_43 : rfI 15 43 = some (.if_icmp .gt 27, (0, 0, 0, 0)) := by decide +kernel
theorem f_15_46 : rfI 15 46 = some (.aload_n 0, (0, 0, 0, 0)) := by decide +kernel
theorem f_15_47 : rfI 15 47 = some (.invokevirtual 57, (16, 1, 11, 0)) := by decide +kernel
theorem f_15_50 : rfI 15 50 = some (.aload_n 0, (0, 0, 0, 0)) := by decide +kernel
theorem f_15_51 : rfI 15 51 = some (.iload_n 1, (0, 0, 0, 0)) := by decide +kernel
theorem f_15_52 : rfI 15 52 = some (.invokevirtual 60, (17, 2, 11, 0)) := by decide +kernel
theorem f_15_55 : rfI 15 55 = some (.ifCond .ne 4, (0, 0, 0, 0)) := by decide +kernel
theorem f_15_58 : rfI 15 58 = some (.return_, (0, 0, 0, 0)) := by decide +kernel
theorem f_15_59 : rfI 15 59 = some (.aload_n 0, (0, 0, 0, 0)) := by decide +kernel
theorem f_15_60 : rfI 15 60 = some (.iload_n 1, (0, 0, 0, 0)) := by decide +kernel
theorem f_15_61 : rfI 15 61 = some (.putfield 30, (1, 6, 0, 0)) := by decide +kernel
theorem f_15_64 : rfI 15 64 = some (.iinc 1 1, (0, 0, 0, 0)) := by decide +kernel
theorem f_15_67 : rfI 15 67 = some (.goto (-27), (0, 0, 0, 0)) := by decide +kernel
theorem f_15_70 : rfI 15 70 = some (.return_, (0, 0, 0, 0)) := by decide +kernel
theorem f_16_0 : rfI 16 0 = some (.iconst 0, (0, 0, 0, 0)) := by decide +kernel
theorem f_16_1 : rfI 16 1 = some (.istore_n 1, (0, 0, 0, 0)) := by decide +kernel
theorem f_16_2 : rfI 16 2 = some (.iload_n 1, (0, 0, 0, 0)) := by decide +kernel
theorem f_16_3 : rfI 16 3 = some (.bipush 8, (0, 0, 0, 0)) := by decide +kernel
theorem f_16_5 : rfI 16 5 = some (.if_icmp .ge 16, (0, 0, 0, 0)) := by decide +kernel
theorem f_16_8 : rfI 16 8 = some (.aload_n 0, (0, 0, 0, 0)) := by decide +kernel
theorem f_16_9 : rfI 16 9 = some (.getfield 24, (1, 4, 2, 0)) := by decide +kernel
theorem f_16_12 : rfI 16 12 = some (.iload_n 1, (0, 0, 0, 0)) := by decide +kernel
theorem f_16_13 : rfI 16 13 = some (.iconst 0, (0, 0, 0, 0)) := by decide +kernel
theorem f_16_14 : rfI 16 14 = some (.iastore, (0, 0, 0, 0)) := by decide +kernel
theorem f_16_15 : rfI 16 15 = some (.iinc 1 1, (0, 0, 0, 0)) := by decide +kernel
theorem f_16_18 : rfI 16 18 = some (.goto (-16), (0, 0, 0, 0)) := by decide +kernel
theorem f_16_21 : rfI 16 21 = some (.iconst 0, (0, 0, 0, 0)) := by decide +kernel
theorem f_16_22 : rfI 16 22 = some (.istore_n 1, (0, 0, 0, 0)) := by decide +kernel
theorem f_16_23 : rfI 16 23 = some (.iload_n 1, (0, 0, 0, 0)) := by decide +kernel
theorem f_16_24 : rfI 16 24 = some (.bipush 8, (0, 0, 0, 0)) := by decide +kernel
theorem f_16_26 : rfI 16 26 = some (.if_icmp .ge 66, (0, 0, 0, 0)) := by decide +kernel
theorem f_16_29 : rfI 16 29 = some (.aload_n 0, (0, 0, 0, 0)) := by decide +kernel
theorem f_16_30 : rfI 16 30 = some (.getfield 18, (1, 2, 2, 0)) := by decide +kernel
theorem f_16_33 : rfI 16 33 = some (.iload_n 1, (0, 0, 0, 0)) := by decide +kernel
theorem f_16_34 : rfI 16 34 = some (.iaload, (0, 0, 0, 0)) := by decide +kernel
theorem f_16_35 : rfI 16 35 = some (.ifCond .le 51, (0, 0, 0, 0)) := by decide +kernel
theorem f_16_38 : rfI 16 38 = some (.iconst 0, (0, 0, 0, 0)) := by decide +kernel
theorem f_16_39 : rfI 16 39 = some (.istore_n 2, (0, 0, 0, 0)) := by decide +kernel
theorem f_16_40 : rfI 16 40 = some (.iload_n 2, (0, 0, 0, 0)) := by decide +kernel
theorem f_16_41 : rfI 16 41 = some (.bipush 8, (0, 0, 0, 0)) := by decide +kernel
theorem f_16_43 : rfI 16 43 = some (.if_icmp .ge 43, (0, 0, 0, 0)) := by decide +kernel
theorem f_16_46 : rfI 16 46 = some (.aload_n 0, (0, 0, 0, 0)) := by decide +kernel
theorem f_16_47 : rfI 16 47 = some (.getfield 24, (1, 4, 2, 0)) := by decide +kernel
theorem f_16_50 : rfI 16 50 = some (.iload_n 2, (0, 0, 0, 0)) := by decide +kernel
theorem f_16_51 : rfI 16 51 = some (.dup2, (0, 0, 0, 0)) := by decide +kernel
theorem f_16_52 : rfI 16 52 = some (.iaload, (0, 0, 0, 0)) := by decide +kernel
theorem f_16_53 : rfI 16 53 = some (.aload_n 0, (0, 0, 0, 0)) := by decide +kernel
theorem f_16_54 : rfI 16 54 = some (.getfield 9, (1, 0, 2, 0)) := by decide +kernel
theorem f_16_57 : rfI 16 57 = some (.iload_n 1, (0, 0, 0, 0)) := by decide +kernel
theorem f_16_58 : rfI 16 58 = some (.bipush 8, (0, 0, 0, 0)) := by decide +kernel
theorem f_16_60 : rfI 16 60 = some (.imul, (0, 0, 0, 0)) := by decide +kernel
theorem f_16_61 : rfI 16 61 = some (.iload_n 2, (0, 0, 0, 0)) := by decide +kernel
theorem f_16_62 : rfI 16 62 = some (.iadd, (0, 0, 0, 0)) := by decide +kernel
theorem f_16_63 : rfI 16 63 = some (.iaload, (0, 0, 0, 0)) := by decide +kernel
theorem f_16_64 : rfI 16 64 = some (.aload_n 0, (0, 0, 0, 0)) := by decide +kernel
theorem f_16_65 : rfI 16 65 = some (.getfield 21, (1, 3, 2, 0)) := by decide +kernel
theorem f_16_68 : rfI 16 68 = some (.iload_n 1, (0, 0, 0, 0)) := by decide +kernel
theorem f_16_69 : rfI 16 69 = some (.iaload, (0, 0, 0, 0)) := by decide +kernel
theorem f_16_70 : rfI 16 70 = some (.imul, (0, 0, 0, 0)) := by decide +kernel
theorem f_16_71 : rfI 16 71 = some (.aload_n 0, (0, 0, 0, 0)) := by decide +kernel
theorem f_16_72 : rfI 16 72 = some (.getfield 18, (1, 2, 2, 0)) := by decide +kernel
theorem f_16_75 : rfI 16 75 = some (.iload_n 1, (0, 0, 0, 0)) := by decide +kernel
theorem f_16_76 : rfI 16 76 = some (.iaload, (0, 0, 0, 0)) := by decide +kernel
theorem f_16_77 : rfI 16 77 = some (.idiv, (0, 0, 0, 0)) := by decide +kernel
theorem f_16_78 : rfI 16 78 = some (.iadd, (0, 0, 0, 0)) := by decide +kernel
theorem f_16_79 : rfI 16 79 = some (.iastore, (0, 0, 0, 0)) := by decide +kernel
theorem f_16_80 : rfI 16 80 = some (.iinc 2 1, (0, 0, 0, 0)) := by decide +kernel
theorem f_16_83 : rfI 16 83 = some (.goto (-43), (0, 0, 0, 0)) := by decide +kernel
theorem f_16_86 : rfI 16 86 = some (.iinc 1 1, (0, 0, 0, 0)) := by decide +kernel
theorem f_16_89 : rfI 16 89 = some (.goto (-66), (0, 0, 0, 0)) := by decide +kernel
theorem f_16_92 : rfI 16 92 = some (.return_, (0, 0, 0, 0)) := by decide +kernel
theorem f_17_0 : rfI 17 0 = some (.iconst 0, (0, 0, 0, 0)) := by decide +kernel
theorem f_17_1 : rfI 17 1 = some (.istore_n 2, (0, 0, 0, 0)) := by decide +kernel
theorem f_17_2 : rfI 17 2 = some (.iconst 0, (0, 0, 0, 0)) := by decide +kernel
theorem f_17_3 : rfI 17 3 = some (.istore_n 3, (0, 0, 0, 0)) := by decide +kernel
theorem f_17_4 : rfI 17 4 = some (.iload_n 3, (0, 0, 0, 0)) := by decide +kernel
theorem f_17_5 : rfI 17 5 = some (.bipush 8, (0, 0, 0, 0)) := by decide +kernel
theorem f_17_7 : rfI 17 7 = some (.if_icmp .ge 70, (0, 0, 0, 0)) := by decide +kernel
theorem f_17_10 : rfI 17 10 = some (.aload_n 0, (0, 0, 0, 0)) := by decide +kernel
theorem f_17_11 : rfI 17 11 = some (.getfield 18, (1, 2, 2, 0)) := by decide +kernel
theorem f_17_14 : rfI 17 14 = some (.iload_n 3, (0, 0, 0, 0)) := by decide +kernel
theorem f_17_15 : rfI 17 15 = some (.iaload, (0, 0, 0, 0)) := by decide +kernel
theorem f_17_16 : rfI 17 16 = some (.aload_n 0, (0, 0, 0, 0)) := by decide +kernel
theorem f_17_17 : rfI 17 17 = some (.getfield 15, (1, 1, 2, 0)) := by decide +kernel
theorem f_17_20 : rfI 17 20 = some (.iload_n 3, (0, 0, 0, 0)) := by decide +kernel
theorem f_17_21 : rfI 17 21 = some (.iaload, (0, 0, 0, 0)) := by decide +kernel
theorem f_17_22 : rfI 17 22 = some (.aload_n 0, (0, 0, 0, 0)) := by decide +kernel
theorem f_17_23 : rfI 17 23 = some (.getfield 24, (1, 4, 2, 0)) := by decide +kernel
theorem f_17_26 : rfI 17 26 = some (.iload_n 3, (0, 0, 0, 0)) := by decide +kernel
theorem f_17_27 : rfI 17 27 = some (.iaload, (0, 0, 0, 0)) := by decide +kernel
theorem f_17_28 : rfI 17 28 = some (.iadd, (0, 0, 0, 0)) := by decide +kernel
theorem f_17_29 : rfI 17 29 = some (.invokestatic 63, (1001, 2, 14, 0)) := by decide +kernel
theorem f_17_32 : rfI 17 32 = some (.istore 4, (0, 0, 0, 0)) := by decide +kernel
theorem f_17_34 : rfI 17 34 = some (.iload 4, (0, 0, 0, 0)) := by decide +kernel
theorem f_17_36 : rfI 17 36 = some (.aload_n 0, (0, 0, 0, 0)) := by decide +kernel
theorem f_17_37 : rfI 17 37 = some (.getfield 21, (1, 3, 2, 0)) := by decide +kernel
theorem f_17_40 : rfI 17 40 = some (.iload_n 3, (0, 0, 0, 0)) := by decide +kernel
theorem f_17_41 : rfI 17 41 = some (.iaload, (0, 0, 0, 0)) := by decide +kernel
theorem f_17_42 : rfI 17 42 = some (.if_icmp .ge 29, (0, 0, 0, 0)) := by decide +kernel
theorem f_17_45 : rfI 17 45 = some (.iconst 1, (0, 0, 0, 0)) := by decide +kernel
theorem f_17_46 : rfI 17 46 = some (.istore_n 2, (0, 0, 0, 0)) := by decide +kernel
theorem f_17_47 : rfI 17 47 = some (.aload_n 0, (0, 0, 0, 0)) := by decide +kernel
theorem f_17_48 : rfI 17 48 = some (.getfield 21, (1, 3, 2, 0)) := by decide +kernel
theorem f_17_51 : rfI 17 51 = some (.iload_n 3, (0, 0, 0, 0)) := by decide +kernel
theorem f_17_52 : rfI 17 52 = some (.iload 4, (0, 0, 0, 0)) := by decide +kernel
theorem f_17_54 : rfI 17 54 = some (.iastore, (0, 0, 0, 0)) := by decide +kernel
theorem f_17_55 : rfI 17 55 = some (.aload_n 0, (0, 0, 0, 0)) := by decide +kernel
theorem f_17_56 : rfI 17 56 = some (.getfield 27, (1, 5, 2, 0)) := by decide +kernel
theorem f_17_59 : rfI 17 59 = some (.iload_n 3, (0, 0, 0, 0)) := by decide +kernel
theorem f_17_60 : rfI 17 60 = some (.iaload, (0, 0, 0, 0)) := by decide +kernel
theorem f_17_61 : rfI 17 61 = some (.ifCond .ne 10, (0, 0, 0, 0)) := by decide +kernel
theorem f_17_64 : rfI 17 64 = some (.aload_n 0, (0, 0, 0, 0)) := by decide +kernel
theorem f_17_65 : rfI 17 65 = some (.getfield 27, (1, 5, 2, 0)) := by decide +kernel
theorem f_17_68 : rfI 17 68 = some (.iload_n 3, (0, 0, 0, 0)) := by decide +kernel
theorem f_17_69 : rfI 17 69 = some (.iload_n 1, (0, 0, 0, 0)) := by decide +kernel
theorem f_17_70 : rfI 17 70 = some (.iastore, (0, 0, 0, 0)) := by decide +kernel
theorem f_17_71 : rfI 17 71 = some (.iinc 3 1, (0, 0, 0, 0)) := by decide +kernel
theorem f_17_74 : rfI 17 74 = some (.goto (-70), (0, 0, 0, 0)) := by decide +kernel
theorem f_17_77 : rfI 17 77 = some (.iload_n 2, (0, 0, 0, 0)) := by decide +kernel
theorem f_17_78 : rfI 17 78 = some (.ireturn, (0, 0, 0, 0)) := by decide +kernel
theorem f_18_0 : rfI 18 0 = some (.iload_n 1, (0, 0, 0, 0)) := by decide +kernel
theorem f_18_1 : rfI 18 1 = some (.invokestatic 47, (177, 1, 10, 0)) := by decide +kernel
theorem f_18_4 : rfI 18 4 = some (.ifCond .eq 12, (0, 0, 0, 0)) := by decide +kernel
theorem f_18_7 : rfI 18 7 = some (.aload_n 0, (0, 0, 0, 0)) := by decide +kernel
theorem f_18_8 : rfI 18 8 = some (.getfield 21, (1, 3, 2, 0)) := by decide +kernel
theorem f_18_11 : rfI 18 11 = some (.iload_n 1, (0, 0, 0, 0)) := by decide +kernel
theorem f_18_12 : rfI 18 12 = some (.iaload, (0, 0, 0, 0)) := by decide +kernel
theorem f_18_13 : rfI 18 13 = some (.goto 4, (0, 0, 0, 0)) := by decide +kernel
theorem f_18_16 : rfI 18 16 = some (.iconst 0, (0, 0, 0, 0)) := by decide +kernel
theorem f_18_17 : rfI 18 17 = some (.ireturn, (0, 0, 0, 0)) := by decide +kernel
theorem f_19_0 : rfI 19 0 = some (.iload_n 1, (0, 0, 0, 0)) := by decide +kernel
theorem f_19_1 : rfI 19 1 = some (.invokestatic 47, (177, 1, 10, 0)) := by decide +kernel
theorem f_19_4 : rfI 19 4 = some (.ifCond .eq 12, (0, 0, 0, 0)) := by decide +kernel
theorem f_19_7 : rfI 19 7 = some (.aload_n 0, (0, 0, 0, 0)) := by decide +kernel
theorem f_19_8 : rfI 19 8 = some (.getfield 24, (1, 4, 2, 0)) := by decide +kernel
theorem f_19_11 : rfI 19 11 = some (.iload_n 1, (0, 0, 0, 0)) := by decide +kernel
theorem f_19_12 : rfI 19 12 = some (.iaload, (0, 0, 0, 0)) := by decide +kernel
theorem f_19_13 : rfI 19 13 = some (.goto 4, (0, 0, 0, 0)) := by decide +kernel
theorem f_19_16 : rfI 19 16 = some (.iconst 0, (0, 0, 0, 0)) := by decide +kernel
theorem f_19_17 : rfI 19 17 = some (.ireturn, (0, 0, 0, 0)) := by decide +kernel
theorem f_20_0 : rfI 20 0 = some (.iload_n 1, (0, 0, 0, 0)) := by decide +kernel
theorem f_20_1 : rfI 20 1 = some (.invokestatic 47, (177, 1, 10, 0)) := by decide +kernel
theorem f_20_4 : rfI 20 4 = some (.ifCond .eq 12, (0, 0, 0, 0)) := by decide +kernel
theorem f_20_7 : rfI 20 7 = some (.aload_n 0, (0, 0, 0, 0)) := by decide +kernel
theorem f_20_8 : rfI 20 8 = some (.getfield 27, (1, 5, 2, 0)) := by decide +kernel
theorem f_20_11 : rfI 20 11 = some (.iload_n 1, (0, 0, 0, 0)) := by decide +kernel
theorem f_20_12 : rfI 20 12 = some (.iaload, (0, 0, 0, 0)) := by decide +kernel
theorem f_20_13 : rfI 20 13 = some (.goto 4, (0, 0, 0, 0)) := by decide +kernel
theorem f_20_16 : rfI 20 16 = some (.iconst 0, (0, 0, 0, 0)) := by decide +kernel
theorem f_20_17 : rfI 20 17 = some (.ireturn, (0, 0, 0, 0)) := by decide +kernel
theorem f_21_0 : rfI 21 0 = some (.iconst 0, (0, 0, 0, 0)) := by decide +kernel
theorem f_21_1 : rfI 21 1 = some (.istore_n 1, (0, 0, 0, 0)) := by decide +kernel
theorem f_21_2 : rfI 21 2 = some (.iconst 0, (0, 0, 0, 0)) := by decide +kernel
theorem f_21_3 : rfI 21 3 = some (.istore_n 2, (0, 0, 0, 0)) := by decide +kernel
theorem f_21_4 : rfI 21 4 = some (.iload_n 2, (0, 0, 0, 0)) := by decide +kernel
theorem f_21_5 : rfI 21 5 = some (.bipush 8, (0, 0, 0, 0)) := by decide +kernel
theorem f_21_7 : rfI 21 7 = some (.if_icmp .ge 24, (0, 0, 0, 0)) := by decide +kernel
theorem f_21_10 : rfI 21 10 = some (.aload_n 0, (0, 0, 0, 0)) := by decide +kernel
theorem f_21_11 : rfI 21 11 = some (.getfield 27, (1, 5, 2, 0)) := by decide +kernel
theorem f_21_14 : rfI 21 14 = some (.iload_n 2, (0, 0, 0, 0)) := by decide +kernel
theorem f_21_15 : rfI 21 15 = some (.iaload, (0, 0, 0, 0)) := by decide +kernel
theorem f_21_16 : rfI 21 16 = some (.ifCond .le 9, (0, 0, 0, 0)) := by decide +kernel
theorem f_21_19 : rfI 21 19 = some (.iload_n 1, (0, 0, 0, 0)) := by decide +kernel
theorem f_21_20 : rfI 21 20 = some (.iconst 1, (0, 0, 0, 0)) := by decide +kernel
theorem f_21_21 : rfI 21 21 = some (.iload_n 2, (0, 0, 0, 0)) := by decide +kernel
theorem f_21_22 : rfI 21 22 = some (.ishl, (0, 0, 0, 0)) := by decide +kernel
theorem f_21_23 : rfI 21 23 = some (.ior, (0, 0, 0, 0)) := by decide +kernel
theorem f_21_24 : rfI 21 24 = some (.istore_n 1, (0, 0, 0, 0)) := by decide +kernel
theorem f_21_25 : rfI 21 25 = some (.iinc 2 1, (0, 0, 0, 0)) := by decide +kernel
theorem f_21_28 : rfI 21 28 = some (.goto (-24), (0, 0, 0, 0)) := by decide +kernel
theorem f_21_31 : rfI 21 31 = some (.iload_n 1, (0, 0, 0, 0)) := by decide +kernel
theorem f_21_32 : rfI 21 32 = some (.ireturn, (0, 0, 0, 0)) := by decide +kernel
theorem f_23_0 : rfI 23 0 = some (.iload_n 1, (0, 0, 0, 0)) := by decide +kernel
theorem f_23_1 : rfI 23 1 = some (.ifCond .lt 15, (0, 0, 0, 0)) := by decide +kernel
theorem f_23_4 : rfI 23 4 = some (.iload_n 1, (0, 0, 0, 0)) := by decide +kernel
theorem f_23_5 : rfI 23 5 = some (.bipush 8, (0, 0, 0, 0)) := by decide +kernel
theorem f_23_7 : rfI 23 7 = some (.if_icmp .ge 9, (0, 0, 0, 0)) := by decide +kernel
theorem f_23_10 : rfI 23 10 = some (.iload_n 3, (0, 0, 0, 0)) := by decide +kernel
theorem f_23_11 : rfI 23 11 = some (.bipush 6, (0, 0, 0, 0)) := by decide +kernel
theorem f_23_13 : rfI 23 13 = some (.if_icmp .le 4, (0, 0, 0, 0)) := by decide +kernel
theorem f_23_16 : rfI 23 16 = some (.return_, (0, 0, 0, 0)) := by decide +kernel
theorem f_23_17 : rfI 23 17 = some (.aload_n 0, (0, 0, 0, 0)) := by decide +kernel
theorem f_23_18 : rfI 23 18 = some (.getfield 9, (2, 0, 2, 0)) := by decide +kernel
theorem f_23_21 : rfI 23 21 = some (.iload_n 1, (0, 0, 0, 0)) := by decide +kernel
theorem f_23_22 : rfI 23 22 = some (.iload_n 3, (0, 0, 0, 0)) := by decide +kernel
theorem f_23_23 : rfI 23 23 = some (.iastore, (0, 0, 0, 0)) := by decide +kernel
theorem f_23_24 : rfI 23 24 = some (.iconst 0, (0, 0, 0, 0)) := by decide +kernel
theorem f_23_25 : rfI 23 25 = some (.istore 4, (0, 0, 0, 0)) := by decide +kernel
theorem f_23_27 : rfI 23 27 = some (.iload 4, (0, 0, 0, 0)) := by decide +kernel
theorem f_23_29 : rfI 23 29 = some (.iload_n 3, (0, 0, 0, 0)) := by decide +kernel
theorem f_23_30 : rfI 23 30 = some (.if_icmp .ge 27, (0, 0, 0, 0)) := by decide +kernel
theorem f_23_33 : rfI 23 33 = some (.aload_n 0, (0, 0, 0, 0)) := by decide +kernel
theorem f_23_34 : rfI 23 34 = some (.getfield 15, (2, 1, 2, 0)) := by decide +kernel
theorem f_23_37 : rfI 23 37 = some (.iload_n 1, (0, 0, 0, 0)) := by decide +kernel
theorem f_23_38 : rfI 23 38 = some (.bipush 6, (0, 0, 0, 0)) := by decide +kernel
theorem f_23_40 : rfI 23 40 = some (.imul, (0, 0, 0, 0)) := by decide +kernel
theorem f_23_41 : rfI 23 41 = some (.iload 4, (0, 0, 0, 0)) := by decide +kernel
theorem f_23_43 : rfI 23 43 = some (.iadd, (0, 0, 0, 0)) := by decide +kernel
theorem f_23_44 : rfI 23 44 = some (.aload_n 2, (0, 0, 0, 0)) := by decide +kernel
theorem f_23_45 : rfI 23 45 = some (.iload 4, (0, 0, 0, 0)) := by decide +kernel
theorem f_23_47 : rfI 23 47 = some (.invokevirtual 30, (95, 2, 11, 0)) := by decide +kernel
theorem f_23_50 : rfI 23 50 = some (.iastore, (0, 0, 0, 0)) := by decide +kernel
theorem f_23_51 : rfI 23 51 = some (.iinc 4 1, (0, 0, 0, 0)) := by decide +kernel
theorem f_23_54 : rfI 23 54 = some (.goto (-27), (0, 0, 0, 0)) := by decide +kernel
theorem f_23_57 : rfI 23 57 = some (.return_, (0, 0, 0, 0)) := by decide +kernel
theorem f_24_0 : rfI 24 0 = some (.iload_n 1, (0, 0, 0, 0)) := by decide +kernel
theorem f_24_1 : rfI 24 1 = some (.ifCond .lt 18, (0, 0, 0, 0)) := by decide +kernel
theorem f_24_4 : rfI 24 4 = some (.iload_n 1, (0, 0, 0, 0)) := by decide +kernel
theorem f_24_5 : rfI 24 5 = some (.bipush 8, (0, 0, 0, 0)) := by decide +kernel
theorem f_24_7 : rfI 24 7 = some (.if_icmp .ge 12, (0, 0, 0, 0)) := by decide +kernel
theorem f_24_10 : rfI 24 10 = some (.aload_n 0, (0, 0, 0, 0)) := by decide +kernel
theorem f_24_11 : rfI 24 11 = some (.getfield 9, (2, 0, 2, 0)) := by decide +kernel
theorem f_24_14 : rfI 24 14 = some (.iload_n 1, (0, 0, 0, 0)) := by decide +kernel
theorem f_24_15 : rfI 24 15 = some (.iaload, (0, 0, 0, 0)) := by decide +kernel
theorem f_24_16 : rfI 24 16 = some (.goto 4, (0, 0, 0, 0)) := by decide +kernel
theorem f_24_19 : rfI 24 19 = some (.iconst 0, (0, 0, 0, 0)) := by decide +kernel
theorem f_24_20 : rfI 24 20 = some (.ireturn, (0, 0, 0, 0)) := by decide +kernel
theorem f_25_0 : rfI 25 0 = some (.iload_n 1, (0, 0, 0, 0)) := by decide +kernel
theorem f_25_1 : rfI 25 1 = some (.ifCond .lt 23, (0, 0, 0, 0)) := by decide +kernel
theorem f_25_4 : rfI 25 4 = some (.iload_n 1, (0, 0, 0, 0)) := by decide +kernel
theorem f_25_5 : rfI 25 5 = some (.bipush 8, (0, 0, 0, 0)) := by decide +kernel
theorem f_25_7 : rfI 25 7 = some (.if_icmp .ge 17, (0, 0, 0, 0)) := by decide +kernel
theorem f_25_10 : rfI 25 10 = some (.iload_n 2, (0, 0, 0, 0)) := by decide +kernel
theorem f_25_11 : rfI 25 11 = some (.ifCond .lt 13, (0, 0, 0, 0)) := by decide +kernel
theorem f_25_14 : rfI 25 14 = some (.iload_n 2, (0, 0, 0, 0)) := by decide +kernel
theorem f_25_15 : rfI 25 15 = some (.bipush 6, (0, 0, 0, 0)) := by decide +kernel
theorem f_25_17 : rfI 25 17 = some (.if_icmp .ge 7, (0, 0, 0, 0)) := by decide +kernel
theorem f_25_20 : rfI 25 20 = some (.iconst 1, (0, 0, 0, 0)) := by decide +kernel
theorem f_25_21 : rfI 25 21 = some (.goto 4, (0, 0, 0, 0)) := by decide +kernel
theorem f_25_24 : rfI 25 24 = some (.iconst 0, (0, 0, 0, 0)) := by decide +kernel
theorem f_25_25 : rfI 25 25 = some (.istore_n 3, (0, 0, 0, 0)) := by decide +kernel
theorem f_25_26 : rfI 25 26 = some (.iload_n 3, (0, 0, 0, 0)) := by decide +kernel
theorem f_25_27 : rfI 25 27 = some (.ifCond .eq 17, (0, 0, 0, 0)) := by decide +kernel
theorem f_25_30 : rfI 25 30 = some (.aload_n 0, (0, 0, 0, 0)) := by decide +kernel
theorem f_25_31 : rfI 25 31 = some (.getfield 15, (2, 1, 2, 0)) := by decide +kernel
theorem f_25_34 : rfI 25 34 = some (.iload_n 1, (0, 0, 0, 0)) := by decide +kernel
theorem f_25_35 : rfI 25 35 = some (.bipush 6, (0, 0, 0, 0)) := by decide +kernel
theorem f_25_37 : rfI 25 37 = some (.imul, (0, 0, 0, 0)) := by decide +kernel
theorem f_25_38 : rfI 25 38 = some (.iload_n 2, (0, 0, 0, 0)) := by decide +kernel
theorem f_25_39 : rfI 25 39 = some (.iadd, (0, 0, 0, 0)) := by decide +kernel
theorem f_25_40 : rfI 25 40 = some (.iaload, (0, 0, 0, 0)) := by decide +kernel
theorem f_25_41 : rfI 25 41 = some (.goto 4, (0, 0, 0, 0)) := by decide +kernel
theorem f_25_44 : rfI 25 44 = some (.iconst (-1), (0, 0, 0, 0)) := by decide +kernel
theorem f_25_45 : rfI 25 45 = some (.ireturn, (0, 0, 0, 0)) := by decide +kernel
theorem f_26_0 : rfI 26 0 = some (.iconst 0, (0, 0, 0, 0)) := by decide +kernel
theorem f_26_1 : rfI 26 1 = some (.istore_n 1, (0, 0, 0, 0)) := by decide +kernel
theorem f_26_2 : rfI 26 2 = some (.iconst 0, (0, 0, 0, 0)) := by decide +kernel
theorem f_26_3 : rfI 26 3 = some (.istore_n 2, (0, 0, 0, 0)) := by decide +kernel
theorem f_26_4 : rfI 26 4 = some (.iload_n 2, (0, 0, 0, 0)) := by decide +kernel
theorem f_26_5 : rfI 26 5 = some (.bipush 8, (0, 0, 0, 0)) := by decide +kernel
theorem f_26_7 : rfI 26 7 = some (.if_icmp .ge 24, (0, 0, 0, 0)) := by decide +kernel
theorem f_26_10 : rfI 26 10 = some (.aload_n 0, (0, 0, 0, 0)) := by decide +kernel
theorem f_26_11 : rfI 26 11 = some (.getfield 9, (2, 0, 2, 0)) := by decide +kernel
theorem f_26_14 : rfI 26 14 = some (.iload_n 2, (0, 0, 0, 0)) := by decide +kernel
theorem f_26_15 : rfI 26 15 = some (.iaload, (0, 0, 0, 0)) := by decide +kernel
theorem f_26_16 : rfI 26 16 = some (.ifCond .le 9, (0, 0, 0, 0)) := by decide +kernel
theorem f_26_19 : rfI 26 19 = some (.iload_n 1, (0, 0, 0, 0)) := by decide +kernel
theorem f_26_20 : rfI 26 20 = some (.iconst 1, (0, 0, 0, 0)) := by decide +kernel
theorem f_26_21 : rfI 26 21 = some (.iload_n 2, (0, 0, 0, 0)) := by decide +kernel
theorem f_26_22 : rfI 26 22 = some (.ishl, (0, 0, 0, 0)) := by decide +kernel
theorem f_26_23 : rfI 26 23 = some (.ior, (0, 0, 0, 0)) := by decide +kernel
theorem f_26_24 : rfI 26 24 = some (.istore_n 1, (0, 0, 0, 0)) := by decide +kernel
theorem f_26_25 : rfI 26 25 = some (.iinc 2 1, (0, 0, 0, 0)) := by decide +kernel
theorem f_26_28 : rfI 26 28 = some (.goto (-24), (0, 0, 0, 0)) := by decide +kernel
theorem f_26_31 : rfI 26 31 = some (.iload_n 1, (0, 0, 0, 0)) := by decide +kernel
theorem f_26_32 : rfI 26 32 = some (.ireturn, (0, 0, 0, 0)) := by decide +kernel
theorem f_27_0 : rfI 27 0 = some (.iload_n 2, (0, 0, 0, 0)) := by decide +kernel
theorem f_27_1 : rfI 27 1 = some (.bipush 60, (0, 0, 0, 0)) := by decide +kernel
theorem f_27_3 : rfI 27 3 = some (.invokestatic 36, (1001, 2, 14, 0)) := by decide +kernel
theorem f_27_6 : rfI 27 6 = some (.istore_n 3, (0, 0, 0, 0)) := by decide +kernel
theorem f_27_7 : rfI 27 7 = some (.iconst 0, (0, 0, 0, 0)) := by decide +kernel
theorem f_27_8 : rfI 27 8 = some (.istore 4, (0, 0, 0, 0)) := by decide +kernel
theorem f_27_10 : rfI 27 10 = some (.iload 4, (0, 0, 0, 0)) := by decide +kernel
theorem f_27_12 : rfI 27 12 = some (.bipush 60, (0, 0, 0, 0)) := by decide +kernel
theorem f_27_14 : rfI 27 14 = some (.if_icmp .gt 46, (0, 0, 0, 0)) := by decide +kernel
theorem f_27_17 : rfI 27 17 = some (.aload_n 0, (0, 0, 0, 0)) := by decide +kernel
theorem f_27_18 : rfI 27 18 = some (.getfield 18, (2, 2, 2, 0)) := by decide +kernel
theorem f_27_21 : rfI 27 21 = some (.iload 4, (0, 0, 0, 0)) := by decide +kernel
theorem f_27_23 : rfI 27 23 = some (.iload 4, (0, 0, 0, 0)) := by decide +kernel
theorem f_27_25 : rfI 27 25 = some (.iload_n 3, (0, 0, 0, 0)) := by decide +kernel
theorem f_27_26 : rfI 27 26 = some (.if_icmp .ne 7, (0, 0, 0, 0)) := by decide +kernel
theorem f_27_29 : rfI 27 29 = some (.iconst 1, (0, 0, 0, 0)) := by decide +kernel
theorem f_27_30 : rfI 27 30 = some (.goto 4, (0, 0, 0, 0)) := by decide +kernel
theorem f_27_33 : rfI 27 33 = some (.iconst 0, (0, 0, 0, 0)) := by decide +kernel
theorem f_27_34 : rfI 27 34 = some (.iastore, (0, 0, 0, 0)) := by decide +kernel
theorem f_27_35 : rfI 27 35 = some (.aload_n 0, (0, 0, 0, 0)) := by decide +kernel
theorem f_27_36 : rfI 27 36 = some (.getfield 21, (2, 3, 2, 0)) := by decide +kernel
theorem f_27_39 : rfI 27 39 = some (.iload 4, (0, 0, 0, 0)) := by decide +kernel
theorem f_27_41 : rfI 27 41 = some (.iload 4, (0, 0, 0, 0)) := by decide +kernel
theorem f_27_43 : rfI 27 43 = some (.iload_n 3, (0, 0, 0, 0)) := by decide +kernel
theorem f_27_44 : rfI 27 44 = some (.if_icmp .ne 7, (0, 0, 0, 0)) := by decide +kernel
theorem f_27_47 : rfI 27 47 = some (.iconst 0, (0, 0, 0, 0)) := by decide +kernel
theorem f_27_48 : rfI 27 48 = some (.goto 5, (0, 0, 0, 0)) := by decide +kernel
theorem f_27_51 : rfI 27 51 = some (.ldc 42, (4, 4, 4, 1000000)) := by decide +kernel
theorem f_27_53 : rfI 27 53 = some (.iastore, (0, 0, 0, 0)) := by decide +kernel
theorem f_27_54 : rfI 27 54 = some (.iinc 4 1, (0, 0, 0, 0)) := by decide +kernel
theorem f_27_57 : rfI 27 57 = some (.goto (-47), (0, 0, 0, 0)) := by decide +kernel
theorem f_27_60 : rfI 27 60 = some (.iload_n 3, (0, 0, 0, 0)) := by decide +kernel
theorem f_27_61 : rfI 27 61 = some (.iconst 1, (0, 0, 0, 0)) := by decide +kernel
theorem f_27_62 : rfI 27 62 = some (.isub, (0, 0, 0, 0)) := by decide +kernel
theorem f_27_63 : rfI 27 63 = some (.istore 4, (0, 0, 0, 0)) := by decide +kernel
theorem f_27_65 : rfI 27 65 = some (.iload 4, (0, 0, 0, 0)) := by decide +kernel
theorem f_27_67 : rfI 27 67 = some (.ifCond .lt 100, (0, 0, 0, 0)) := by decide +kernel
theorem f_27_70 : rfI 27 70 = some (.iconst 0, (0, 0, 0, 0)) := by decide +kernel
theorem f_27_71 : rfI 27 71 = some (.istore 5, (0, 0, 0, 0)) := by decide +kernel
theorem f_27_73 : rfI 27 73 = some (.iload 5, (0, 0, 0, 0)) := by decide +kernel
theorem f_27_75 : rfI 27 75 = some (.bipush 8, (0, 0, 0, 0)) := by decide +kernel
theorem f_27_77 : rfI 27 77 = some (.if_icmp .ge 84, (0, 0, 0, 0)) := by decide +kernel
theorem f_27_80 : rfI 27 80 = some (.aload_n 0, (0, 0, 0, 0)) := by decide +kernel
theorem f_27_81 : rfI 27 81 = some (.aload_n 1, (0, 0, 0, 0)) := by decide +kernel
theorem f_27_82 : rfI 27 82 = some (.iload_n 3, (0, 0, 0, 0)) := by decide +kernel
theorem f_27_83 : rfI 27 83 = some (.iload 4, (0, 0, 0, 0)) := by decide +kernel
theorem f_27_85 : rfI 27 85 = some (.iload 5, (0, 0, 0, 0)) := by decide +kernel
theorem f_27_87 : rfI 27 87 = some (.invokevirtual 43, (28, 5, 11, 0)) := by decide +kernel
theorem f_27_90 : rfI 27 90 = some (.ifCond .eq 65, (0, 0, 0, 0)) := by decide +kernel
theorem f_27_93 : rfI 27 93 = some (.iload 4, (0, 0, 0, 0)) := by decide +kernel
theorem f_27_95 : rfI 27 95 = some (.aload_n 0, (0, 0, 0, 0)) := by decide +kernel
theorem f_27_96 : rfI 27 96 = some (.iload 5, (0, 0, 0, 0)) := by decide +kernel
theorem f_27_98 : rfI 27 98 = some (.invokevirtual 47, (24, 2, 11, 0)) := by decide +kernel
theorem f_27_101 : rfI 27 101 = some (.iadd, (0, 0, 0, 0)) := by decide +kernel
theorem f_27_102 : rfI 27 102 = some (.istore 6, (0, 0, 0, 0)) := by decide +kernel
theorem f_27_104 : rfI 27 104 = some (.aload_n 0, (0, 0, 0, 0)) := by decide +kernel
theorem f_27_105 : rfI 27 105 = some (.getfield 18, (2, 2, 2, 0)) := by decide +kernel
theorem f_27_108 : rfI 27 108 = some (.iload 4, (0, 0, 0, 0)) := by decide +kernel
theorem f_27_110 : rfI 27 110 = some (.ldc 50, (4, 4, 4, 1000000000)) := by decide +kernel
theorem f_27_112 : rfI 27 112 = some (.aload_n 0, (0, 0, 0, 0)) := by decide +kernel
theorem f_27_113 : rfI 27 113 = some (.getfield 18, (2, 2, 2, 0)) := by decide +kernel
theorem f_27_116 : rfI 27 116 = some (.iload 4, (0, 0, 0, 0)) := by decide +kernel
theorem f_27_118 : rfI 27 118 = some (.iaload, (0, 0, 0, 0)) := by decide +kernel
theorem f_27_119 : rfI 27 119 = some (.aload_n 0, (0, 0, 0, 0)) := by decide +kernel
theorem f_27_120 : rfI 27 120 = some (.iload 6, (0, 0, 0, 0)) := by decide +kernel
theorem f_27_122 : rfI 27 122 = some (.invokevirtual 51, (29, 2, 11, 0)) := by decide +kernel
theorem f_27_125 : rfI 27 125 = some (.iadd, (0, 0, 0, 0)) := by decide +kernel
theorem f_27_126 : rfI 27 126 = some (.invokestatic 36, (1001, 2, 14, 0)) := by decide +kernel
theorem f_27_129 : rfI 27 129 = some (.iastore, (0, 0, 0, 0)) := by decide +kernel
theorem f_27_130 : rfI 27 130 = some (.aload_n 0, (0, 0, 0, 0)) := by decide +kernel
theorem f_27_131 : rfI 27 131 = some (.getfield 21, (2, 3, 2, 0)) := by decide +kernel
theorem f_27_134 : rfI 27 134 = some (.iload 4, (0, 0, 0, 0)) := by decide +kernel
theorem f_27_136 : rfI 27 136 = some (.aload_n 0, (0, 0, 0, 0)) := by decide +kernel
theorem f_27_137 : rfI 27 137 = some (.getfield 21, (2, 3, 2, 0)) := by decide +kernel
theorem f_27_140 : rfI 27 140 = some (.iload 4, (0, 0, 0, 0)) := by decide +kernel
theorem f_27_142 : rfI 27 142 = some (.iaload, (0, 0, 0, 0)) := by decide +kernel
theorem f_27_143 : rfI 27 143 = some (.aload_n 0, (0, 0, 0, 0)) := by decide +kernel
theorem f_27_144 : rfI 27 144 = some (.iload 6, (0, 0, 0, 0)) := by decide +kernel
theorem f_27_146 : rfI 27 146 = some (.invokevirtual 54, (30, 2, 11, 0)) := by decide +kernel
theorem f_27_149 : rfI 27 149 = some (.iconst 1, (0, 0, 0, 0)) := by decide +kernel
theorem f_27_150 : rfI 27 150 = some (.iadd, (0, 0, 0, 0)) := by decide +kernel
theorem f_27_151 : rfI 27 151 = some (.invokestatic 36, (1001, 2, 14, 0)) := by decide +kernel
theorem f_27_154 : rfI 27 154 = some (.iastore, (0, 0, 0, 0)) := by decide +kernel
theorem f_27_155 : rfI 27 155 = some (.iinc 5 1, (0, 0, 0, 0)) := by decide +kernel
theorem f_27_158 : rfI 27 158 = some (.goto (-85), (0, 0, 0, 0)) := by decide +kernel
theorem f_27_161 : rfI 27 161 = some (.iinc 4 (-1), (0, 0, 0, 0)) := by decide +kernel
theorem f_27_164 : rfI 27 164 = some (.goto (-99), (0, 0, 0, 0)) := by decide +kernel
theorem f_27_167 : rfI 27 167 = some (.return_, (0, 0, 0, 0)) := by decide +kernel
theorem f_28_0 : rfI 28 0 = some (.aload_n 0, (0, 0, 0, 0)) := by decide +kernel
theorem f_28_1 : rfI 28 1 = some (.iload 4, (0, 0, 0, 0)) := by decide +kernel
theorem f_28_3 : rfI 28 3 = some (.invokevirtual 47, (24, 2, 11, 0)) := by decide +kernel
theorem f_28_6 : rfI 28 6 = some (.istore 5, (0, 0, 0, 0)) := by decide +kernel
theorem f_28_8 : rfI 28 8 = some (.iload 5, (0, 0, 0, 0)) := by decide +kernel
theorem f_28_10 : rfI 28 10 = some (.ifCond .eq 11, (0, 0, 0, 0)) := by decide +kernel
theorem f_28_13 : rfI 28 13 = some (.iload_n 3, (0, 0, 0, 0)) := by decide +kernel
theorem f_28_14 : rfI 28 14 = some (.iload 5, (0, 0, 0, 0)) := by decide +kernel
theorem f_28_16 : rfI 28 16 = some (.iadd, (0, 0, 0, 0)) := by decide +kernel
theorem f_28_17 : rfI 28 17 = some (.iload_n 2, (0, 0, 0, 0)) := by decide +kernel
theorem f_28_18 : rfI 28 18 = some (.if_icmp .le 5, (0, 0, 0, 0)) := by decide +kernel
theorem f_28_21 : rfI 28 21 = some (.iconst 0, (0, 0, 0, 0)) := by decide +kernel
theorem f_28_22 : rfI 28 22 = some (.ireturn, (0, 0, 0, 0)) := by decide +kernel
theorem f_28_23 : rfI 28 23 = some (.iconst 0, (0, 0, 0, 0)) := by decide +kernel
theorem f_28_24 : rfI 28 24 = some (.istore 6, (0, 0, 0, 0)) := by decide +kernel
theorem f_28_26 : rfI 28 26 = some (.iload 6, (0, 0, 0, 0)) := by decide +kernel
theorem f_28_28 : rfI 28 28 = some (.iload 5, (0, 0, 0, 0)) := by decide +kernel
theorem f_28_30 : rfI 28 30 = some (.if_icmp .ge 30, (0, 0, 0, 0)) := by decide +kernel
theorem f_28_33 : rfI 28 33 = some (.aload_n 1, (0, 0, 0, 0)) := by decide +kernel
theorem f_28_34 : rfI 28 34 = some (.iload_n 3, (0, 0, 0, 0)) := by decide +kernel
theorem f_28_35 : rfI 28 35 = some (.iload 6, (0, 0, 0, 0)) := by decide +kernel
theorem f_28_37 : rfI 28 37 = some (.iadd, (0, 0, 0, 0)) := by decide +kernel
theorem f_28_38 : rfI 28 38 = some (.invokevirtual 30, (95, 2, 11, 0)) := by decide +kernel
theorem f_28_41 : rfI 28 41 = some (.aload_n 0, (0, 0, 0, 0)) := by decide +kernel
theorem f_28_42 : rfI 28 42 = some (.iload 4, (0, 0, 0, 0)) := by decide +kernel
theorem f_28_44 : rfI 28 44 = some (.iload 6, (0, 0, 0, 0)) := by decide +kernel
theorem f_28_46 : rfI 28 46 = some (.invokevirtual 57, (25, 3, 11, 0)) := by decide +kernel
theorem f_28_49 : rfI 28 49 = some (.if_icmp .eq 5, (0, 0, 0, 0)) := by decide +kernel
theorem f_28_52 : rfI 28 52 = some (.iconst 0, (0, 0, 0, 0)) := by decide +kernel
theorem f_28_53 : rfI 28 53 = some (.ireturn, (0, 0, 0, 0)) := by decide +kernel
theorem f_28_54 : rfI 28 54 = some (.iinc 6 1, (0, 0, 0, 0)) := by decide +kernel
theorem f_28_57 : rfI 28 57 = some (.goto (-31), (0, 0, 0, 0)) := by decide +kernel
theorem f_28_60 : rfI 28 60 = some (.iconst 1, (0, 0, 0, 0)) := by decide +kernel
theorem f_28_61 : rfI 28 61 = some (.ireturn, (0, 0, 0, 0)) := by decide +kernel
theorem f_29_0 : rfI 29 0 = some (.iload_n 1, (0, 0, 0, 0)) := by decide +kernel
theorem f_29_1 : rfI 29 1 = some (.ifCond .lt 18, (0, 0, 0, 0)) := by decide +kernel
theorem f_29_4 : rfI 29 4 = some (.iload_n 1, (0, 0, 0, 0)) := by decide +kernel
theorem f_29_5 : rfI 29 5 = some (.bipush 60, (0, 0, 0, 0)) := by decide +kernel
theorem f_29_7 : rfI 29 7 = some (.if_icmp .gt 12, (0, 0, 0, 0)) := by decide +kernel
theorem f_29_10 : rfI 29 10 = some (.aload_n 0, (0, 0, 0, 0)) := by decide +kernel
theorem f_29_11 : rfI 29 11 = some (.getfield 18, (2, 2, 2, 0)) := by decide +kernel
theorem f_29_14 : rfI 29 14 = some (.iload_n 1, (0, 0, 0, 0)) := by decide +kernel
theorem f_29_15 : rfI 29 15 = some (.iaload, (0, 0, 0, 0)) := by decide +kernel
theorem f_29_16 : rfI 29 16 = some (.goto 4, (0, 0, 0, 0)) := by decide +kernel
theorem f_29_19 : rfI 29 19 = some (.iconst 0, (0, 0, 0, 0)) := by decide +kernel
theorem f_29_20 : rfI 29 20 = some (.ireturn, (0, 0, 0, 0)) := by decide +kernel
theorem f_30_0 : rfI 30 0 = some (.iload_n 1, (0, 0, 0, 0)) := by decide +kernel
theorem f_30_1 : rfI 30 1 = some (.ifCond .lt 18, (0, 0, 0, 0)) := by decide +kernel
theorem f_30_4 : rfI 30 4 = some (.iload_n 1, (0, 0, 0, 0)) := by decide +kernel
theorem f_30_5 : rfI 30 5 = some (.bipush 60, (0, 0, 0, 0)) := by decide +kernel
theorem f_30_7 : rfI 30 7 = some (.if_icmp .gt 12, (0, 0, 0, 0)) := by decide +kernel
theorem f_30_10 : rfI 30 10 = some (.aload_n 0, (0, 0, 0, 0)) := by decide +kernel
theorem f_30_11 : rfI 30 11 = some (.getfield 21, (2, 3, 2, 0)) := by decide +kernel
theorem f_30_14 : rfI 30 14 = some (.iload_n 1, (0, 0, 0, 0)) := by decide +kernel
theorem f_30_15 : rfI 30 15 = some (.iaload, (0, 0, 0, 0)) := by decide +kernel
theorem f_30_16 : rfI 30 16 = some (.goto 5, (0, 0, 0, 0)) := by decide +kernel
theorem f_30_19 : rfI 30 19 = some (.ldc 42, (4, 4, 4, 1000000)) := by decide +kernel
theorem f_30_21 : rfI 30 21 = some (.ireturn, (0, 0, 0, 0)) := by decide +kernel
theorem f_31_0 : rfI 31 0 = some (.aload_n 0, (0, 0, 0, 0)) := by decide +kernel
theorem f_31_1 : rfI 31 1 = some (.iload_n 1, (0, 0, 0, 0)) := by decide +kernel
theorem f_31_2 : rfI 31 2 = some (.invokevirtual 54, (30, 2, 11, 0)) := by decide +kernel
theorem f_31_5 : rfI 31 5 = some (.istore_n 2, (0, 0, 0, 0)) := by decide +kernel
theorem f_31_6 : rfI 31 6 = some (.iload_n 2, (0, 0, 0, 0)) := by decide +kernel
theorem f_31_7 : rfI 31 7 = some (.ldc 42, (4, 4, 4, 1000000)) := by decide +kernel
theorem f_31_9 : rfI 31 9 = some (.if_icmp .ge 7, (0, 0, 0, 0)) := by decide +kernel
theorem f_31_12 : rfI 31 12 = some (.iload_n 2, (0, 0, 0, 0)) := by decide +kernel
theorem f_31_13 : rfI 31 13 = some (.goto 4, (0, 0, 0, 0)) := by decide +kernel
theorem f_31_16 : rfI 31 16 = some (.iconst (-1), (0, 0, 0, 0)) := by decide +kernel
theorem f_31_17 : rfI 31 17 = some (.ireturn, (0, 0, 0, 0)) := by decide +kernel
theorem f_32_0 : rfI 32 0 = some (.iconst 0, (0, 0, 0, 0)) := by decide +kernel
theorem f_32_1 : rfI 32 1 = some (.istore 4, (0, 0, 0, 0)) := by decide +kernel
theorem f_32_3 : rfI 32 3 = some (.iconst (-1), (0, 0, 0, 0)) := by decide +kernel
theorem f_32_4 : rfI 32 4 = some (.istore 5, (0, 0, 0, 0)) := by decide +kernel
theorem f_32_6 : rfI 32 6 = some (.iconst 0, (0, 0, 0, 0)) := by decide +kernel
theorem f_32_7 : rfI 32 7 = some (.istore 6, (0, 0, 0, 0)) := by decide +kernel
theorem f_32_9 : rfI 32 9 = some (.iload 6, (0, 0, 0, 0)) := by decide +kernel
theorem f_32_11 : rfI 32 11 = some (.iload_n 3, (0, 0, 0, 0)) := by decide +kernel
theorem f_32_12 : rfI 32 12 = some (.if_icmp .gt 37, (0, 0, 0, 0)) := by decide +kernel
theorem f_32_15 : rfI 32 15 = some (.iload 6, (0, 0, 0, 0)) := by decide +kernel
theorem f_32_17 : rfI 32 17 = some (.bipush 60, (0, 0, 0, 0)) := by decide +kernel
theorem f_32_19 : rfI 32 19 = some (.if_icmp .ge 30, (0, 0, 0, 0)) := by decide +kernel
theorem f_32_22 : rfI 32 22 = some (.aload_n 0, (0, 0, 0, 0)) := by decide +kernel
theorem f_32_23 : rfI 32 23 = some (.aload_n 1, (0, 0, 0, 0)) := by decide +kernel
theorem f_32_24 : rfI 32 24 = some (.iload_n 2, (0, 0, 0, 0)) := by decide +kernel
theorem f_32_25 : rfI 32 25 = some (.iload 4, (0, 0, 0, 0)) := by decide +kernel
theorem f_32_27 : rfI 32 27 = some (.invokevirtual 60, (33, 4, 11, 0)) := by decide +kernel
theorem f_32_30 : rfI 32 30 = some (.istore 5, (0, 0, 0, 0)) := by decide +kernel
theorem f_32_32 : rfI 32 32 = some (.iload 4, (0, 0, 0, 0)) := by decide +kernel
theorem f_32_34 : rfI 32 34 = some (.aload_n 0, (0, 0, 0, 0)) := by decide +kernel
theorem f_32_35 : rfI 32 35 = some (.iload 5, (0, 0, 0, 0)) := by decide +kernel
theorem f_32_37 : rfI 32 37 = some (.invokevirtual 47, (24, 2, 11, 0)) := by decide +kernel
theorem f_32_40 : rfI 32 40 = some (.iadd, (0, 0, 0, 0)) := by decide +kernel
theorem f_32_41 : rfI 32 41 = some (.istore 4, (0, 0, 0, 0)) := by decide +kernel
theorem f_32_43 : rfI 32 43 = some (.iinc 6 1, (0, 0, 0, 0)) := by decide +kernel
theorem f_32_46 : rfI 32 46 = some (.goto (-37), (0, 0, 0, 0)) := by decide +kernel
theorem f_32_49 : rfI 32 49 = some (.iload 5, (0, 0, 0, 0)) := by decide +kernel
theorem f_32_51 : rfI 32 51 = some (.ireturn, (0, 0, 0, 0)) := by decide +kernel
theorem f_33_0 : rfI 33 0 = some (.iconst 0, (0, 0, 0, 0)) := by decide +kernel
theorem f_33_1 : rfI 33 1 = some (.istore 4, (0, 0, 0, 0)) := by decide +kernel
theorem f_33_3 : rfI 33 3 = some (.iload 4, (0, 0, 0, 0)) := by decide +kernel
theorem f_33_5 : rfI 33 5 = some (.bipush 8, (0, 0, 0, 0)) := by decide +kernel
theorem f_33_7 : rfI 33 7 = some (.if_icmp .ge 46, (0, 0, 0, 0)) := by decide +kernel
theorem f_33_10 : rfI 33 10 = some (.aload_n 0, (0, 0, 0, 0)) := by decide +kernel
theorem f_33_11 : rfI 33 11 = some (.aload_n 1, (0, 0, 0, 0)) := by decide +kernel
theorem f_33_12 : rfI 33 12 = some (.iload_n 2, (0, 0, 0, 0)) := by decide +kernel
theorem f_33_13 : rfI 33 13 = some (.iload_n 3, (0, 0, 0, 0)) := by decide +kernel
theorem f_33_14 : rfI 33 14 = some (.iload 4, (0, 0, 0, 0)) := by decide +kernel
theorem f_33_16 : rfI 33 16 = some (.invokevirtual 43, (28, 5, 11, 0)) := by decide +kernel
theorem f_33_19 : rfI 33 19 = some (.ifCond .eq 28, (0, 0, 0, 0)) := by decide +kernel
theorem f_33_22 : rfI 33 22 = some (.aload_n 0, (0, 0, 0, 0)) := by decide +kernel
theorem f_33_23 : rfI 33 23 = some (.iload_n 3, (0, 0, 0, 0)) := by decide +kernel
theorem f_33_24 : rfI 33 24 = some (.aload_n 0, (0, 0, 0, 0)) := by decide +kernel
theorem f_33_25 : rfI 33 25 = some (.iload 4, (0, 0, 0, 0)) := by decide +kernel
theorem f_33_27 : rfI 33 27 = some (.invokevirtual 47, (24, 2, 11, 0)) := by decide +kernel
theorem f_33_30 : rfI 33 30 = some (.iadd, (0, 0, 0, 0)) := by decide +kernel
theorem f_33_31 : rfI 33 31 = some (.invokevirtual 54, (30, 2, 11, 0)) := by decide +kernel
theorem f_33_34 : rfI 33 34 = some (.aload_n 0, (0, 0, 0, 0)) := by decide +kernel
theorem f_33_35 : rfI 33 35 = some (.iload_n 3, (0, 0, 0, 0)) := by decide +kernel
theorem f_33_36 : rfI 33 36 = some (.invokevirtual 54, (30, 2, 11, 0)) := by decide +kernel
theorem f_33_39 : rfI 33 39 = some (.iconst 1, (0, 0, 0, 0)) := by decide +kernel
theorem f_33_40 : rfI 33 40 = some (.isub, (0, 0, 0, 0)) := by decide +kernel
theorem f_33_41 : rfI 33 41 = some (.if_icmp .ne 6, (0, 0, 0, 0)) := by decide +kernel
theorem f_33_44 : rfI 33 44 = some (.iload 4, (0, 0, 0, 0)) := by decide +kernel
theorem f_33_46 : rfI 33 46 = some (.ireturn, (0, 0, 0, 0)) := by decide +kernel
theorem f_33_47 : rfI 33 47 = some (.iinc 4 1, (0, 0, 0, 0)) := by decide +kernel
theorem f_33_50 : rfI 33 50 = some (.goto (-47), (0, 0, 0, 0)) := by decide +kernel
theorem f_33_53 : rfI 33 53 = some (.iconst (-1), (0, 0, 0, 0)) := by decide +kernel
theorem f_33_54 : rfI 33 54 = some (.ireturn, (0, 0, 0, 0)) := by decide +kernel
theorem f_34_0 : rfI 34 0 = some (.iconst 0, (0, 0, 0, 0)) := by decide +kernel
theorem f_34_1 : rfI 34 1 = some (.istore_n 1, (0, 0, 0, 0)) := by decide +kernel
theorem f_34_2 : rfI 34 2 = some (.iload_n 1, (0, 0, 0, 0)) := by decide +kernel
theorem f_34_3 : rfI 34 3 = some (.bipush 8, (0, 0, 0, 0)) := by decide +kernel
theorem f_34_5 : rfI 34 5 = some (.if_icmp .ge 39, (0, 0, 0, 0)) := by decide +kernel
theorem f_34_8 : rfI 34 8 = some (.iconst 0, (0, 0, 0, 0)) := by decide +kernel
theorem f_34_9 : rfI 34 9 = some (.istore_n 2, (0, 0, 0, 0)) := by decide +kernel
theorem f_34_10 : rfI 34 10 = some (.iload_n 2, (0, 0, 0, 0)) := by decide +kernel
theorem f_34_11 : rfI 34 11 = some (.bipush 8, (0, 0, 0, 0)) := by decide +kernel
theorem f_34_13 : rfI 34 13 = some (.if_icmp .ge 25, (0, 0, 0, 0)) := by decide +kernel
theorem f_34_16 : rfI 34 16 = some (.iload_n 1, (0, 0, 0, 0)) := by decide +kernel
theorem f_34_17 : rfI 34 17 = some (.iload_n 2, (0, 0, 0, 0)) := by decide +kernel
theorem f_34_18 : rfI 34 18 = some (.if_icmp .eq 14, (0, 0, 0, 0)) := by decide +kernel
theorem f_34_21 : rfI 34 21 = some (.aload_n 0, (0, 0, 0, 0)) := by decide +kernel
theorem f_34_22 : rfI 34 22 = some (.iload_n 1, (0, 0, 0, 0)) := by decide +kernel
theorem f_34_23 : rfI 34 23 = some (.iload_n 2, (0, 0, 0, 0)) := by decide +kernel
theorem f_34_24 : rfI 34 24 = some (.invokevirtual 64, (35, 3, 11, 0)) := by decide +kernel
theorem f_34_27 : rfI 34 27 = some (.ifCond .eq 5, (0, 0, 0, 0)) := by decide +kernel
theorem f_34_30 : rfI 34 30 = some (.iconst 0, (0, 0, 0, 0)) := by decide +kernel
theorem f_34_31 : rfI 34 31 = some (.ireturn, (0, 0, 0, 0)) := by decide +kernel
theorem f_34_32 : rfI 34 32 = some (.iinc 2 1, (0, 0, 0, 0)) := by decide +kernel
theorem f_34_35 : rfI 34 35 = some (.goto (-25), (0, 0, 0, 0)) := by decide +kernel
theorem f_34_38 : rfI 34 38 = some (.iinc 1 1, (0, 0, 0, 0)) := by decide +kernel
theorem f_34_41 : rfI 34 41 = some (.goto (-39), (0, 0, 0, 0)) := by decide +kernel
theorem f_34_44 : rfI 34 44 = some (.iconst 1, (0, 0, 0, 0)) := by decide +kernel
theorem f_34_45 : rfI 34 45 = some (.ireturn, (0, 0, 0, 0)) := by decide +kernel
theorem f_35_0 : rfI 35 0 = some (.aload_n 0, (0, 0, 0, 0)) := by decide +kernel
theorem f_35_1 : rfI 35 1 = some (.iload_n 1, (0, 0, 0, 0)) := by decide +kernel
theorem f_35_2 : rfI 35 2 = some (.invokevirtual 47, (24, 2, 11, 0)) := by decide +kernel
theorem f_35_5 : rfI 35 5 = some (.istore_n 3, (0, 0, 0, 0)) := by decide +kernel
theorem f_35_6 : rfI 35 6 = some (.iload_n 3, (0, 0, 0, 0)) := by decide +kernel
theorem f_35_7 : rfI 35 7 = some (.ifCond .eq 12, (0, 0, 0, 0)) := by decide +kernel
theorem f_35_10 : rfI 35 10 = some (.iload_n 3, (0, 0, 0, 0)) := by decide +kernel
theorem f_35_11 : rfI 35 11 = some (.aload_n 0, (0, 0, 0, 0)) := by decide +kernel
theorem f_35_12 : rfI 35 12 = some (.iload_n 2, (0, 0, 0, 0)) := by decide +kernel
theorem f_35_13 : rfI 35 13 = some (.invokevirtual 47, (24, 2, 11, 0)) := by decide +kernel
theorem f_35_16 : rfI 35 16 = some (.if_icmp .le 5, (0, 0, 0, 0)) := by decide +kernel
theorem f_35_19 : rfI 35 19 = some (.iconst 0, (0, 0, 0, 0)) := by decide +kernel
theorem f_35_20 : rfI 35 20 = some (.ireturn, (0, 0, 0, 0)) := by decide +kernel
theorem f_35_21 : rfI 35 21 = some (.iconst 0, (0, 0, 0, 0)) := by decide +kernel
theorem f_35_22 : rfI 35 22 = some (.istore 4, (0, 0, 0, 0)) := by decide +kernel
theorem f_35_24 : rfI 35 24 = some (.iload 4, (0, 0, 0, 0)) := by decide +kernel
theorem f_35_26 : rfI 35 26 = some (.iload_n 3, (0, 0, 0, 0)) := by decide +kernel
theorem f_35_27 : rfI 35 27 = some (.if_icmp .ge 28, (0, 0, 0, 0)) := by decide +kernel
theorem f_35_30 : rfI 35 30 = some (.aload_n 0, (0, 0, 0, 0)) := by decide +kernel
theorem f_35_31 : rfI 35 31 = some (.iload_n 1, (0, 0, 0, 0)) := by decide +kernel
theorem f_35_32 : rfI 35 32 = some (.iload 4, (0, 0, 0, 0)) := by decide +kernel
theorem f_35_34 : rfI 35 34 = some (.invokevirtual 57, (25, 3, 11, 0)) := by decide +kernel
theorem f_35_37 : rfI 35 37 = some (.aload_n 0, (0, 0, 0, 0)) := by decide +kernel
theorem f_35_38 : rfI 35 38 = some (.iload_n 2, (0, 0, 0, 0)) := by decide +kernel
theorem f_35_39 : rfI 35 39 = some (.iload 4, (0, 0, 0, 0)) := by decide +kernel
theorem f_35_41 : rfI 35 41 = some (.invokevirtual 57, (25, 3, 11, 0)) := by decide +kernel
theorem f_35_44 : rfI 35 44 = some (.if_icmp .eq 5, (0, 0, 0, 0)) := by decide +kernel
theorem f_35_47 : rfI 35 47 = some (.iconst 0, (0, 0, 0, 0)) := by decide +kernel
theorem f_35_48 : rfI 35 48 = some (.ireturn, (0, 0, 0, 0)) := by decide +kernel
theorem f_35_49 : rfI 35 49 = some (.iinc 4 1, (0, 0, 0, 0)) := by decide +kernel
theorem f_35_52 : rfI 35 52 = some (.goto (-28), (0, 0, 0, 0)) := by decide +kernel
theorem f_35_55 : rfI 35 55 = some (.iconst 1, (0, 0, 0, 0)) := by decide +kernel
theorem f_35_56 : rfI 35 56 = some (.ireturn, (0, 0, 0, 0)) := by decide +kernel
theorem f_36_0 : rfI 36 0 = some (.iload_n 2, (0, 0, 0, 0)) := by decide +kernel
theorem f_36_1 : rfI 36 1 = some (.bipush 8, (0, 0, 0, 0)) := by decide +kernel
theorem f_36_3 : rfI 36 3 = some (.invokestatic 36, (1001, 2, 14, 0)) := by decide +kernel
theorem f_36_6 : rfI 36 6 = some (.istore_n 3, (0, 0, 0, 0)) := by decide +kernel
theorem f_36_7 : rfI 36 7 = some (.iconst 0, (0, 0, 0, 0)) := by decide +kernel
theorem f_36_8 : rfI 36 8 = some (.istore 4, (0, 0, 0, 0)) := by decide +kernel
theorem f_36_10 : rfI 36 10 = some (.iload 4, (0, 0, 0, 0)) := by decide +kernel
theorem f_36_12 : rfI 36 12 = some (.iload_n 3, (0, 0, 0, 0)) := by decide +kernel
theorem f_36_13 : rfI 36 13 = some (.if_icmp .ge 22, (0, 0, 0, 0)) := by decide +kernel
theorem f_36_16 : rfI 36 16 = some (.aload_n 0, (0, 0, 0, 0)) := by decide +kernel
theorem f_36_17 : rfI 36 17 = some (.getfield 24, (2, 4, 2, 0)) := by decide +kernel
theorem f_36_20 : rfI 36 20 = some (.iload 4, (0, 0, 0, 0)) := by decide +kernel
theorem f_36_22 : rfI 36 22 = some (.aload_n 1, (0, 0, 0, 0)) := by decide +kernel
theorem f_36_23 : rfI 36 23 = some (.iload 4, (0, 0, 0, 0)) := by decide +kernel
theorem f_36_25 : rfI 36 25 = some (.invokevirtual 30, (95, 2, 11, 0)) := by decide +kernel
theorem f_36_28 : rfI 36 28 = some (.iastore, (0, 0, 0, 0)) := by decide +kernel
theorem f_36_29 : rfI 36 29 = some (.iinc 4 1, (0, 0, 0, 0)) := by decide +kernel
theorem f_36_32 : rfI 36 32 = some (.goto (-22), (0, 0, 0, 0)) := by decide +kernel
theorem f_36_35 : rfI 36 35 = some (.iconst 0, (0, 0, 0, 0)) := by decide +kernel
theorem f_36_36 : rfI 36 36 = some (.istore 4, (0, 0, 0, 0)) := by decide +kernel
theorem f_36_38 : rfI 36 38 = some (.iload_n 3, (0, 0, 0, 0)) := by decide +kernel
theorem f_36_39 : rfI 36 39 = some (.istore 5, (0, 0, 0, 0)) := by decide +kernel
theorem f_36_41 : rfI 36 41 = some (.iload 5, (0, 0, 0, 0)) := by decide +kernel
theorem f_36_43 : rfI 36 43 = some (.iconst 1, (0, 0, 0, 0)) := by decide +kernel
theorem f_36_44 : rfI 36 44 = some (.if_icmp .le 62, (0, 0, 0, 0)) := by decide +kernel
theorem f_36_47 : rfI 36 47 = some (.aload_n 0, (0, 0, 0, 0)) := by decide +kernel
theorem f_36_48 : rfI 36 48 = some (.iload 5, (0, 0, 0, 0)) := by decide +kernel
theorem f_36_50 : rfI 36 50 = some (.invokevirtual 68, (37, 2, 11, 0)) := by decide +kernel
theorem f_36_53 : rfI 36 53 = some (.aload_n 0, (0, 0, 0, 0)) := by decide +kernel
theorem f_36_54 : rfI 36 54 = some (.iload 5, (0, 0, 0, 0)) := by decide +kernel
theorem f_36_56 : rfI 36 56 = some (.iconst 1, (0, 0, 0, 0)) := by decide +kernel
theorem f_36_57 : rfI 36 57 = some (.isub, (0, 0, 0, 0)) := by decide +kernel
theorem f_36_58 : rfI 36 58 = some (.invokevirtual 68, (37, 2, 11, 0)) := by decide +kernel
theorem f_36_61 : rfI 36 61 = some (.aload_n 0, (0, 0, 0, 0)) := by decide +kernel
theorem f_36_62 : rfI 36 62 = some (.getfield 24, (2, 4, 2, 0)) := by decide +kernel
theorem f_36_65 : rfI 36 65 = some (.iload 5, (0, 0, 0, 0)) := by decide +kernel
theorem f_36_67 : rfI 36 67 = some (.iconst 1, (0, 0, 0, 0)) := by decide +kernel
theorem f_36_68 : rfI 36 68 = some (.isub, (0, 0, 0, 0)) := by decide +kernel
theorem f_36_69 : rfI 36 69 = some (.iaload, (0, 0, 0, 0)) := by decide +kernel
theorem f_36_70 : rfI 36 70 = some (.aload_n 0, (0, 0, 0, 0)) := by decide +kernel
theorem f_36_71 : rfI 36 71 = some (.getfield 24, (2, 4, 2, 0)) := by decide +kernel
theorem f_36_74 : rfI 36 74 = some (.iload 5, (0, 0, 0, 0)) := by decide +kernel
theorem f_36_76 : rfI 36 76 = some (.iconst 2, (0, 0, 0, 0)) := by decide +kernel
theorem f_36_77 : rfI 36 77 = some (.isub, (0, 0, 0, 0)) := by decide +kernel
theorem f_36_78 : rfI 36 78 = some (.iaload, (0, 0, 0, 0)) := by decide +kernel
theorem f_36_79 : rfI 36 79 = some (.iadd, (0, 0, 0, 0)) := by decide +kernel
theorem f_36_80 : rfI 36 80 = some (.istore 6, (0, 0, 0, 0)) := by decide +kernel
theorem f_36_82 : rfI 36 82 = some (.aload_n 0, (0, 0, 0, 0)) := by decide +kernel
theorem f_36_83 : rfI 36 83 = some (.getfield 24, (2, 4, 2, 0)) := by decide +kernel
theorem f_36_86 : rfI 36 86 = some (.iload 5, (0, 0, 0, 0)) := by decide +kernel
theorem f_36_88 : rfI 36 88 = some (.iconst 2, (0, 0, 0, 0)) := by decide +kernel
theorem f_36_89 : rfI 36 89 = some (.isub, (0, 0, 0, 0)) := by decide +kernel
theorem f_36_90 : rfI 36 90 = some (.iload 6, (0, 0, 0, 0)) := by decide +kernel
theorem f_36_92 : rfI 36 92 = some (.iastore, (0, 0, 0, 0)) := by decide +kernel
theorem f_36_93 : rfI 36 93 = some (.iload 4, (0, 0, 0, 0)) := by decide +kernel
theorem f_36_95 : rfI 36 95 = some (.iload 6, (0, 0, 0, 0)) := by decide +kernel
theorem f_36_97 : rfI 36 97 = some (.iadd, (0, 0, 0, 0)) := by decide +kernel
theorem f_36_98 : rfI 36 98 = some (.istore 4, (0, 0, 0, 0)) := by decide +kernel
theorem f_36_100 : rfI 36 100 = some (.iinc 5 (-1), (0, 0, 0, 0)) := by decide +kernel
theorem f_36_103 : rfI 36 103 = some (.goto (-62), (0, 0, 0, 0)) := by decide +kernel
theorem f_36_106 : rfI 36 106 = some (.iload 4, (0, 0, 0, 0)) := by decide +kernel
theorem f_36_108 : rfI 36 108 = some (.ireturn, (0, 0, 0, 0)) := by decide +kernel
theorem f_37_0 : rfI 37 0 = some (.iconst 0, (0, 0, 0, 0)) := by decide +kernel
theorem f_37_1 : rfI 37 1 = some (.istore_n 2, (0, 0, 0, 0)) := by decide +kernel
theorem f_37_2 : rfI 37 2 = some (.iload_n 2, (0, 0, 0, 0)) := by decide +kernel
theorem f_37_3 : rfI 37 3 = some (.iconst 1, (0, 0, 0, 0)) := by decide +kernel
theorem f_37_4 : rfI 37 4 = some (.iadd, (0, 0, 0, 0)) := by decide +kernel
theorem f_37_5 : rfI 37 5 = some (.iload_n 1, (0, 0, 0, 0)) := by decide +kernel
theorem f_37_6 : rfI 37 6 = some (.if_icmp .ge 64, (0, 0, 0, 0)) := by decide +kernel
theorem f_37_9 : rfI 37 9 = some (.iload_n 2, (0, 0, 0, 0)) := by decide +kernel
theorem f_37_10 : rfI 37 10 = some (.iconst 1, (0, 0, 0, 0)) := by decide +kernel
theorem f_37_11 : rfI 37 11 = some (.iadd, (0, 0, 0, 0)) := by decide +kernel
theorem f_37_12 : rfI 37 12 = some (.bipush 8, (0, 0, 0, 0)) := by decide +kernel
theorem f_37_14 : rfI 37 14 = some (.if_icmp .ge 56, (0, 0, 0, 0)) := by decide +kernel
theorem f_37_17 : rfI 37 17 = some (.aload_n 0, (0, 0, 0, 0)) := by decide +kernel
theorem f_37_18 : rfI 37 18 = some (.getfield 24, (2, 4, 2, 0)) := by decide +kernel
theorem f_37_21 : rfI 37 21 = some (.iload_n 2, (0, 0, 0, 0)) := by decide +kernel
theorem f_37_22 : rfI 37 22 = some (.iaload, (0, 0, 0, 0)) := by decide +kernel
theorem f_37_23 : rfI 37 23 = some (.aload_n 0, (0, 0, 0, 0)) := by decide +kernel
theorem f_37_24 : rfI 37 24 = some (.getfield 24, (2, 4, 2, 0)) := by decide +kernel
theorem f_37_27 : rfI 37 27 = some (.iload_n 2, (0, 0, 0, 0)) := by decide +kernel
theorem f_37_28 : rfI 37 28 = some (.iconst 1, (0, 0, 0, 0)) := by decide +kernel
theorem f_37_29 : rfI 37 29 = some (.iadd, (0, 0, 0, 0)) := by decide +kernel
theorem f_37_30 : rfI 37 30 = some (.iaload, (0, 0, 0, 0)) := by decide +kernel
theorem f_37_31 : rfI 37 31 = some (.if_icmp .ge 33, (0, 0, 0, 0)) := by decide +kernel
theorem f_37_34 : rfI 37 34 = some (.aload_n 0, (0, 0, 0, 0)) := by decide +kernel
theorem f_37_35 : rfI 37 35 = some (.getfield 24, (2, 4, 2, 0)) := by decide +kernel
theorem f_37_38 : rfI 37 38 = some (.iload_n 2, (0, 0, 0, 0)) := by decide +kernel
theorem f_37_39 : rfI 37 39 = some (.iaload, (0, 0, 0, 0)) := by decide +kernel
theorem f_37_40 : rfI 37 40 = some (.istore_n 3, (0, 0, 0, 0)) := by decide +kernel
theorem f_37_41 : rfI 37 41 = some (.aload_n 0, (0, 0, 0, 0)) := by decide +kernel
theorem f_37_42 : rfI 37 42 = some (.getfield 24, (2, 4, 2, 0)) := by decide +kernel
theorem f_37_45 : rfI 37 45 = some (.iload_n 2, (0, 0, 0, 0)) := by decide +kernel
theorem f_37_46 : rfI 37 46 = some (.aload_n 0, (0, 0, 0, 0)) := by decide +kernel
theorem f_37_47 : rfI 37 47 = some (.getfield 24, (2, 4, 2, 0)) := by decide +kernel
theorem f_37_50 : rfI 37 50 = some (.iload_n 2, (0, 0, 0, 0)) := by decide +kernel
theorem f_37_51 : rfI 37 51 = some (.iconst 1, (0, 0, 0, 0)) := by decide +kernel
theorem f_37_52 : rfI 37 52 = some (.iadd, (0, 0, 0, 0)) := by decide +kernel
theorem f_37_53 : rfI 37 53 = some (.iaload, (0, 0, 0, 0)) := by decide +kernel
theorem f_37_54 : rfI 37 54 = some (.iastore, (0, 0, 0, 0)) := by decide +kernel
theorem f_37_55 : rfI 37 55 = some (.aload_n 0, (0, 0, 0, 0)) := by decide +kernel
theorem f_37_56 : rfI 37 56 = some (.getfield 24, (2, 4, 2, 0)) := by decide +kernel
theorem f_37_59 : rfI 37 59 = some (.iload_n 2, (0, 0, 0, 0)) := by decide +kernel
theorem f_37_60 : rfI 37 60 = some (.iconst 1, (0, 0, 0, 0)) := by decide +kernel
theorem f_37_61 : rfI 37 61 = some (.iadd, (0, 0, 0, 0)) := by decide +kernel
theorem f_37_62 : rfI 37 62 = some (.iload_n 3, (0, 0, 0, 0)) := by decide +kernel
theorem f_37_63 : rfI 37 63 = some (.iastore, (0, 0, 0, 0)) := by decide +kernel
theorem f_37_64 : rfI 37 64 = some (.iinc 2 1, (0, 0, 0, 0)) := by decide +kernel
theorem f_37_67 : rfI 37 67 = some (.goto (-65), (0, 0, 0, 0)) := by decide +kernel
theorem f_37_70 : rfI 37 70 = some (.return_, (0, 0, 0, 0)) := by decide +kernel
theorem f_38_0 : rfI 38 0 = some (.iload_n 2, (0, 0, 0, 0)) := by decide +kernel
theorem f_38_1 : rfI 38 1 = some (.bipush 8, (0, 0, 0, 0)) := by decide +kernel
theorem f_38_3 : rfI 38 3 = some (.invokestatic 36, (1001, 2, 14, 0)) := by decide +kernel
theorem f_38_6 : rfI 38 6 = some (.istore_n 3, (0, 0, 0, 0)) := by decide +kernel
theorem f_38_7 : rfI 38 7 = some (.iconst 1, (0, 0, 0, 0)) := by decide +kernel
theorem f_38_8 : rfI 38 8 = some (.istore 4, (0, 0, 0, 0)) := by decide +kernel
theorem f_38_10 : rfI 38 10 = some (.iload 4, (0, 0, 0, 0)) := by decide +kernel
theorem f_38_12 : rfI 38 12 = some (.iload_n 3, (0, 0, 0, 0)) := by decide +kernel
theorem f_38_13 : rfI 38 13 = some (.if_icmp .gt 68, (0, 0, 0, 0)) := by decide +kernel
theorem f_38_16 : rfI 38 16 = some (.iconst 0, (0, 0, 0, 0)) := by decide +kernel
theorem f_38_17 : rfI 38 17 = some (.istore 5, (0, 0, 0, 0)) := by decide +kernel
theorem f_38_19 : rfI 38 19 = some (.iload 5, (0, 0, 0, 0)) := by decide +kernel
theorem f_38_21 : rfI 38 21 = some (.iload 4, (0, 0, 0, 0)) := by decide +kernel
theorem f_38_23 : rfI 38 23 = some (.iadd, (0, 0, 0, 0)) := by decide +kernel
theorem f_38_24 : rfI 38 24 = some (.iload_n 3, (0, 0, 0, 0)) := by decide +kernel
theorem f_38_25 : rfI 38 25 = some (.if_icmp .gt 50, (0, 0, 0, 0)) := by decide +kernel
theorem f_38_28 : rfI 38 28 = some (.iload 5, (0, 0, 0, 0)) := by decide +kernel
theorem f_38_30 : rfI 38 30 = some (.iload 4, (0, 0, 0, 0)) := by decide +kernel
theorem f_38_32 : rfI 38 32 = some (.iadd, (0, 0, 0, 0)) := by decide +kernel
theorem f_38_33 : rfI 38 33 = some (.iconst 1, (0, 0, 0, 0)) := by decide +kernel
theorem f_38_34 : rfI 38 34 = some (.isub, (0, 0, 0, 0)) := by decide +kernel
theorem f_38_35 : rfI 38 35 = some (.istore 6, (0, 0, 0, 0)) := by decide +kernel
theorem f_38_37 : rfI 38 37 = some (.aload_n 0, (0, 0, 0, 0)) := by decide +kernel
theorem f_38_38 : rfI 38 38 = some (.getfield 27, (2, 5, 2, 0)) := by decide +kernel
theorem f_38_41 : rfI 38 41 = some (.iload 5, (0, 0, 0, 0)) := by decide +kernel
theorem f_38_43 : rfI 38 43 = some (.bipush 8, (0, 0, 0, 0)) := by decide +kernel
theorem f_38_45 : rfI 38 45 = some (.imul, (0, 0, 0, 0)) := by decide +kernel
theorem f_38_46 : rfI 38 46 = some (.iload 6, (0, 0, 0, 0)) := by decide +kernel
theorem f_38_48 : rfI 38 48 = some (.iadd, (0, 0, 0, 0)) := by decide +kernel
theorem f_38_49 : rfI 38 49 = some (.iload 4, (0, 0, 0, 0)) := by decide +kernel
theorem f_38_51 : rfI 38 51 = some (.iconst 1, (0, 0, 0, 0)) := by decide +kernel
theorem f_38_52 : rfI 38 52 = some (.if_icmp .ne 7, (0, 0, 0, 0)) := by decide +kernel
theorem f_38_55 : rfI 38 55 = some (.iconst 0, (0, 0, 0, 0)) := by decide +kernel
theorem f_38_56 : rfI 38 56 = some (.goto 12, (0, 0, 0, 0)) := by decide +kernel
theorem f_38_59 : rfI 38 59 = some (.aload_n 0, (0, 0, 0, 0)) := by decide +kernel
theorem f_38_60 : rfI 38 60 = some (.aload_n 1, (0, 0, 0, 0)) := by decide +kernel
theorem f_38_61 : rfI 38 61 = some (.iload 5, (0, 0, 0, 0)) := by decide +kernel
theorem f_38_63 : rfI 38 63 = some (.iload 6, (0, 0, 0, 0)) := by decide +kernel
theorem f_38_65 : rfI 38 65 = some (.invokevirtual 72, (39, 4, 11, 0)) := by decide +kernel
theorem f_38_68 : rfI 38 68 = some (.iastore, (0, 0, 0, 0)) := by decide +kernel
theorem f_38_69 : rfI 38 69 = some (.iinc 5 1, (0, 0, 0, 0)) := by decide +kernel
theorem f_38_72 : rfI 38 72 = some (.goto (-53), (0, 0, 0, 0)) := by decide +kernel
theorem f_38_75 : rfI 38 75 = some (.iinc 4 1, (0, 0, 0, 0)) := by decide +kernel
theorem f_38_78 : rfI 38 78 = some (.goto (-68), (0, 0, 0, 0)) := by decide +kernel
theorem f_38_81 : rfI 38 81 = some (.aload_n 0, (0, 0, 0, 0)) := by decide +kernel
theorem f_38_82 : rfI 38 82 = some (.iconst 0, (0, 0, 0, 0)) := by decide +kernel
theorem f_38_83 : rfI 38 83 = some (.iload_n 3, (0, 0, 0, 0)) := by decide +kernel
theorem f_38_84 : rfI 38 84 = some (.iconst 1, (0, 0, 0, 0)) := by decide +kernel
theorem f_38_85 : rfI 38 85 = some (.isub, (0, 0, 0, 0)) := by decide +kernel
theorem f_38_86 : rfI 38 86 = some (.invokevirtual 75, (40, 3, 11, 0)) := by decide +kernel
theorem f_38_89 : rfI 38 89 = some (.ireturn, (0, 0, 0, 0)) := by decide +kernel
theorem f_39_0 : rfI 39 0 = some (.ldc 42, (4, 4, 4, 1000000)) := by decide +kernel
theorem f_39_2 : rfI 39 2 = some (.istore 4, (0, 0, 0, 0)) := by decide +kernel
theorem f_39_4 : rfI 39 4 = some (.iconst 0, (0, 0, 0, 0)) := by decide +kernel
theorem f_39_5 : rfI 39 5 = some (.istore 5, (0, 0, 0, 0)) := by decide +kernel
theorem f_39_7 : rfI 39 7 = some (.iload_n 2, (0, 0, 0, 0)) := by decide +kernel
theorem f_39_8 : rfI 39 8 = some (.istore 6, (0, 0, 0, 0)) := by decide +kernel
theorem f_39_10 : rfI 39 10 = some (.iload 6, (0, 0, 0, 0)) := by decide +kernel
theorem f_39_12 : rfI 39 12 = some (.iload_n 3, (0, 0, 0, 0)) := by decide +kernel
theorem f_39_13 : rfI 39 13 = some (.if_icmp .gt 50, (0, 0, 0, 0)) := by decide +kernel
theorem f_39_16 : rfI 39 16 = some (.iload 5, (0, 0, 0, 0)) := by decide +kernel
theorem f_39_18 : rfI 39 18 = some (.aload_n 1, (0, 0, 0, 0)) := by decide +kernel
theorem f_39_19 : rfI 39 19 = some (.iload 6, (0, 0, 0, 0)) := by decide +kernel
theorem f_39_21 : rfI 39 21 = some (.invokevirtual 30, (95, 2, 11, 0)) := by decide +kernel
theorem f_39_24 : rfI 39 24 = some (.iadd, (0, 0, 0, 0)) := by decide +kernel
theorem f_39_25 : rfI 39 25 = some (.istore 5, (0, 0, 0, 0)) := by decide +kernel
theorem f_39_27 : rfI 39 27 = some (.iload 6, (0, 0, 0, 0)) := by decide +kernel
theorem f_39_29 : rfI 39 29 = some (.iload_n 3, (0, 0, 0, 0)) := by decide +kernel
theorem f_39_30 : rfI 39 30 = some (.if_icmp .ge 27, (0, 0, 0, 0)) := by decide +kernel
theorem f_39_33 : rfI 39 33 = some (.iload 4, (0, 0, 0, 0)) := by decide +kernel
theorem f_39_35 : rfI 39 35 = some (.aload_n 0, (0, 0, 0, 0)) := by decide +kernel
theorem f_39_36 : rfI 39 36 = some (.iload_n 2, (0, 0, 0, 0)) := by decide +kernel
theorem f_39_37 : rfI 39 37 = some (.iload 6, (0, 0, 0, 0)) := by decide +kernel
theorem f_39_39 : rfI 39 39 = some (.invokevirtual 75, (40, 3, 11, 0)) := by decide +kernel
theorem f_39_42 : rfI 39 42 = some (.aload_n 0, (0, 0, 0, 0)) := by decide +kernel
theorem f_39_43 : rfI 39 43 = some (.iload 6, (0, 0, 0, 0)) := by decide +kernel
theorem f_39_45 : rfI 39 45 = some (.iconst 1, (0, 0, 0, 0)) := by decide +kernel
theorem f_39_46 : rfI 39 46 = some (.iadd, (0, 0, 0, 0)) := by decide +kernel
theorem f_39_47 : rfI 39 47 = some (.iload_n 3, (0, 0, 0, 0)) := by decide +kernel
theorem f_39_48 : rfI 39 48 = some (.invokevirtual 75, (40, 3, 11, 0)) := by decide +kernel
theorem f_39_51 : rfI 39 51 = some (.iadd, (0, 0, 0, 0)) := by decide +kernel
theorem f_39_52 : rfI 39 52 = some (.invokestatic 36, (1001, 2, 14, 0)) := by decide +kernel
theorem f_39_55 : rfI 39 55 = some (.istore 4, (0, 0, 0, 0)) := by decide +kernel
theorem f_39_57 : rfI 39 57 = some (.iinc 6 1, (0, 0, 0, 0)) := by decide +kernel
theorem f_39_60 : rfI 39 60 = some (.goto (-50), (0, 0, 0, 0)) := by decide +kernel
theorem f_39_63 : rfI 39 63 = some (.iload 4, (0, 0, 0, 0)) := by decide +kernel
theorem f_39_65 : rfI 39 65 = some (.iload 5, (0, 0, 0, 0)) := by decide +kernel
theorem f_39_67 : rfI 39 67 = some (.iadd, (0, 0, 0, 0)) := by decide +kernel
theorem f_39_68 : rfI 39 68 = some (.ireturn, (0, 0, 0, 0)) := by decide +kernel
theorem f_40_0 : rfI 40 0 = some (.iload_n 1, (0, 0, 0, 0)) := by decide +kernel
theorem f_40_1 : rfI 40 1 = some (.ifCond .lt 23, (0, 0, 0, 0)) := by decide +kernel
theorem f_40_4 : rfI 40 4 = some (.iload_n 1, (0, 0, 0, 0)) := by decide +kernel
theorem f_40_5 : rfI 40 5 = some (.bipush 8, (0, 0, 0, 0)) := by decide +kernel
theorem f_40_7 : rfI 40 7 = some (.if_icmp .ge 17, (0, 0, 0, 0)) := by decide +kernel
theorem f_40_10 : rfI 40 10 = some (.iload_n 2, (0, 0, 0, 0)) := by decide +kernel
theorem f_40_11 : rfI 40 11 = some (.ifCond .lt 13, (0, 0, 0, 0)) := by decide +kernel
theorem f_40_14 : rfI 40 14 = some (.iload_n 2, (0, 0, 0, 0)) := by decide +kernel
theorem f_40_15 : rfI 40 15 = some (.bipush 8, (0, 0, 0, 0)) := by decide +kernel
theorem f_40_17 : rfI 40 17 = some (.if_icmp .ge 7, (0, 0, 0, 0)) := by decide +kernel
theorem f_40_20 : rfI 40 20 = some (.iconst 1, (0, 0, 0, 0)) := by decide +kernel
theorem f_40_21 : rfI 40 21 = some (.goto 4, (0, 0, 0, 0)) := by decide +kernel
theorem f_40_24 : rfI 40 24 = some (.iconst 0, (0, 0, 0, 0)) := by decide +kernel
theorem f_40_25 : rfI 40 25 = some (.istore_n 3, (0, 0, 0, 0)) := by decide +kernel
theorem f_40_26 : rfI 40 26 = some (.iload_n 3, (0, 0, 0, 0)) := by decide +kernel
theorem f_40_27 : rfI 40 27 = some (.ifCond .eq 17, (0, 0, 0, 0)) := by decide +kernel
theorem f_40_30 : rfI 40 30 = some (.aload_n 0, (0, 0, 0, 0)) := by decide +kernel
theorem f_40_31 : rfI 40 31 = some (.getfield 27, (2, 5, 2, 0)) := by decide +kernel
theorem f_40_34 : rfI 40 34 = some (.iload_n 1, (0, 0, 0, 0)) := by decide +kernel
theorem f_40_35 : rfI 40 35 = some (.bipush 8, (0, 0, 0, 0)) := by decide +kernel
theorem f_40_37 : rfI 40 37 = some (.imul, (0, 0, 0, 0)) := by decide +kernel
theorem f_40_38 : rfI 40 38 = some (.iload_n 2, (0, 0, 0, 0)) := by decide +kernel
theorem f_40_39 : rfI 40 39 = some (.iadd, (0, 0, 0, 0)) := by decide +kernel
theorem f_40_40 : rfI 40 40 = some (.iaload, (0, 0, 0, 0)) := by decide +kernel
theorem f_40_41 : rfI 40 41 = some (.goto 4, (0, 0, 0, 0)) := by decide +kernel
theorem f_40_44 : rfI 40 44 = some (.iconst 0, (0, 0, 0, 0)) := by decide +kernel
theorem f_40_45 : rfI 40 45 = some (.ireturn, (0, 0, 0, 0)) := by decide +kernel
theorem f_42_0 : rfI 42 0 = some (.aload_n 0, (0, 0, 0, 0)) := by decide +kernel
theorem f_42_1 : rfI 42 1 = some (.iconst 0, (0, 0, 0, 0)) := by decide +kernel
theorem f_42_2 : rfI 42 2 = some (.putfield 27, (3, 5, 0, 0)) := by decide +kernel
theorem f_42_5 : rfI 42 5 = some (.aload_n 0, (0, 0, 0, 0)) := by decide +kernel
theorem f_42_6 : rfI 42 6 = some (.iconst 0, (0, 0, 0, 0)) := by decide +kernel
theorem f_42_7 : rfI 42 7 = some (.putfield 31, (3, 6, 0, 0)) := by decide +kernel
theorem f_42_10 : rfI 42 10 = some (.return_, (0, 0, 0, 0)) := by decide +kernel
theorem f_43_0 : rfI 43 0 = some (.aload_n 1, (0, 0, 0, 0)) := by decide +kernel
theorem f_43_1 : rfI 43 1 = some (.getfield 11, (3, 0, 2, 0)) := by decide +kernel
theorem f_43_4 : rfI 43 4 = some (.iconst 0, (0, 0, 0, 0)) := by decide +kernel
theorem f_43_5 : rfI 43 5 = some (.aload_n 0, (0, 0, 0, 0)) := by decide +kernel
theorem f_43_6 : rfI 43 6 = some (.getfield 11, (3, 0, 2, 0)) := by decide +kernel
theorem f_43_9 : rfI 43 9 = some (.iconst 0, (0, 0, 0, 0)) := by decide +kernel
theorem f_43_10 : rfI 43 10 = some (.bipush 16, (0, 0, 0, 0)) := by decide +kernel
theorem f_43_12 : rfI 43 12 = some (.invokestatic 34, (1000, 5, 12, 0)) := by decide +kernel
theorem f_43_15 : rfI 43 15 = some (.aload_n 1, (0, 0, 0, 0)) := by decide +kernel
theorem f_43_16 : rfI 43 16 = some (.getfield 15, (3, 1, 2, 0)) := by decide +kernel
theorem f_43_19 : rfI 43 19 = some (.iconst 0, (0, 0, 0, 0)) := by decide +kernel
theorem f_43_20 : rfI 43 20 = some (.aload_n 0, (0, 0, 0, 0)) := by decide +kernel
theorem f_43_21 : rfI 43 21 = some (.getfield 15, (3, 1, 2, 0)) := by decide +kernel
theorem f_43_24 : rfI 43 24 = some (.iconst 0, (0, 0, 0, 0)) := by decide +kernel
theorem f_43_25 : rfI 43 25 = some (.bipush 16, (0, 0, 0, 0)) := by decide +kernel
theorem f_43_27 : rfI 43 27 = some (.invokestatic 34, (1000, 5, 12, 0)) := by decide +kernel
theorem f_43_30 : rfI 43 30 = some (.aload_n 1, (0, 0, 0, 0)) := by decide +kernel
theorem f_43_31 : rfI 43 31 = some (.getfield 18, (3, 2, 2, 0)) := by decide +kernel
theorem f_43_34 : rfI 43 34 = some (.iconst 0, (0, 0, 0, 0)) := by decide +kernel
theorem f_43_35 : rfI 43 35 = some (.aload_n 0, (0, 0, 0, 0)) := by decide +kernel
theorem f_43_36 : rfI 43 36 = some (.getfield 18, (3, 2, 2, 0)) := by decide +kernel
theorem f_43_39 : rfI 43 39 = some (.iconst 0, (0, 0, 0, 0)) := by decide +kernel
theorem f_43_40 : rfI 43 40 = some (.bipush 16, (0, 0, 0, 0)) := by decide +kernel
theorem f_43_42 : rfI 43 42 = some (.invokestatic 34, (1000, 5, 12, 0)) := by decide +kernel
theorem f_43_45 : rfI 43 45 = some (.aload_n 1, (0, 0, 0, 0)) := by decide +kernel
theorem f_43_46 : rfI 43 46 = some (.getfield 21, (3, 3, 2, 0)) := by decide +kernel
theorem f_43_49 : rfI 43 49 = some (.iconst 0, (0, 0, 0, 0)) := by decide +kernel
theorem f_43_50 : rfI 43 50 = some (.aload_n 0, (0, 0, 0, 0)) := by decide +kernel
theorem f_43_51 : rfI 43 51 = some (.getfield 21, (3, 3, 2, 0)) := by decide +kernel
theorem f_43_54 : rfI 43 54 = some (.iconst 0, (0, 0, 0, 0)) := by decide +kernel
theorem f_43_55 : rfI 43 55 = some (.bipush 16, (0, 0, 0, 0)) := by decide +kernel
theorem f_43_57 : rfI 43 57 = some (.invokestatic 34, (1000, 5, 12, 0)) := by decide +kernel
theorem f_43_60 : rfI 43 60 = some (.aload_n 1, (0, 0, 0, 0)) := by decide +kernel
theorem f_43_61 : rfI 43 61 = some (.getfield 24, (3, 4, 2, 0)) := by decide +kernel
theorem f_43_64 : rfI 43 64 = some (.iconst 0, (0, 0, 0, 0)) := by decide +kernel
theorem f_43_65 : rfI 43 65 = some (.aload_n 0, (0, 0, 0, 0)) := by decide +kernel
theorem f_43_66 : rfI 43 66 = some (.getfield 24, (3, 4, 2, 0)) := by decide +kernel
theorem f_43_69 : rfI 43 69 = some (.iconst 0, (0, 0, 0, 0)) := by decide +kernel
theorem f_43_70 : rfI 43 70 = some (.sipush 480, (0, 0, 0, 0)) := by decide +kernel
theorem f_43_73 : rfI 43 73 = some (.invokestatic 34, (1000, 5, 12, 0)) := by decide +kernel
theorem f_43_76 : rfI 43 76 = some (.aload_n 0, (0, 0, 0, 0)) := by decide +kernel
theorem f_43_77 : rfI 43 77 = some (.aload_n 1, (0, 0, 0, 0)) := by decide +kernel
theorem f_43_78 : rfI 43 78 = some (.getfield 27, (3, 5, 0, 0)) := by decide +kernel
theorem f_43_81 : rfI 43 81 = some (.putfield 27, (3, 5, 0, 0)) := by decide +kernel
theorem f_43_84 : rfI 43 84 = some (.aload_n 0, (0, 0, 0, 0)) := by decide +kernel
theorem f_43_85 : rfI 43 85 = some (.aload_n 1, (0, 0, 0, 0)) := by decide +kernel
theorem f_43_86 : rfI 43 86 = some (.getfield 31, (3, 6, 0, 0)) := by decide +kernel
theorem f_43_89 : rfI 43 89 = some (.putfield 31, (3, 6, 0, 0)) := by decide +kernel
theorem f_43_92 : rfI 43 92 = some (.return_, (0, 0, 0, 0)) := by decide +kernel
theorem f_44_0 : rfI 44 0 = some (.aload_n 0, (0, 0, 0, 0)) := by decide +kernel
theorem f_44_1 : rfI 44 1 = some (.getfield 27, (3, 5, 0, 0)) := by decide +kernel
theorem f_44_4 : rfI 44 4 = some (.bipush 16, (0, 0, 0, 0)) := by decide +kernel
theorem f_44_6 : rfI 44 6 = some (.if_icmp .ge 26, (0, 0, 0, 0)) := by decide +kernel
theorem f_44_9 : rfI 44 9 = some (.aload_n 0, (0, 0, 0, 0)) := by decide +kernel
theorem f_44_10 : rfI 44 10 = some (.getfield 11, (3, 0, 2, 0)) := by decide +kernel
theorem f_44_13 : rfI 44 13 = some (.aload_n 0, (0, 0, 0, 0)) := by decide +kernel
theorem f_44_14 : rfI 44 14 = some (.getfield 27, (3, 5, 0, 0)) := by decide +kernel
theorem f_44_17 : rfI 44 17 = some (.iload_n 1, (0, 0, 0, 0)) := by decide +kernel
theorem f_44_18 : rfI 44 18 = some (.iastore, (0, 0, 0, 0)) := by decide +kernel
theorem f_44_19 : rfI 44 19 = some (.aload_n 0, (0, 0, 0, 0)) := by decide +kernel
theorem f_44_20 : rfI 44 20 = some (.getfield 15, (3, 1, 2, 0)) := by decide +kernel
theorem f_44_23 : rfI 44 23 = some (.aload_n 0, (0, 0, 0, 0)) := by decide +kernel
theorem f_44_24 : rfI 44 24 = some (.getfield 27, (3, 5, 0, 0)) := by decide +kernel
theorem f_44_27 : rfI 44 27 = some (.aload_n 0, (0, 0, 0, 0)) := by decide +kernel
theorem f_44_28 : rfI 44 28 = some (.getfield 31, (3, 6, 0, 0)) := by decide +kernel
theorem f_44_31 : rfI 44 31 = some (.iastore, (0, 0, 0, 0)) := by decide +kernel
theorem f_44_32 : rfI 44 32 = some (.return_, (0, 0, 0, 0)) := by decide +kernel
theorem f_45_0 : rfI 45 0 = some (.aload_n 0, (0, 0, 0, 0)) := by decide +kernel
theorem f_45_1 : rfI 45 1 = some (.getfield 27, (3, 5, 0, 0)) := by decide +kernel
theorem f_45_4 : rfI 45 4 = some (.bipush 16, (0, 0, 0, 0)) := by decide +kernel
theorem f_45_6 : rfI 45 6 = some (.if_icmp .ge 16, (0, 0, 0, 0)) := by decide +kernel
theorem f_45_9 : rfI 45 9 = some (.aload_n 0, (0, 0, 0, 0)) := by decide +kernel
theorem f_45_10 : rfI 45 10 = some (.getfield 18, (3, 2, 2, 0)) := by decide +kernel
theorem f_45_13 : rfI 45 13 = some (.aload_n 0, (0, 0, 0, 0)) := by decide +kernel
theorem f_45_14 : rfI 45 14 = some (.getfield 27, (3, 5, 0, 0)) := by decide +kernel
theorem f_45_17 : rfI 45 17 = some (.aload_n 0, (0, 0, 0, 0)) := by decide +kernel
theorem f_45_18 : rfI 45 18 = some (.getfield 31, (3, 6, 0, 0)) := by decide +kernel
theorem f_45_21 : rfI 45 21 = some (.iastore, (0, 0, 0, 0)) := by decide +kernel
theorem f_45_22 : rfI 45 22 = some (.return_, (0, 0, 0, 0)) := by decide +kernel
theorem f_46_0 : rfI 46 0 = some (.aload_n 0, (0, 0, 0, 0)) := by decide +kernel
theorem f_46_1 : rfI 46 1 = some (.getfield 27, (3, 5, 0, 0)) := by decide +kernel
theorem f_46_4 : rfI 46 4 = some (.bipush 16, (0, 0, 0, 0)) := by decide +kernel
theorem f_46_6 : rfI 46 6 = some (.if_icmp .ge 26, (0, 0, 0, 0)) := by decide +kernel
theorem f_46_9 : rfI 46 9 = some (.aload_n 0, (0, 0, 0, 0)) := by decide +kernel
theorem f_46_10 : rfI 46 10 = some (.getfield 21, (3, 3, 2, 0)) := by decide +kernel
theorem f_46_13 : rfI 46 13 = some (.aload_n 0, (0, 0, 0, 0)) := by decide +kernel
theorem f_46_14 : rfI 46 14 = some (.getfield 27, (3, 5, 0, 0)) := by decide +kernel
theorem f_46_17 : rfI 46 17 = some (.aload_n 0, (0, 0, 0, 0)) := by decide +kernel
theorem f_46_18 : rfI 46 18 = some (.getfield 31, (3, 6, 0, 0)) := by decide +kernel
theorem f_46_21 : rfI 46 21 = some (.iastore, (0, 0, 0, 0)) := by decide +kernel
theorem f_46_22 : rfI 46 22 = some (.aload_n 0, (0, 0, 0, 0)) := by decide +kernel
theorem f_46_23 : rfI 46 23 = some (.dup, (0, 0, 0, 0)) := by decide +kernel
theorem f_46_24 : rfI 46 24 = some (.getfield 27, (3, 5, 0, 0)) := by decide +kernel
theorem f_46_27 : rfI 46 27 = some (.iconst 1, (0, 0, 0, 0)) := by decide +kernel
theorem f_46_28 : rfI 46 28 = some (.iadd, (0, 0, 0, 0)) := by decide +kernel
theorem f_46_29 : rfI 46 29 = some (.putfield 27, (3, 5, 0, 0)) := by decide +kernel
theorem f_46_32 : rfI 46 32 = some (.return_, (0, 0, 0, 0)) := by decide +kernel
theorem f_47_0 : rfI 47 0 = some (.aload_n 0, (0, 0, 0, 0)) := by decide +kernel
theorem f_47_1 : rfI 47 1 = some (.getfield 31, (3, 6, 0, 0)) := by decide +kernel
theorem f_47_4 : rfI 47 4 = some (.sipush 480, (0, 0, 0, 0)) := by decide +kernel
theorem f_47_7 : rfI 47 7 = some (.if_icmp .ge 23, (0, 0, 0, 0)) := by decide +kernel
theorem f_47_10 : rfI 47 10 = some (.aload_n 0, (0, 0, 0, 0)) := by decide +kernel
theorem f_47_11 : rfI 47 11 = some (.getfield 24, (3, 4, 2, 0)) := by decide +kernel
theorem f_47_14 : rfI 47 14 = some (.aload_n 0, (0, 0, 0, 0)) := by decide +kernel
theorem f_47_15 : rfI 47 15 = some (.getfield 31, (3, 6, 0, 0)) := by decide +kernel
theorem f_47_18 : rfI 47 18 = some (.iload_n 1, (0, 0, 0, 0)) := by decide +kernel
theorem f_47_19 : rfI 47 19 = some (.iastore, (0, 0, 0, 0)) := by decide +kernel
theorem f_47_20 : rfI 47 20 = some (.aload_n 0, (0, 0, 0, 0)) := by decide +kernel
theorem f_47_21 : rfI 47 21 = some (.dup, (0, 0, 0, 0)) := by decide +kernel
theorem f_47_22 : rfI 47 22 = some (.getfield 31, (3, 6, 0, 0)) := by decide +kernel
theorem f_47_25 : rfI 47 25 = some (.iconst 1, (0, 0, 0, 0)) := by decide +kernel
theorem f_47_26 : rfI 47 26 = some (.iadd, (0, 0, 0, 0)) := by decide +kernel
theorem f_47_27 : rfI 47 27 = some (.putfield 31, (3, 6, 0, 0)) := by decide +kernel
theorem f_47_30 : rfI 47 30 = some (.return_, (0, 0, 0, 0)) := by decide +kernel
theorem f_48_0 : rfI 48 0 = some (.iload_n 1, (0, 0, 0, 0)) := by decide +kernel
theorem f_48_1 : rfI 48 1 = some (.ifCond .lt 17, (0, 0, 0, 0)) := by decide +kernel
theorem f_48_4 : rfI 48 4 = some (.iload_n 1, (0, 0, 0, 0)) := by decide +kernel
theorem f_48_5 : rfI 48 5 = some (.sipush 480, (0, 0, 0, 0)) := by decide +kernel
theorem f_48_8 : rfI 48 8 = some (.if_icmp .ge 10, (0, 0, 0, 0)) := by decide +kernel
theorem f_48_11 : rfI 48 11 = some (.aload_n 0, (0, 0, 0, 0)) := by decide +kernel
theorem f_48_12 : rfI 48 12 = some (.getfield 24, (3, 4, 2, 0)) := by decide +kernel
theorem f_48_15 : rfI 48 15 = some (.iload_n 1, (0, 0, 0, 0)) := by decide +kernel
theorem f_48_16 : rfI 48 16 = some (.iload_n 2, (0, 0, 0, 0)) := by decide +kernel
theorem f_48_17 : rfI 48 17 = some (.iastore, (0, 0, 0, 0)) := by decide +kernel
theorem f_48_18 : rfI 48 18 = some (.return_, (0, 0, 0, 0)) := by decide +kernel
theorem f_49_0 : rfI 49 0 = some (.iload_n 1, (0, 0, 0, 0)) := by decide +kernel
theorem f_49_1 : rfI 49 1 = some (.ifCond .lt 19, (0, 0, 0, 0)) := by decide +kernel
theorem f_49_4 : rfI 49 4 = some (.iload_n 1, (0, 0, 0, 0)) := by decide +kernel
theorem f_49_5 : rfI 49 5 = some (.sipush 480, (0, 0, 0, 0)) := by decide +kernel
theorem f_49_8 : rfI 49 8 = some (.if_icmp .ge 12, (0, 0, 0, 0)) := by decide +kernel
theorem f_49_11 : rfI 49 11 = some (.aload_n 0, (0, 0, 0, 0)) := by decide +kernel
theorem f_49_12 : rfI 49 12 = some (.getfield 24, (3, 4, 2, 0)) := by decide +kernel
theorem f_49_15 : rfI 49 15 = some (.iload_n 1, (0, 0, 0, 0)) := by decide +kernel
theorem f_49_16 : rfI 49 16 = some (.iaload, (0, 0, 0, 0)) := by decide +kernel
theorem f_49_17 : rfI 49 17 = some (.goto 4, (0, 0, 0, 0)) := by decide +kernel
theorem f_49_20 : rfI 49 20 = some (.iconst (-1), (0, 0, 0, 0)) := by decide +kernel
theorem f_49_21 : rfI 49 21 = some (.ireturn, (0, 0, 0, 0)) := by decide +kernel
theorem f_51_0 : rfI 51 0 = some (.aload_n 1, (0, 0, 0, 0)) := by decide +kernel
theorem f_51_1 : rfI 51 1 = some (.iload_n 2, (0, 0, 0, 0)) := by decide +kernel
theorem f_51_2 : rfI 51 2 = some (.invokevirtual 18, (99, 2, 11, 0)) := by decide +kernel
theorem f_51_5 : rfI 51 5 = some (.aload_n 0, (0, 0, 0, 0)) := by decide +kernel
theorem f_51_6 : rfI 51 6 = some (.getfield 12, (4, 0, 2, 0)) := by decide +kernel
theorem f_51_9 : rfI 51 9 = some (.invokevirtual 24, (42, 1, 11, 0)) := by decide +kernel
theorem f_51_12 : rfI 51 12 = some (.iconst 0, (0, 0, 0, 0)) := by decide +kernel
theorem f_51_13 : rfI 51 13 = some (.istore_n 3, (0, 0, 0, 0)) := by decide +kernel
theorem f_51_14 : rfI 51 14 = some (.iload_n 3, (0, 0, 0, 0)) := by decide +kernel
theorem f_51_15 : rfI 51 15 = some (.bipush 16, (0, 0, 0, 0)) := by decide +kernel
theorem f_51_17 : rfI 51 17 = some (.if_icmp .gt 51, (0, 0, 0, 0)) := by decide +kernel
theorem f_51_20 : rfI 51 20 = some (.aload_n 0, (0, 0, 0, 0)) := by decide +kernel
theorem f_51_21 : rfI 51 21 = some (.aload_n 1, (0, 0, 0, 0)) := by decide +kernel
theorem f_51_22 : rfI 51 22 = some (.invokevirtual 27, (52, 2, 11, 0)) := by decide +kernel
theorem f_51_25 : rfI 51 25 = some (.ifCond .ne 8, (0, 0, 0, 0)) := by decide +kernel
theorem f_51_28 : rfI 51 28 = some (.aload_n 1, (0, 0, 0, 0)) := by decide +kernel
theorem f_51_29 : rfI 51 29 = some (.getfield 31, (9, 5, 0, 0)) := by decide +kernel
theorem f_51_32 : rfI 51 32 = some (.ireturn, (0, 0, 0, 0)) := by decide +kernel
theorem f_51_33 : rfI 51 33 = some (.aload_n 1, (0, 0, 0, 0)) := by decide +kernel
theorem f_51_34 : rfI 51 34 = some (.invokevirtual 35, (100, 1, 11, 0)) := by decide +kernel
theorem f_51_37 : rfI 51 37 = some (.ifCond .eq 11, (0, 0, 0, 0)) := by decide +kernel
theorem f_51_40 : rfI 51 40 = some (.aload_n 0, (0, 0, 0, 0)) := by decide +kernel
theorem f_51_41 : rfI 51 41 = some (.getfield 12, (4, 0, 2, 0)) := by decide +kernel
theorem f_51_44 : rfI 51 44 = some (.getfield 39, (3, 5, 0, 0)) := by decide +kernel
theorem f_51_47 : rfI 51 47 = some (.ireturn, (0, 0, 0, 0)) := by decide +kernel
theorem f_51_48 : rfI 51 48 = some (.aload_n 1, (0, 0, 0, 0)) := by decide +kernel
theorem f_51_49 : rfI 51 49 = some (.bipush 59, (0, 0, 0, 0)) := by decide +kernel
theorem f_51_51 : rfI 51 51 = some (.invokevirtual 42, (105, 2, 11, 0)) := by decide +kernel
theorem f_51_54 : rfI 51 54 = some (.ifCond .ne 8, (0, 0, 0, 0)) := by decide +kernel
theorem f_51_57 : rfI 51 57 = some (.aload_n 1, (0, 0, 0, 0)) := by decide +kernel
theorem f_51_58 : rfI 51 58 = some (.getfield 31, (9, 5, 0, 0)) := by decide +kernel
theorem f_51_61 : rfI 51 61 = some (.ireturn, (0, 0, 0, 0)) := by decide +kernel
theorem f_51_62 : rfI 51 62 = some (.iinc 3 1, (0, 0, 0, 0)) := by decide +kernel
theorem f_51_65 : rfI 51 65 = some (.goto (-51), (0, 0, 0, 0)) := by decide +kernel
theorem f_51_68 : rfI 51 68 = some (.aload_n 1, (0, 0, 0, 0)) := by decide +kernel
theorem f_51_69 : rfI 51 69 = some (.getfield 31, (9, 5, 0, 0)) := by decide +kernel
theorem f_51_72 : rfI 51 72 = some (.ireturn, (0, 0, 0, 0)) := by decide +kernel
theorem f_52_0 : rfI 52 0 = some (.aload_n 1, (0, 0, 0, 0)) := by decide +kernel
theorem f_52_1 : rfI 52 1 = some (.invokevirtual 46, (101, 1, 11, 0)) := by decide +kernel
theorem f_52_4 : rfI 52 4 = some (.istore_n 2, (0, 0, 0, 0)) := by decide +kernel
theorem f_52_5 : rfI 52 5 = some (.iload_n 2, (0, 0, 0, 0)) := by decide +kernel
theorem f_52_6 : rfI 52 6 = some (.bipush 102, (0, 0, 0, 0)) := by decide +kernel
theorem f_52_8 : rfI 52 8 = some (.if_icmp .eq 33, (0, 0, 0, 0)) := by decide +kernel
theorem f_52_11 : rfI 52 11 = some (.iload_n 2, (0, 0, 0, 0)) := by decide +kernel
theorem f_52_12 : rfI 52 12 = some (.bipush 119, (0, 0, 0, 0)) := by decide +kernel
theorem f_52_14 : rfI 52 14 = some (.if_icmp .eq 27, (0, 0, 0, 0)) := by decide +kernel
theorem f_52_17 : rfI 52 17 = some (.iload_n 2, (0, 0, 0, 0)) := by decide +kernel
theorem f_52_18 : rfI 52 18 = some (.bipush 113, (0, 0, 0, 0)) := by decide +kernel
theorem f_52_20 : rfI 52 20 = some (.if_icmp .eq 21, (0, 0, 0, 0)) := by decide +kernel
theorem f_52_23 : rfI 52 23 = some (.iload_n 2, (0, 0, 0, 0)) := by decide +kernel
theorem f_52_24 : rfI 52 24 = some (.bipush 105, (0, 0, 0, 0)) := by decide +kernel
theorem f_52_26 : rfI 52 26 = some (.if_icmp .eq 15, (0, 0, 0, 0)) := by decide +kernel
theorem f_52_29 : rfI 52 29 = some (.iload_n 2, (0, 0, 0, 0)) := by decide +kernel
theorem f_52_30 : rfI 52 30 = some (.bipush 120, (0, 0, 0, 0)) := by decide +kernel
theorem f_52_32 : rfI 52 32 = some (.if_icmp .eq 9, (0, 0, 0, 0)) := by decide +kernel
theorem f_52_35 : rfI 52 35 = some (.aload_n 1, (0, 0, 0, 0)) := by decide +kernel
theorem f_52_36 : rfI 52 36 = some (.iconst 1, (0, 0, 0, 0)) := by decide +kernel
theorem f_52_37 : rfI 52 37 = some (.invokevirtual 50, (103, 2, 11, 0)) := by decide +kernel
theorem f_52_40 : rfI 52 40 = some (.ireturn, (0, 0, 0, 0)) := by decide +kernel
theorem f_52_41 : rfI 52 41 = some (.aload_n 0, (0, 0, 0, 0)) := by decide +kernel
theorem f_52_42 : rfI 52 42 = some (.getfield 12, (4, 0, 2, 0)) := by decide +kernel
theorem f_52_45 : rfI 52 45 = some (.getfield 39, (3, 5, 0, 0)) := by decide +kernel
theorem f_52_48 : rfI 52 48 = some (.bipush 16, (0, 0, 0, 0)) := by decide +kernel
theorem f_52_50 : rfI 52 50 = some (.if_icmp .lt 9, (0, 0, 0, 0)) := by decide +kernel
theorem f_52_53 : rfI 52 53 = some (.aload_n 1, (0, 0, 0, 0)) := by decide +kernel
theorem f_52_54 : rfI 52 54 = some (.iconst 4, (0, 0, 0, 0)) := by decide +kernel
theorem f_52_55 : rfI 52 55 = some (.invokevirtual 50, (103, 2, 11, 0)) := by decide +kernel
theorem f_52_58 : rfI 52 58 = some (.ireturn, (0, 0, 0, 0)) := by decide +kernel
theorem f_52_59 : rfI 52 59 = some (.aload_n 1, (0, 0, 0, 0)) := by decide +kernel
theorem f_52_60 : rfI 52 60 = some (.invokevirtual 53, (102, 1, 11, 0)) := by decide +kernel
theorem f_52_63 : rfI 52 63 = some (.aload_n 0, (0, 0, 0, 0)) := by decide +kernel
theorem f_52_64 : rfI 52 64 = some (.getfield 12, (4, 0, 2, 0)) := by decide +kernel
theorem f_52_67 : rfI 52 67 = some (.iload_n 2, (0, 0, 0, 0)) := by decide +kernel
theorem f_52_68 : rfI 52 68 = some (.invokevirtual 56, (44, 2, 11, 0)) := by decide +kernel
theorem f_52_71 : rfI 52 71 = some (.iload_n 2, (0, 0, 0, 0)) := by decide +kernel
theorem f_52_72 : rfI 52 72 = some (.bipush 120, (0, 0, 0, 0)) := by decide +kernel
theorem f_52_74 : rfI 52 74 = some (.if_icmp .eq 14, (0, 0, 0, 0)) := by decide +kernel
theorem f_52_77 : rfI 52 77 = some (.aload_n 0, (0, 0, 0, 0)) := by decide +kernel
theorem f_52_78 : rfI 52 78 = some (.aload_n 1, (0, 0, 0, 0)) := by decide +kernel
theorem f_52_79 : rfI 52 79 = some (.iconst 0, (0, 0, 0, 0)) := by decide +kernel
theorem f_52_80 : rfI 52 80 = some (.invokevirtual 59, (58, 3, 11, 0)) := by decide +kernel
theorem f_52_83 : rfI 52 83 = some (.ifCond .ne 5, (0, 0, 0, 0)) := by decide +kernel
theorem f_52_86 : rfI 52 86 = some (.iconst 0, (0, 0, 0, 0)) := by decide +kernel
theorem f_52_87 : rfI 52 87 = some (.ireturn, (0, 0, 0, 0)) := by decide +kernel
theorem f_52_88 : rfI 52 88 = some (.aload_n 0, (0, 0, 0, 0)) := by decide +kernel
theorem f_52_89 : rfI 52 89 = some (.getfield 12, (4, 0, 2, 0)) := by decide +kernel
theorem f_52_92 : rfI 52 92 = some (.invokevirtual 63, (45, 1, 11, 0)) := by decide +kernel
theorem f_52_95 : rfI 52 95 = some (.aload_n 1, (0, 0, 0, 0)) := by decide +kernel
theorem f_52_96 : rfI 52 96 = some (.bipush 40, (0, 0, 0, 0)) := by decide +kernel
theorem f_52_98 : rfI 52 98 = some (.invokevirtual 42, (105, 2, 11, 0)) := by decide +kernel
theorem f_52_101 : rfI 52 101 = some (.ifCond .eq 21, (0, 0, 0, 0)) := by decide +kernel
theorem f_52_104 : rfI 52 104 = some (.aload_n 0, (0, 0, 0, 0)) := by decide +kernel
theorem f_52_105 : rfI 52 105 = some (.aload_n 1, (0, 0, 0, 0)) := by decide +kernel
theorem f_52_106 : rfI 52 106 = some (.iconst 1, (0, 0, 0, 0)) := by decide +kernel
theorem f_52_107 : rfI 52 107 = some (.invokevirtual 66, (53, 3, 11, 0)) := by decide +kernel
theorem f_52_110 : rfI 52 110 = some (.ifCond .eq 12, (0, 0, 0, 0)) := by decide +kernel
theorem f_52_113 : rfI 52 113 = some (.aload_n 1, (0, 0, 0, 0)) := by decide +kernel
theorem f_52_114 : rfI 52 114 = some (.bipush 41, (0, 0, 0, 0)) := by decide +kernel
theorem f_52_116 : rfI 52 116 = some (.invokevirtual 42, (105, 2, 11, 0)) := by decide +kernel
theorem f_52_119 : rfI 52 119 = some (.ifCond .ne 5, (0, 0, 0, 0)) := by decide +kernel
theorem f_52_122 : rfI 52 122 = some (.iconst 0, (0, 0, 0, 0)) := by decide +kernel
theorem f_52_123 : rfI 52 123 = some (.ireturn, (0, 0, 0, 0)) := by decide +kernel
theorem f_52_124 : rfI 52 124 = some (.aload_n 0, (0, 0, 0, 0)) := by decide +kernel
theorem f_52_125 : rfI 52 125 = some (.getfield 12, (4, 0, 2, 0)) := by decide +kernel
theorem f_52_128 : rfI 52 128 = some (.invokevirtual 69, (46, 1, 11, 0)) := by decide +kernel
theorem f_52_131 : rfI 52 131 = some (.iconst 1, (0, 0, 0, 0)) := by decide +kernel
theorem f_52_132 : rfI 52 132 = some (.ireturn, (0, 0, 0, 0)) := by decide +kernel
theorem f_53_0 : rfI 53 0 = some (.aload_n 0, (0, 0, 0, 0)) := by decide +kernel
theorem f_53_1 : rfI 53 1 = some (.aload_n 1, (0, 0, 0, 0)) := by decide +kernel
theorem f_53_2 : rfI 53 2 = some (.iload_n 2, (0, 0, 0, 0)) := by decide +kernel
theorem f_53_3 : rfI 53 3 = some (.invokevirtual 72, (54, 3, 11, 0)) := by decide +kernel
theorem f_53_6 : rfI 53 6 = some (.ifCond .ne 5, (0, 0, 0, 0)) := by decide +kernel
theorem f_53_9 : rfI 53 9 = some (.iconst 0, (0, 0, 0, 0)) := by decide +kernel
theorem f_53_10 : rfI 53 10 = some (.ireturn, (0, 0, 0, 0)) := by decide +kernel
theorem f_53_11 : rfI 53 11 = some (.iconst 0, (0, 0, 0, 0)) := by decide +kernel
theorem f_53_12 : rfI 53 12 = some (.istore_n 3, (0, 0, 0, 0)) := by decide +kernel
theorem f_53_13 : rfI 53 13 = some (.iload_n 3, (0, 0, 0, 0)) := by decide +kernel
theorem f_53_14 : rfI 53 14 = some (.sipush 240, (0, 0, 0, 0)) := by decide +kernel
theorem f_53_17 : rfI 53 17 = some (.if_icmp .ge 54, (0, 0, 0, 0)) := by decide +kernel
theorem f_53_20 : rfI 53 20 = some (.aload_n 1, (0, 0, 0, 0)) := by decide +kernel
theorem f_53_21 : rfI 53 21 = some (.invokevirtual 46, (101, 1, 11, 0)) := by decide +kernel
theorem f_53_24 : rfI 53 24 = some (.bipush 124, (0, 0, 0, 0)) := by decide +kernel
theorem f_53_26 : rfI 53 26 = some (.if_icmp .ne 45, (0, 0, 0, 0)) := by decide +kernel
theorem f_53_29 : rfI 53 29 = some (.aload_n 0, (0, 0, 0, 0)) := by decide +kernel
theorem f_53_30 : rfI 53 30 = some (.aload_n 1, (0, 0, 0, 0)) := by decide +kernel
theorem f_53_31 : rfI 53 31 = some (.bipush 124, (0, 0, 0, 0)) := by decide +kernel
theorem f_53_33 : rfI 53 33 = some (.invokevirtual 75, (55, 3, 11, 0)) := by decide +kernel
theorem f_53_36 : rfI 53 36 = some (.istore 4, (0, 0, 0, 0)) := by decide +kernel
theorem f_53_38 : rfI 53 38 = some (.aload_n 0, (0, 0, 0, 0)) := by decide +kernel
theorem f_53_39 : rfI 53 39 = some (.aload_n 1, (0, 0, 0, 0)) := by decide +kernel
theorem f_53_40 : rfI 53 40 = some (.iload_n 2, (0, 0, 0, 0)) := by decide +kernel
theorem f_53_41 : rfI 53 41 = some (.invokevirtual 72, (54, 3, 11, 0)) := by decide +kernel
theorem f_53_44 : rfI 53 44 = some (.ifCond .ne 5, (0, 0, 0, 0)) := by decide +kernel
theorem f_53_47 : rfI 53 47 = some (.iconst 0, (0, 0, 0, 0)) := by decide +kernel
theorem f_53_48 : rfI 53 48 = some (.ireturn, (0, 0, 0, 0)) := by decide +kernel
theorem f_53_49 : rfI 53 49 = some (.aload_n 0, (0, 0, 0, 0)) := by decide +kernel
theorem f_53_50 : rfI 53 50 = some (.getfield 12, (4, 0, 2, 0)) := by decide +kernel
theorem f_53_53 : rfI 53 53 = some (.iload 4, (0, 0, 0, 0)) := by decide +kernel
theorem f_53_55 : rfI 53 55 = some (.aload_n 0, (0, 0, 0, 0)) := by decide +kernel
theorem f_53_56 : rfI 53 56 = some (.getfield 12, (4, 0, 2, 0)) := by decide +kernel
theorem f_53_59 : rfI 53 59 = some (.getfield 79, (3, 6, 0, 0)) := by decide +kernel
theorem f_53_62 : rfI 53 62 = some (.invokevirtual 82, (48, 3, 11, 0)) := by decide +kernel
theorem f_53_65 : rfI 53 65 = some (.iinc 3 1, (0, 0, 0, 0)) := by decide +kernel
theorem f_53_68 : rfI 53 68 = some (.goto (-55), (0, 0, 0, 0)) := by decide +kernel
theorem f_53_71 : rfI 53 71 = some (.iconst 1, (0, 0, 0, 0)) := by decide +kernel
theorem f_53_72 : rfI 53 72 = some (.ireturn, (0, 0, 0, 0)) := by decide +kernel
theorem f_54_0 : rfI 54 0 = some (.aload_n 0, (0, 0, 0, 0)) := by decide +kernel
theorem f_54_1 : rfI 54 1 = some (.aload_n 1, (0, 0, 0, 0)) := by decide +kernel
theorem f_54_2 : rfI 54 2 = some (.iload_n 2, (0, 0, 0, 0)) := by decide +kernel
theorem f_54_3 : rfI 54 3 = some (.invokevirtual 86, (56, 3, 11, 0)) := by decide +kernel
theorem f_54_6 : rfI 54 6 = some (.ifCond .ne 5, (0, 0, 0, 0)) := by decide +kernel
theorem f_54_9 : rfI 54 9 = some (.iconst 0, (0, 0, 0, 0)) := by decide +kernel
theorem f_54_10 : rfI 54 10 = some (.ireturn, (0, 0, 0, 0)) := by decide +kernel
theorem f_54_11 : rfI 54 11 = some (.iconst 0, (0, 0, 0, 0)) := by decide +kernel
theorem f_54_12 : rfI 54 12 = some (.istore_n 3, (0, 0, 0, 0)) := by decide +kernel
theorem f_54_13 : rfI 54 13 = some (.iload_n 3, (0, 0, 0, 0)) := by decide +kernel
theorem f_54_14 : rfI 54 14 = some (.sipush 240, (0, 0, 0, 0)) := by decide +kernel
theorem f_54_17 : rfI 54 17 = some (.if_icmp .ge 54, (0, 0, 0, 0)) := by decide +kernel
theorem f_54_20 : rfI 54 20 = some (.aload_n 1, (0, 0, 0, 0)) := by decide +kernel
theorem f_54_21 : rfI 54 21 = some (.invokevirtual 46, (101, 1, 11, 0)) := by decide +kernel
theorem f_54_24 : rfI 54 24 = some (.bipush 38, (0, 0, 0, 0)) := by decide +kernel
theorem f_54_26 : rfI 54 26 = some (.if_icmp .ne 45, (0, 0, 0, 0)) := by decide +kernel
theorem f_54_29 : rfI 54 29 = some (.aload_n 0, (0, 0, 0, 0)) := by decide +kernel
theorem f_54_30 : rfI 54 30 = some (.aload_n 1, (0, 0, 0, 0)) := by decide +kernel
theorem f_54_31 : rfI 54 31 = some (.bipush 38, (0, 0, 0, 0)) := by decide +kernel
theorem f_54_33 : rfI 54 33 = some (.invokevirtual 75, (55, 3, 11, 0)) := by decide +kernel
theorem f_54_36 : rfI 54 36 = some (.istore 4, (0, 0, 0, 0)) := by decide +kernel
theorem f_54_38 : rfI 54 38 = some (.aload_n 0, (0, 0, 0, 0)) := by decide +kernel
theorem f_54_39 : rfI 54 39 = some (.aload_n 1, (0, 0, 0, 0)) := by decide +kernel
theorem f_54_40 : rfI 54 40 = some (.iload_n 2, (0, 0, 0, 0)) := by decide +kernel
theorem f_54_41 : rfI 54 41 = some (.invokevirtual 86, (56, 3, 11, 0)) := by decide +kernel
theorem f_54_44 : rfI 54 44 = some (.ifCond .ne 5, (0, 0, 0, 0)) := by decide +kernel
theorem f_54_47 : rfI 54 47 = some (.iconst 0, (0, 0, 0, 0)) := by decide +kernel
theorem f_54_48 : rfI 54 48 = some (.ireturn, (0, 0, 0, 0)) := by decide +kernel
theorem f_54_49 : rfI 54 49 = some (.aload_n 0, (0, 0, 0, 0)) := by decide +kernel
theorem f_54_50 : rfI 54 50 = some (.getfield 12, (4, 0, 2, 0)) := by decide +kernel
theorem f_54_53 : rfI 54 53 = some (.iload 4, (0, 0, 0, 0)) := by decide +kernel
theorem f_54_55 : rfI 54 55 = some (.aload_n 0, (0, 0, 0, 0)) := by decide +kernel
theorem f_54_56 : rfI 54 56 = some (.getfield 12, (4, 0, 2, 0)) := by decide +kernel
theorem f_54_59 : rfI 54 59 = some (.getfield 79, (3, 6, 0, 0)) := by decide +kernel
theorem f_54_62 : rfI 54 62 = some (.invokevirtual 82, (48, 3, 11, 0)) := by decide +kernel
theorem f_54_65 : rfI 54 65 = some (.iinc 3 1, (0, 0, 0, 0)) := by decide +kernel
theorem f_54_68 : rfI 54 68 = some (.goto (-55), (0, 0, 0, 0)) := by decide +kernel
theorem f_54_71 : rfI 54 71 = some (.iconst 1, (0, 0, 0, 0)) := by decide +kernel
theorem f_54_72 : rfI 54 72 = some (.ireturn, (0, 0, 0, 0)) := by decide +kernel
theorem f_55_0 : rfI 55 0 = some (.aload_n 1, (0, 0, 0, 0)) := by decide +kernel
theorem f_55_1 : rfI 55 1 = some (.invokevirtual 53, (102, 1, 11, 0)) := by decide +kernel
theorem f_55_4 : rfI 55 4 = some (.aload_n 0, (0, 0, 0, 0)) := by decide +kernel
theorem f_55_5 : rfI 55 5 = some (.getfield 12, (4, 0, 2, 0)) := by decide +kernel
theorem f_55_8 : rfI 55 8 = some (.iload_n 2, (0, 0, 0, 0)) := by decide +kernel
theorem f_55_9 : rfI 55 9 = some (.invokevirtual 89, (47, 2, 11, 0)) := by decide +kernel
theorem f_55_12 : rfI 55 12 = some (.aload_n 0, (0, 0, 0, 0)) := by decide +kernel
theorem f_55_13 : rfI 55 13 = some (.getfield 12, (4, 0, 2, 0)) := by decide +kernel
theorem f_55_16 : rfI 55 16 = some (.iconst 0, (0, 0, 0, 0)) := by decide +kernel
theorem f_55_17 : rfI 55 17 = some (.invokevirtual 89, (47, 2, 11, 0)) := by decide +kernel
theorem f_55_20 : rfI 55 20 = some (.aload_n 0, (0, 0, 0, 0)) := by decide +kernel
theorem f_55_21 : rfI 55 21 = some (.getfield 12, (4, 0, 2, 0)) := by decide +kernel
theorem f_55_24 : rfI 55 24 = some (.getfield 79, (3, 6, 0, 0)) := by decide +kernel
theorem f_55_27 : rfI 55 27 = some (.iconst 1, (0, 0, 0, 0)) := by decide +kernel
theorem f_55_28 : rfI 55 28 = some (.isub, (0, 0, 0, 0)) := by decide +kernel
theorem f_55_29 : rfI 55 29 = some (.ireturn, (0, 0, 0, 0)) := by decide +kernel
theorem f_56_0 : rfI 56 0 = some (.aload_n 1, (0, 0, 0, 0)) := by decide +kernel
theorem f_56_1 : rfI 56 1 = some (.invokevirtual 46, (101, 1, 11, 0)) := by decide +kernel
theorem f_56_4 : rfI 56 4 = some (.istore_n 3, (0, 0, 0, 0)) := by decide +kernel
theorem f_56_5 : rfI 56 5 = some (.iload_n 3, (0, 0, 0, 0)) := by decide +kernel
theorem f_56_6 : rfI 56 6 = some (.bipush 33, (0, 0, 0, 0)) := by decide +kernel
theorem f_56_8 : rfI 56 8 = some (.if_icmp .eq 9, (0, 0, 0, 0)) := by decide +kernel
theorem f_56_11 : rfI 56 11 = some (.iload_n 3, (0, 0, 0, 0)) := by decide +kernel
theorem f_56_12 : rfI 56 12 = some (.bipush 40, (0, 0, 0, 0)) := by decide +kernel
theorem f_56_14 : rfI 56 14 = some (.if_icmp .ne 11, (0, 0, 0, 0)) := by decide +kernel
theorem f_56_17 : rfI 56 17 = some (.aload_n 0, (0, 0, 0, 0)) := by decide +kernel
theorem f_56_18 : rfI 56 18 = some (.aload_n 1, (0, 0, 0, 0)) := by decide +kernel
theorem f_56_19 : rfI 56 19 = some (.iload_n 3, (0, 0, 0, 0)) := by decide +kernel
theorem f_56_20 : rfI 56 20 = some (.iload_n 2, (0, 0, 0, 0)) := by decide +kernel
theorem f_56_21 : rfI 56 21 = some (.invokevirtual 92, (57, 4, 11, 0)) := by decide +kernel
theorem f_56_24 : rfI 56 24 = some (.ireturn, (0, 0, 0, 0)) := by decide +kernel
theorem f_56_25 : rfI 56 25 = some (.aload_n 0, (0, 0, 0, 0)) := by decide +kernel
theorem f_56_26 : rfI 56 26 = some (.aload_n 1, (0, 0, 0, 0)) := by decide +kernel
theorem f_56_27 : rfI 56 27 = some (.iload_n 2, (0, 0, 0, 0)) := by decide +kernel
theorem f_56_28 : rfI 56 28 = some (.invokevirtual 59, (58, 3, 11, 0)) := by decide +kernel
theorem f_56_31 : rfI 56 31 = some (.ifCond .ne 5, (0, 0, 0, 0)) := by decide +kernel
theorem f_56_34 : rfI 56 34 = some (.iconst 0, (0, 0, 0, 0)) := by decide +kernel
theorem f_56_35 : rfI 56 35 = some (.ireturn, (0, 0, 0, 0)) := by decide +kernel
theorem f_56_36 : rfI 56 36 = some (.aload_n 1, (0, 0, 0, 0)) := by decide +kernel
theorem f_56_37 : rfI 56 37 = some (.invokevirtual 46, (101, 1, 11, 0)) := by decide +kernel
theorem f_56_40 : rfI 56 40 = some (.istore 4, (0, 0, 0, 0)) := by decide +kernel
theorem f_56_42 : rfI 56 42 = some (.iload 4, (0, 0, 0, 0)) := by decide +kernel
theorem f_56_44 : rfI 56 44 = some (.bipush 60, (0, 0, 0, 0)) := by decide +kernel
theorem f_56_46 : rfI 56 46 = some (.if_icmp .eq 23, (0, 0, 0, 0)) := by decide +kernel
theorem f_56_49 : rfI 56 49 = some (.iload 4, (0, 0, 0, 0)) := by decide +kernel
theorem f_56_51 : rfI 56 51 = some (.bipush 62, (0, 0, 0, 0)) := by decide +kernel
theorem f_56_53 : rfI 56 53 = some (.if_icmp .eq 16, (0, 0, 0, 0)) := by decide +kernel
theorem f_56_56 : rfI 56 56 = some (.iload 4, (0, 0, 0, 0)) := by decide +kernel
theorem f_56_58 : rfI 56 58 = some (.bipush 61, (0, 0, 0, 0)) := by decide +kernel
theorem f_56_60 : rfI 56 60 = some (.if_icmp .eq 9, (0, 0, 0, 0)) := by decide +kernel
theorem f_56_63 : rfI 56 63 = some (.aload_n 1, (0, 0, 0, 0)) := by decide +kernel
theorem f_56_64 : rfI 56 64 = some (.iconst 1, (0, 0, 0, 0)) := by decide +kernel
theorem f_56_65 : rfI 56 65 = some (.invokevirtual 50, (103, 2, 11, 0)) := by decide +kernel
theorem f_56_68 : rfI 56 68 = some (.ireturn, (0, 0, 0, 0)) := by decide +kernel
theorem f_56_69 : rfI 56 69 = some (.aload_n 1, (0, 0, 0, 0)) := by decide +kernel
theorem f_56_70 : rfI 56 70 = some (.invokevirtual 53, (102, 1, 11, 0)) := by decide +kernel
theorem f_56_73 : rfI 56 73 = some (.aload_n 0, (0, 0, 0, 0)) := by decide +kernel
theorem f_56_74 : rfI 56 74 = some (.aload_n 1, (0, 0, 0, 0)) := by decide +kernel
theorem f_56_75 : rfI 56 75 = some (.iload_n 2, (0, 0, 0, 0)) := by decide +kernel
theorem f_56_76 : rfI 56 76 = some (.invokevirtual 59, (58, 3, 11, 0)) := by decide +kernel
theorem f_56_79 : rfI 56 79 = some (.ifCond .ne 5, (0, 0, 0, 0)) := by decide +kernel
theorem f_56_82 : rfI 56 82 = some (.iconst 0, (0, 0, 0, 0)) := by decide +kernel
theorem f_56_83 : rfI 56 83 = some (.ireturn, (0, 0, 0, 0)) := by decide +kernel
theorem f_56_84 : rfI 56 84 = some (.aload_n 0, (0, 0, 0, 0)) := by decide +kernel
theorem f_56_85 : rfI 56 85 = some (.getfield 12, (4, 0, 2, 0)) := by decide +kernel
theorem f_56_88 : rfI 56 88 = some (.iload 4, (0, 0, 0, 0)) := by decide +kernel
theorem f_56_90 : rfI 56 90 = some (.invokevirtual 89, (47, 2, 11, 0)) := by decide +kernel
theorem f_56_93 : rfI 56 93 = some (.iconst 1, (0, 0, 0, 0)) := by decide +kernel
theorem f_56_94 : rfI 56 94 = some (.ireturn, (0, 0, 0, 0)) := by decide +kernel
theorem f_57_0 : rfI 57 0 = some (.iload_n 3, (0, 0, 0, 0)) := by decide +kernel
theorem f_57_1 : rfI 57 1 = some (.bipush 6, (0, 0, 0, 0)) := by decide +kernel
theorem f_57_3 : rfI 57 3 = some (.if_icmp .lt 9, (0, 0, 0, 0)) := by decide +kernel
theorem f_57_6 : rfI 57 6 = some (.aload_n 1, (0, 0, 0, 0)) := by decide +kernel
theorem f_57_7 : rfI 57 7 = some (.iconst 5, (0, 0, 0, 0)) := by decide +kernel
theorem f_57_8 : rfI 57 8 = some (.invokevirtual 50, (103, 2, 11, 0)) := by decide +kernel
theorem f_57_11 : rfI 57 11 = some (.ireturn, (0, 0, 0, 0)) := by decide +kernel
theorem f_57_12 : rfI 57 12 = some (.aload_n 1, (0, 0, 0, 0)) := by decide +kernel
theorem f_57_13 : rfI 57 13 = some (.invokevirtual 53, (102, 1, 11, 0)) := by decide +kernel
theorem f_57_16 : rfI 57 16 = some (.iload_n 2, (0, 0, 0, 0)) := by decide +kernel
theorem f_57_17 : rfI 57 17 = some (.bipush 40, (0, 0, 0, 0)) := by decide +kernel
theorem f_57_19 : rfI 57 19 = some (.if_icmp .ne 29, (0, 0, 0, 0)) := by decide +kernel
theorem f_57_22 : rfI 57 22 = some (.aload_n 0, (0, 0, 0, 0)) := by decide +kernel
theorem f_57_23 : rfI 57 23 = some (.aload_n 1, (0, 0, 0, 0)) := by decide +kernel
theorem f_57_24 : rfI 57 24 = some (.iload_n 3, (0, 0, 0, 0)) := by decide +kernel
theorem f_57_25 : rfI 57 25 = some (.iconst 1, (0, 0, 0, 0)) := by decide +kernel
theorem f_57_26 : rfI 57 26 = some (.iadd, (0, 0, 0, 0)) := by decide +kernel
theorem f_57_27 : rfI 57 27 = some (.invokevirtual 66, (53, 3, 11, 0)) := by decide +kernel
theorem f_57_30 : rfI 57 30 = some (.ifCond .eq 16, (0, 0, 0, 0)) := by decide +kernel
theorem f_57_33 : rfI 57 33 = some (.aload_n 1, (0, 0, 0, 0)) := by decide +kernel
theorem f_57_34 : rfI 57 34 = some (.bipush 41, (0, 0, 0, 0)) := by decide +kernel
theorem f_57_36 : rfI 57 36 = some (.invokevirtual 42, (105, 2, 11, 0)) := by decide +kernel
theorem f_57_39 : rfI 57 39 = some (.ifCond .eq 7, (0, 0, 0, 0)) := by decide +kernel
theorem f_57_42 : rfI 57 42 = some (.iconst 1, (0, 0, 0, 0)) := by decide +kernel
theorem f_57_43 : rfI 57 43 = some (.goto 4, (0, 0, 0, 0)) := by decide +kernel
theorem f_57_46 : rfI 57 46 = some (.iconst 0, (0, 0, 0, 0)) := by decide +kernel
theorem f_57_47 : rfI 57 47 = some (.ireturn, (0, 0, 0, 0)) := by decide +kernel
theorem f_57_48 : rfI 57 48 = some (.aload_n 0, (0, 0, 0, 0)) := by decide +kernel
theorem f_57_49 : rfI 57 49 = some (.aload_n 1, (0, 0, 0, 0)) := by decide +kernel
theorem f_57_50 : rfI 57 50 = some (.iload_n 3, (0, 0, 0, 0)) := by decide +kernel
theorem f_57_51 : rfI 57 51 = some (.iconst 1, (0, 0, 0, 0)) := by decide +kernel
theorem f_57_52 : rfI 57 52 = some (.iadd, (0, 0, 0, 0)) := by decide +kernel
theorem f_57_53 : rfI 57 53 = some (.invokevirtual 86, (56, 3, 11, 0)) := by decide +kernel
theorem f_57_56 : rfI 57 56 = some (.ifCond .ne 5, (0, 0, 0, 0)) := by decide +kernel
theorem f_57_59 : rfI 57 59 = some (.iconst 0, (0, 0, 0, 0)) := by decide +kernel
theorem f_57_60 : rfI 57 60 = some (.ireturn, (0, 0, 0, 0)) := by decide +kernel
theorem f_57_61 : rfI 57 61 = some (.aload_n 0, (0, 0, 0, 0)) := by decide +kernel
theorem f_57_62 : rfI 57 62 = some (.getfield 12, (4, 0, 2, 0)) := by decide +kernel
theorem f_57_65 : rfI 57 65 = some (.bipush 33, (0, 0, 0, 0)) := by decide +kernel
theorem f_57_67 : rfI 57 67 = some (.invokevirtual 89, (47, 2, 11, 0)) := by decide +kernel
theorem f_57_70 : rfI 57 70 = some (.iconst 1, (0, 0, 0, 0)) := by decide +kernel
theorem f_57_71 : rfI 57 71 = some (.ireturn, (0, 0, 0, 0)) := by decide +kernel
theorem f_58_0 : rfI 58 0 = some (.aload_n 0, (0, 0, 0, 0)) := by decide +kernel
theorem f_58_1 : rfI 58 1 = some (.aload_n 1, (0, 0, 0, 0)) := by decide +kernel
theorem f_58_2 : rfI 58 2 = some (.iload_n 2, (0, 0, 0, 0)) := by decide +kernel
theorem f_58_3 : rfI 58 3 = some (.invokevirtual 96, (59, 3, 11, 0)) := by decide +kernel
theorem f_58_6 : rfI 58 6 = some (.ifCond .ne 5, (0, 0, 0, 0)) := by decide +kernel
theorem f_58_9 : rfI 58 9 = some (.iconst 0, (0, 0, 0, 0)) := by decide +kernel
theorem f_58_10 : rfI 58 10 = some (.ireturn, (0, 0, 0, 0)) := by decide +kernel
theorem f_58_11 : rfI 58 11 = some (.iconst 0, (0, 0, 0, 0)) := by decide +kernel
theorem f_58_12 : rfI 58 12 = some (.istore_n 3, (0, 0, 0, 0)) := by decide +kernel
theorem f_58_13 : rfI 58 13 = some (.iload_n 3, (0, 0, 0, 0)) := by decide +kernel
theorem f_58_14 : rfI 58 14 = some (.sipush 240, (0, 0, 0, 0)) := by decide +kernel
theorem f_58_17 : rfI 58 17 = some (.if_icmp .ge 55, (0, 0, 0, 0)) := by decide +kernel
theorem f_58_20 : rfI 58 20 = some (.aload_n 1, (0, 0, 0, 0)) := by decide +kernel
theorem f_58_21 : rfI 58 21 = some (.invokevirtual 46, (101, 1, 11, 0)) := by decide +kernel
theorem f_58_24 : rfI 58 24 = some (.istore 4, (0, 0, 0, 0)) := by decide +kernel
theorem f_58_26 : rfI 58 26 = some (.iload 4, (0, 0, 0, 0)) := by decide +kernel
theorem f_58_28 : rfI 58 28 = some (.bipush 43, (0, 0, 0, 0)) := by decide +kernel
theorem f_58_30 : rfI 58 30 = some (.if_icmp .eq 12, (0, 0, 0, 0)) := by decide +kernel
theorem f_58_33 : rfI 58 33 = some (.iload 4, (0, 0, 0, 0)) := by decide +kernel
theorem f_58_35 : rfI 58 35 = some (.bipush 45, (0, 0, 0, 0)) := by decide +kernel
theorem f_58_37 : rfI 58 37 = some (.if_icmp .eq 5, (0, 0, 0, 0)) := by decide +kernel
theorem f_58_40 : rfI 58 40 = some (.iconst 1, (0, 0, 0, 0)) := by decide +kernel
theorem f_58_41 : rfI 58 41 = some (.ireturn, (0, 0, 0, 0)) := by decide +kernel
theorem f_58_42 : rfI 58 42 = some (.aload_n 1, (0, 0, 0, 0)) := by decide +kernel
theorem f_58_43 : rfI 58 43 = some (.invokevirtual 53, (102, 1, 11, 0)) := by decide +kernel
theorem f_58_46 : rfI 58 46 = some (.aload_n 0, (0, 0, 0, 0)) := by decide +kernel
theorem f_58_47 : rfI 58 47 = some (.aload_n 1, (0, 0, 0, 0)) := by decide +kernel
theorem f_58_48 : rfI 58 48 = some (.iload_n 2, (0, 0, 0, 0)) := by decide +kernel
theorem f_58_49 : rfI 58 49 = some (.invokevirtual 96, (59, 3, 11, 0)) := by decide +kernel
theorem f_58_52 : rfI 58 52 = some (.ifCond .ne 5, (0, 0, 0, 0)) := by decide +kernel
theorem f_58_55 : rfI 58 55 = some (.iconst 0, (0, 0, 0, 0)) := by decide +kernel
theorem f_58_56 : rfI 58 56 = some (.ireturn, (0, 0, 0, 0)) := by decide +kernel
theorem f_58_57 : rfI 58 57 = some (.aload_n 0, (0, 0, 0, 0)) := by decide +kernel
theorem f_58_58 : rfI 58 58 = some (.getfield 12, (4, 0, 2, 0)) := by decide +kernel
theorem f_58_61 : rfI 58 61 = some (.iload 4, (0, 0, 0, 0)) := by decide +kernel
theorem f_58_63 : rfI 58 63 = some (.invokevirtual 89, (47, 2, 11, 0)) := by decide +kernel
theorem f_58_66 : rfI 58 66 = some (.iinc 3 1, (0, 0, 0, 0)) := by decide +kernel
theorem f_58_69 : rfI 58 69 = some (.goto (-56), (0, 0, 0, 0)) := by decide +kernel
theorem f_58_72 : rfI 58 72 = some (.iconst 1, (0, 0, 0, 0)) := by decide +kernel
theorem f_58_73 : rfI 58 73 = some (.ireturn, (0, 0, 0, 0)) := by decide +kernel
theorem f_59_0 : rfI 59 0 = some (.aload_n 0, (0, 0, 0, 0)) := by decide +kernel
theorem f_59_1 : rfI 59 1 = some (.aload_n 1, (0, 0, 0, 0)) := by decide +kernel
theorem f_59_2 : rfI 59 2 = some (.iload_n 2, (0, 0, 0, 0)) := by decide +kernel
theorem f_59_3 : rfI 59 3 = some (.invokevirtual 99, (60, 3, 11, 0)) := by decide +kernel
theorem f_59_6 : rfI 59 6 = some (.ifCond .ne 5, (0, 0, 0, 0)) := by decide +kernel
theorem f_59_9 : rfI 59 9 = some (.iconst 0, (0, 0, 0, 0)) := by decide +kernel
theorem f_59_10 : rfI 59 10 = some (.ireturn, (0, 0, 0, 0)) := by decide +kernel
theorem f_59_11 : rfI 59 11 = some (.iconst 0, (0, 0, 0, 0)) := by decide +kernel
theorem f_59_12 : rfI 59 12 = some (.istore_n 3, (0, 0, 0, 0)) := by decide +kernel
theorem f_59_13 : rfI 59 13 = some (.iload_n 3, (0, 0, 0, 0)) := by decide +kernel
theorem f_59_14 : rfI 59 14 = some (.sipush 240, (0, 0, 0, 0)) := by decide +kernel
theorem f_59_17 : rfI 59 17 = some (.if_icmp .ge 62, (0, 0, 0, 0)) := by decide +kernel
theorem f_59_20 : rfI 59 20 = some (.aload_n 1, (0, 0, 0, 0)) := by decide +kernel
theorem f_59_21 : rfI 59 21 = some (.invokevirtual 46, (101, 1, 11, 0)) := by decide +kernel
theorem f_59_24 : rfI 59 24 = some (.istore 4, (0, 0, 0, 0)) := by decide +kernel
theorem f_59_26 : rfI 59 26 = some (.iload 4, (0, 0, 0, 0)) := by decide +kernel
theorem f_59_28 : rfI 59 28 = some (.bipush 42, (0, 0, 0, 0)) := by decide +kernel
theorem f_59_30 : rfI 59 30 = some (.if_icmp .eq 19, (0, 0, 0, 0)) := by decide +kernel
theorem f_59_33 : rfI 59 33 = some (.iload 4, (0, 0, 0, 0)) := by decide +kernel
theorem f_59_35 : rfI 59 35 = some (.bipush 47, (0, 0, 0, 0)) := by decide +kernel
theorem f_59_37 : rfI 59 37 = some (.if_icmp .eq 12, (0, 0, 0, 0)) := by decide +kernel
theorem f_59_40 : rfI 59 40 = some (.iload 4, (0, 0, 0, 0)) := by decide +kernel
theorem f_59_42 : rfI 59 42 = some (.bipush 37, (0, 0, 0, 0)) := by decide +kernel
theorem f_59_44 : rfI 59 44 = some (.if_icmp .eq 5, (0, 0, 0, 0)) := by decide +kernel
theorem f_59_47 : rfI 59 47 = some (.iconst 1, (0, 0, 0, 0)) := by decide +kernel
theorem f_59_48 : rfI 59 48 = some (.ireturn, (0, 0, 0, 0)) := by decide +kernel
theorem f_59_49 : rfI 59 49 = some (.aload_n 1, (0, 0, 0, 0)) := by decide +kernel
theorem f_59_50 : rfI 59 50 = some (.invokevirtual 53, (102, 1, 11, 0)) := by decide +kernel
theorem f_59_53 : rfI 59 53 = some (.aload_n 0, (0, 0, 0, 0)) := by decide +kernel
theorem f_59_54 : rfI 59 54 = some (.aload_n 1, (0, 0, 0, 0)) := by decide +kernel
theorem f_59_55 : rfI 59 55 = some (.iload_n 2, (0, 0, 0, 0)) := by decide +kernel
theorem f_59_56 : rfI 59 56 = some (.invokevirtual 99, (60, 3, 11, 0)) := by decide +kernel
theorem f_59_59 : rfI 59 59 = some (.ifCond .ne 5, (0, 0, 0, 0)) := by decide +kernel
theorem f_59_62 : rfI 59 62 = some (.iconst 0, (0, 0, 0, 0)) := by decide +kernel
theorem f_59_63 : rfI 59 63 = some (.ireturn, (0, 0, 0, 0)) := by decide +kernel
theorem f_59_64 : rfI 59 64 = some (.aload_n 0, (0, 0, 0, 0)) := by decide +kernel
theorem f_59_65 : rfI 59 65 = some (.getfield 12, (4, 0, 2, 0)) := by decide +kernel
theorem f_59_68 : rfI 59 68 = some (.iload 4, (0, 0, 0, 0)) := by decide +kernel
theorem f_59_70 : rfI 59 70 = some (.invokevirtual 89, (47, 2, 11, 0)) := by decide +kernel
theorem f_59_73 : rfI 59 73 = some (.iinc 3 1, (0, 0, 0, 0)) := by decide +kernel
theorem f_59_76 : rfI 59 76 = some (.goto (-63), (0, 0, 0, 0)) := by decide +kernel
theorem f_59_79 : rfI 59 79 = some (.iconst 1, (0, 0, 0, 0)) := by decide +kernel
theorem f_59_80 : rfI 59 80 = some (.ireturn, (0, 0, 0, 0)) := by decide +kernel
theorem f_60_0 : rfI 60 0 = some (.aload_n 1, (0, 0, 0, 0)) := by decide +kernel
theorem f_60_1 : rfI 60 1 = some (.invokevirtual 46, (101, 1, 11, 0)) := by decide +kernel
theorem f_60_4 : rfI 60 4 = some (.istore_n 3, (0, 0, 0, 0)) := by decide +kernel
theorem f_60_5 : rfI 60 5 = some (.iload_n 3, (0, 0, 0, 0)) := by decide +kernel
theorem f_60_6 : rfI 60 6 = some (.bipush 91, (0, 0, 0, 0)) := by decide +kernel
theorem f_60_8 : rfI 60 8 = some (.if_icmp .ne 45, (0, 0, 0, 0)) := by decide +kernel
theorem f_60_11 : rfI 60 11 = some (.iload_n 2, (0, 0, 0, 0)) := by decide +kernel
theorem f_60_12 : rfI 60 12 = some (.bipush 6, (0, 0, 0, 0)) := by decide +kernel
theorem f_60_14 : rfI 60 14 = some (.if_icmp .lt 9, (0, 0, 0, 0)) := by decide +kernel
theorem f_60_17 : rfI 60 17 = some (.aload_n 1, (0, 0, 0, 0)) := by decide +kernel
theorem f_60_18 : rfI 60 18 = some (.iconst 5, (0, 0, 0, 0)) := by decide +kernel
theorem f_60_19 : rfI 60 19 = some (.invokevirtual 50, (103, 2, 11, 0)) := by decide +kernel
theorem f_60_22 : rfI 60 22 = some (.ireturn, (0, 0, 0, 0)) := by decide +kernel
theorem f_60_23 : rfI 60 23 = some (.aload_n 1, (0, 0, 0, 0)) := by decide +kernel
theorem f_60_24 : rfI 60 24 = some (.invokevirtual 53, (102, 1, 11, 0)) := by decide +kernel
theorem f_60_27 : rfI 60 27 = some (.aload_n 0, (0, 0, 0, 0)) := by decide +kernel
theorem f_60_28 : rfI 60 28 = some (.aload_n 1, (0, 0, 0, 0)) := by decide +kernel
theorem f_60_29 : rfI 60 29 = some (.iload_n 2, (0, 0, 0, 0)) := by decide +kernel
theorem f_60_30 : rfI 60 30 = some (.iconst 1, (0, 0, 0, 0)) := by decide +kernel
theorem f_60_31 : rfI 60 31 = some (.iadd, (0, 0, 0, 0)) := by decide +kernel
theorem f_60_32 : rfI 60 32 = some (.invokevirtual 59, (58, 3, 11, 0)) := by decide +kernel
theorem f_60_35 : rfI 60 35 = some (.ifCond .eq 16, (0, 0, 0, 0)) := by decide +kernel
theorem f_60_38 : rfI 60 38 = some (.aload_n 1, (0, 0, 0, 0)) := by decide +kernel
theorem f_60_39 : rfI 60 39 = some (.bipush 93, (0, 0, 0, 0)) := by decide +kernel
theorem f_60_41 : rfI 60 41 = some (.invokevirtual 42, (105, 2, 11, 0)) := by decide +kernel
theorem f_60_44 : rfI 60 44 = some (.ifCond .eq 7, (0, 0, 0, 0)) := by decide +kernel
theorem f_60_47 : rfI 60 47 = some (.iconst 1, (0, 0, 0, 0)) := by decide +kernel
theorem f_60_48 : rfI 60 48 = some (.goto 4, (0, 0, 0, 0)) := by decide +kernel
theorem f_60_51 : rfI 60 51 = some (.iconst 0, (0, 0, 0, 0)) := by decide +kernel
theorem f_60_52 : rfI 60 52 = some (.ireturn, (0, 0, 0, 0)) := by decide +kernel
theorem f_60_53 : rfI 60 53 = some (.aload_n 0, (0, 0, 0, 0)) := by decide +kernel
theorem f_60_54 : rfI 60 54 = some (.iload_n 3, (0, 0, 0, 0)) := by decide +kernel
theorem f_60_55 : rfI 60 55 = some (.invokevirtual 102, (61, 2, 11, 0)) := by decide +kernel
theorem f_60_58 : rfI 60 58 = some (.ifCond .eq 17, (0, 0, 0, 0)) := by decide +kernel
theorem f_60_61 : rfI 60 61 = some (.aload_n 1, (0, 0, 0, 0)) := by decide +kernel
theorem f_60_62 : rfI 60 62 = some (.invokevirtual 53, (102, 1, 11, 0)) := by decide +kernel
theorem f_60_65 : rfI 60 65 = some (.aload_n 0, (0, 0, 0, 0)) := by decide +kernel
theorem f_60_66 : rfI 60 66 = some (.getfield 12, (4, 0, 2, 0)) := by decide +kernel
theorem f_60_69 : rfI 60 69 = some (.iload_n 3, (0, 0, 0, 0)) := by decide +kernel
theorem f_60_70 : rfI 60 70 = some (.invokevirtual 89, (47, 2, 11, 0)) := by decide +kernel
theorem f_60_73 : rfI 60 73 = some (.iconst 1, (0, 0, 0, 0)) := by decide +kernel
theorem f_60_74 : rfI 60 74 = some (.ireturn, (0, 0, 0, 0)) := by decide +kernel
theorem f_60_75 : rfI 60 75 = some (.aload_n 1, (0, 0, 0, 0)) := by decide +kernel
theorem f_60_76 : rfI 60 76 = some (.iconst 5, (0, 0, 0, 0)) := by decide +kernel
theorem f_60_77 : rfI 60 77 = some (.invokevirtual 105, (106, 2, 11, 0)) := by decide +kernel
theorem f_60_80 : rfI 60 80 = some (.ifCond .ne 5, (0, 0, 0, 0)) := by decide +kernel
theorem f_60_83 : rfI 60 83 = some (.iconst 0, (0, 0, 0, 0)) := by decide +kernel
theorem f_60_84 : rfI 60 84 = some (.ireturn, (0, 0, 0, 0)) := by decide +kernel
theorem f_60_85 : rfI 60 85 = some (.aload_n 0, (0, 0, 0, 0)) := by decide +kernel
theorem f_60_86 : rfI 60 86 = some (.getfield 12, (4, 0, 2, 0)) := by decide +kernel
theorem f_60_89 : rfI 60 89 = some (.bipush 48, (0, 0, 0, 0)) := by decide +kernel
theorem f_60_91 : rfI 60 91 = some (.invokevirtual 89, (47, 2, 11, 0)) := by decide +kernel
theorem f_60_94 : rfI 60 94 = some (.aload_n 0, (0, 0, 0, 0)) := by decide +kernel
theorem f_60_95 : rfI 60 95 = some (.getfield 12, (4, 0, 2, 0)) := by decide +kernel
theorem f_60_98 : rfI 60 98 = some (.aload_n 1, (0, 0, 0, 0)) := by decide +kernel
theorem f_60_99 : rfI 60 99 = some (.getfield 108, (9, 4, 0, 0)) := by decide +kernel
theorem f_60_102 : rfI 60 102 = some (.invokevirtual 89, (47, 2, 11, 0)) := by decide +kernel
theorem f_60_105 : rfI 60 105 = some (.iconst 1, (0, 0, 0, 0)) := by decide +kernel
theorem f_60_106 : rfI 60 106 = some (.ireturn, (0, 0, 0, 0)) := by decide +kernel
theorem f_61_0 : rfI 61 0 = some (.iload_n 1, (0, 0, 0, 0)) := by decide +kernel
theorem f_61_1 : rfI 61 1 = some (.bipush 98, (0, 0, 0, 0)) := by decide +kernel
theorem f_61_3 : rfI 61 3 = some (.if_icmp .eq 39, (0, 0, 0, 0)) := by decide +kernel
theorem f_61_6 : rfI 61 6 = some (.iload_n 1, (0, 0, 0, 0)) := by decide +kernel
theorem f_61_7 : rfI 61 7 = some (.bipush 99, (0, 0, 0, 0)) := by decide +kernel
theorem f_61_9 : rfI 61 9 = some (.if_icmp .eq 33, (0, 0, 0, 0)) := by decide +kernel
theorem f_61_12 : rfI 61 12 = some (.iload_n 1, (0, 0, 0, 0)) := by decide +kernel
theorem f_61_13 : rfI 61 13 = some (.bipush 111, (0, 0, 0, 0)) := by decide +kernel
theorem f_61_15 : rfI 61 15 = some (.if_icmp .eq 27, (0, 0, 0, 0)) := by decide +kernel
theorem f_61_18 : rfI 61 18 = some (.iload_n 1, (0, 0, 0, 0)) := by decide +kernel
theorem f_61_19 : rfI 61 19 = some (.bipush 103, (0, 0, 0, 0)) := by decide +kernel
theorem f_61_21 : rfI 61 21 = some (.if_icmp .eq 21, (0, 0, 0, 0)) := by decide +kernel
theorem f_61_24 : rfI 61 24 = some (.iload_n 1, (0, 0, 0, 0)) := by decide +kernel
theorem f_61_25 : rfI 61 25 = some (.bipush 101, (0, 0, 0, 0)) := by decide +kernel
theorem f_61_27 : rfI 61 27 = some (.if_icmp .eq 15, (0, 0, 0, 0)) := by decide +kernel
theorem f_61_30 : rfI 61 30 = some (.iload_n 1, (0, 0, 0, 0)) := by decide +kernel
theorem f_61_31 : rfI 61 31 = some (.bipush 100, (0, 0, 0, 0)) := by decide +kernel
theorem f_61_33 : rfI 61 33 = some (.if_icmp .eq 9, (0, 0, 0, 0)) := by decide +kernel
theorem f_61_36 : rfI 61 36 = some (.iload_n 1, (0, 0, 0, 0)) := by decide +kernel
theorem f_61_37 : rfI 61 37 = some (.bipush 109, (0, 0, 0, 0)) := by decide +kernel
theorem f_61_39 : rfI 61 39 = some (.if_icmp .ne 7, (0, 0, 0, 0)) := by decide +kernel
theorem f_61_42 : rfI 61 42 = some (.iconst 1, (0, 0, 0, 0)) := by decide +kernel
theorem f_61_43 : rfI 61 43 = some (.goto 4, (0, 0, 0, 0)) := by decide +kernel
theorem f_61_46 : rfI 61 46 = some (.iconst 0, (0, 0, 0, 0)) := by decide +kernel
theorem f_61_47 : rfI 61 47 = some (.ireturn, (0, 0, 0, 0)) := by decide +kernel
theorem f_63_0 : rfI 63 0 = some (.aload_n 1, (0, 0, 0, 0)) := by decide +kernel
theorem f_63_1 : rfI 63 1 = some (.iload_n 2, (0, 0, 0, 0)) := by decide +kernel
theorem f_63_2 : rfI 63 2 = some (.invokevirtual 15, (99, 2, 11, 0)) := by decide +kernel
theorem f_63_5 : rfI 63 5 = some (.iconst 0, (0, 0, 0, 0)) := by decide +kernel
theorem f_63_6 : rfI 63 6 = some (.istore 4, (0, 0, 0, 0)) := by decide +kernel
theorem f_63_8 : rfI 63 8 = some (.iload 4, (0, 0, 0, 0)) := by decide +kernel
theorem f_63_10 : rfI 63 10 = some (.bipush 20, (0, 0, 0, 0)) := by decide +kernel
theorem f_63_12 : rfI 63 12 = some (.if_icmp .gt 51, (0, 0, 0, 0)) := by decide +kernel
theorem f_63_15 : rfI 63 15 = some (.aload_n 0, (0, 0, 0, 0)) := by decide +kernel
theorem f_63_16 : rfI 63 16 = some (.aload_n 1, (0, 0, 0, 0)) := by decide +kernel
theorem f_63_17 : rfI 63 17 = some (.aload_n 3, (0, 0, 0, 0)) := by decide +kernel
theorem f_63_18 : rfI 63 18 = some (.iload 4, (0, 0, 0, 0)) := by decide +kernel
theorem f_63_20 : rfI 63 20 = some (.invokevirtual 21, (64, 4, 11, 0)) := by decide +kernel
theorem f_63_23 : rfI 63 23 = some (.ifCond .ne 8, (0, 0, 0, 0)) := by decide +kernel
theorem f_63_26 : rfI 63 26 = some (.aload_n 1, (0, 0, 0, 0)) := by decide +kernel
theorem f_63_27 : rfI 63 27 = some (.getfield 25, (9, 5, 0, 0)) := by decide +kernel
theorem f_63_30 : rfI 63 30 = some (.ireturn, (0, 0, 0, 0)) := by decide +kernel
theorem f_63_31 : rfI 63 31 = some (.aload_n 1, (0, 0, 0, 0)) := by decide +kernel
theorem f_63_32 : rfI 63 32 = some (.invokevirtual 28, (100, 1, 11, 0)) := by decide +kernel
theorem f_63_35 : rfI 63 35 = some (.ifCond .eq 8, (0, 0, 0, 0)) := by decide +kernel
theorem f_63_38 : rfI 63 38 = some (.iload 4, (0, 0, 0, 0)) := by decide +kernel
theorem f_63_40 : rfI 63 40 = some (.iconst 1, (0, 0, 0, 0)) := by decide +kernel
theorem f_63_41 : rfI 63 41 = some (.iadd, (0, 0, 0, 0)) := by decide +kernel
theorem f_63_42 : rfI 63 42 = some (.ireturn, (0, 0, 0, 0)) := by decide +kernel
theorem f_63_43 : rfI 63 43 = some (.aload_n 1, (0, 0, 0, 0)) := by decide +kernel
theorem f_63_44 : rfI 63 44 = some (.bipush 59, (0, 0, 0, 0)) := by decide +kernel
theorem f_63_46 : rfI 63 46 = some (.invokevirtual 32, (105, 2, 11, 0)) := by decide +kernel
theorem f_63_49 : rfI 63 49 = some (.ifCond .ne 8, (0, 0, 0, 0)) := by decide +kernel
theorem f_63_52 : rfI 63 52 = some (.aload_n 1, (0, 0, 0, 0)) := by decide +kernel
theorem f_63_53 : rfI 63 53 = some (.getfield 25, (9, 5, 0, 0)) := by decide +kernel
theorem f_63_56 : rfI 63 56 = some (.ireturn, (0, 0, 0, 0)) := by decide +kernel
theorem f_63_57 : rfI 63 57 = some (.iinc 4 1, (0, 0, 0, 0)) := by decide +kernel
theorem f_63_60 : rfI 63 60 = some (.goto (-52), (0, 0, 0, 0)) := by decide +kernel
theorem f_63_63 : rfI 63 63 = some (.aload_n 1, (0, 0, 0, 0)) := by decide +kernel
theorem f_63_64 : rfI 63 64 = some (.getfield 25, (9, 5, 0, 0)) := by decide +kernel
theorem f_63_67 : rfI 63 67 = some (.ireturn, (0, 0, 0, 0)) := by decide +kernel
theorem f_64_0 : rfI 64 0 = some (.aload_n 1, (0, 0, 0, 0)) := by decide +kernel
theorem f_64_1 : rfI 64 1 = some (.getfield 36, (9, 3, 0, 0)) := by decide +kernel
theorem f_64_4 : rfI 64 4 = some (.istore 4, (0, 0, 0, 0)) := by decide +kernel
theorem f_64_6 : rfI 64 6 = some (.aload_n 1, (0, 0, 0, 0)) := by decide +kernel
theorem f_64_7 : rfI 64 7 = some (.invokevirtual 39, (101, 1, 11, 0)) := by decide +kernel
theorem f_64_10 : rfI 64 10 = some (.bipush 97, (0, 0, 0, 0)) := by decide +kernel
theorem f_64_12 : rfI 64 12 = some (.isub, (0, 0, 0, 0)) := by decide +kernel
theorem f_64_13 : rfI 64 13 = some (.istore 5, (0, 0, 0, 0)) := by decide +kernel
theorem f_64_15 : rfI 64 15 = some (.iload 5, (0, 0, 0, 0)) := by decide +kernel
theorem f_64_17 : rfI 64 17 = some (.invokestatic 43, (177, 1, 10, 0)) := by decide +kernel
theorem f_64_20 : rfI 64 20 = some (.ifCond .ne 9, (0, 0, 0, 0)) := by decide +kernel
theorem f_64_23 : rfI 64 23 = some (.aload_n 1, (0, 0, 0, 0)) := by decide +kernel
theorem f_64_24 : rfI 64 24 = some (.iconst 1, (0, 0, 0, 0)) := by decide +kernel
theorem f_64_25 : rfI 64 25 = some (.invokevirtual 46, (103, 2, 11, 0)) := by decide +kernel
theorem f_64_28 : rfI 64 28 = some (.ireturn, (0, 0, 0, 0)) := by decide +kernel
theorem f_64_29 : rfI 64 29 = some (.iload_n 3, (0, 0, 0, 0)) := by decide +kernel
theorem f_64_30 : rfI 64 30 = some (.bipush 20, (0, 0, 0, 0)) := by decide +kernel
theorem f_64_32 : rfI 64 32 = some (.if_icmp .lt 9, (0, 0, 0, 0)) := by decide +kernel
theorem f_64_35 : rfI 64 35 = some (.aload_n 1, (0, 0, 0, 0)) := by decide +kernel
theorem f_64_36 : rfI 64 36 = some (.iconst 4, (0, 0, 0, 0)) := by decide +kernel
theorem f_64_37 : rfI 64 37 = some (.invokevirtual 46, (103, 2, 11, 0)) := by decide +kernel
theorem f_64_40 : rfI 64 40 = some (.ireturn, (0, 0, 0, 0)) := by decide +kernel
theorem f_64_41 : rfI 64 41 = some (.aload_n 2, (0, 0, 0, 0)) := by decide +kernel
theorem f_64_42 : rfI 64 42 = some (.iload 5, (0, 0, 0, 0)) := by decide +kernel
theorem f_64_44 : rfI 64 44 = some (.invokevirtual 49, (110, 2, 11, 0)) := by decide +kernel
theorem f_64_47 : rfI 64 47 = some (.ifCond .ne 10, (0, 0, 0, 0)) := by decide +kernel
theorem f_64_50 : rfI 64 50 = some (.aload_n 1, (0, 0, 0, 0)) := by decide +kernel
theorem f_64_51 : rfI 64 51 = some (.bipush 7, (0, 0, 0, 0)) := by decide +kernel
theorem f_64_53 : rfI 64 53 = some (.invokevirtual 46, (103, 2, 11, 0)) := by decide +kernel
theorem f_64_56 : rfI 64 56 = some (.ireturn, (0, 0, 0, 0)) := by decide +kernel
theorem f_64_57 : rfI 64 57 = some (.aload_n 1, (0, 0, 0, 0)) := by decide +kernel
theorem f_64_58 : rfI 64 58 = some (.invokevirtual 54, (102, 1, 11, 0)) := by decide +kernel
theorem f_64_61 : rfI 64 61 = some (.aload_n 1, (0, 0, 0, 0)) := by decide +kernel
theorem f_64_62 : rfI 64 62 = some (.invokevirtual 39, (101, 1, 11, 0)) := by decide +kernel
theorem f_64_65 : rfI 64 65 = some (.istore 6, (0, 0, 0, 0)) := by decide +kernel
theorem f_64_67 : rfI 64 67 = some (.iload 6, (0, 0, 0, 0)) := by decide +kernel
theorem f_64_69 : rfI 64 69 = some (.bipush 62, (0, 0, 0, 0)) := by decide +kernel
theorem f_64_71 : rfI 64 71 = some (.if_icmp .eq 10, (0, 0, 0, 0)) := by decide +kernel
theorem f_64_74 : rfI 64 74 = some (.iload 6, (0, 0, 0, 0)) := by decide +kernel
theorem f_64_76 : rfI 64 76 = some (.bipush 33, (0, 0, 0, 0)) := by decide +kernel
theorem f_64_78 : rfI 64 78 = some (.if_icmp .ne 7, (0, 0, 0, 0)) := by decide +kernel
theorem f_64_81 : rfI 64 81 = some (.iconst 1, (0, 0, 0, 0)) := by decide +kernel
theorem f_64_82 : rfI 64 82 = some (.goto 4, (0, 0, 0, 0)) := by decide +kernel
theorem f_64_85 : rfI 64 85 = some (.iconst 0, (0, 0, 0, 0)) := by decide +kernel
theorem f_64_86 : rfI 64 86 = some (.istore 7, (0, 0, 0, 0)) := by decide +kernel
theorem f_64_88 : rfI 64 88 = some (.iload 7, (0, 0, 0, 0)) := by decide +kernel
theorem f_64_90 : rfI 64 90 = some (.ifCond .ne 23, (0, 0, 0, 0)) := by decide +kernel
theorem f_64_93 : rfI 64 93 = some (.iload 6, (0, 0, 0, 0)) := by decide +kernel
theorem f_64_95 : rfI 64 95 = some (.bipush 43, (0, 0, 0, 0)) := by decide +kernel
theorem f_64_97 : rfI 64 97 = some (.if_icmp .eq 16, (0, 0, 0, 0)) := by decide +kernel
theorem f_64_100 : rfI 64 100 = some (.iload 6, (0, 0, 0, 0)) := by decide +kernel
theorem f_64_102 : rfI 64 102 = some (.bipush 45, (0, 0, 0, 0)) := by decide +kernel
theorem f_64_104 : rfI 64 104 = some (.if_icmp .eq 9, (0, 0, 0, 0)) := by decide +kernel
theorem f_64_107 : rfI 64 107 = some (.aload_n 1, (0, 0, 0, 0)) := by decide +kernel
theorem f_64_108 : rfI 64 108 = some (.iconst 1, (0, 0, 0, 0)) := by decide +kernel
theorem f_64_109 : rfI 64 109 = some (.invokevirtual 46, (103, 2, 11, 0)) := by decide +kernel
theorem f_64_112 : rfI 64 112 = some (.ireturn, (0, 0, 0, 0)) := by decide +kernel
theorem f_64_113 : rfI 64 113 = some (.aload_n 1, (0, 0, 0, 0)) := by decide +kernel
theorem f_64_114 : rfI 64 114 = some (.invokevirtual 54, (102, 1, 11, 0)) := by decide +kernel
theorem f_64_117 : rfI 64 117 = some (.iload 7, (0, 0, 0, 0)) := by decide +kernel
theorem f_64_119 : rfI 64 119 = some (.ifCond .eq 16, (0, 0, 0, 0)) := by decide +kernel
theorem f_64_122 : rfI 64 122 = some (.aload_n 0, (0, 0, 0, 0)) := by decide +kernel
theorem f_64_123 : rfI 64 123 = some (.aload_n 1, (0, 0, 0, 0)) := by decide +kernel
theorem f_64_124 : rfI 64 124 = some (.aload_n 2, (0, 0, 0, 0)) := by decide +kernel
theorem f_64_125 : rfI 64 125 = some (.iload 5, (0, 0, 0, 0)) := by decide +kernel
theorem f_64_127 : rfI 64 127 = some (.invokevirtual 57, (65, 4, 11, 0)) := by decide +kernel
theorem f_64_130 : rfI 64 130 = some (.ifCond .ne 5, (0, 0, 0, 0)) := by decide +kernel
theorem f_64_133 : rfI 64 133 = some (.iconst 0, (0, 0, 0, 0)) := by decide +kernel
theorem f_64_134 : rfI 64 134 = some (.ireturn, (0, 0, 0, 0)) := by decide +kernel
theorem f_64_135 : rfI 64 135 = some (.aload_n 1, (0, 0, 0, 0)) := by decide +kernel
theorem f_64_136 : rfI 64 136 = some (.iconst 3, (0, 0, 0, 0)) := by decide +kernel
theorem f_64_137 : rfI 64 137 = some (.invokevirtual 60, (106, 2, 11, 0)) := by decide +kernel
theorem f_64_140 : rfI 64 140 = some (.ifCond .ne 5, (0, 0, 0, 0)) := by decide +kernel
theorem f_64_143 : rfI 64 143 = some (.iconst 0, (0, 0, 0, 0)) := by decide +kernel
theorem f_64_144 : rfI 64 144 = some (.ireturn, (0, 0, 0, 0)) := by decide +kernel
theorem f_64_145 : rfI 64 145 = some (.aload_n 0, (0, 0, 0, 0)) := by decide +kernel
theorem f_64_146 : rfI 64 146 = some (.aload_n 2, (0, 0, 0, 0)) := by decide +kernel
theorem f_64_147 : rfI 64 147 = some (.iload 5, (0, 0, 0, 0)) := by decide +kernel
theorem f_64_149 : rfI 64 149 = some (.iload 6, (0, 0, 0, 0)) := by decide +kernel
theorem f_64_151 : rfI 64 151 = some (.aload_n 1, (0, 0, 0, 0)) := by decide +kernel
theorem f_64_152 : rfI 64 152 = some (.getfield 63, (9, 4, 0, 0)) := by decide +kernel
theorem f_64_155 : rfI 64 155 = some (.invokevirtual 66, (66, 5, 11, 0)) := by decide +kernel
theorem f_64_158 : rfI 64 158 = some (.ifCond .ne 14, (0, 0, 0, 0)) := by decide +kernel
theorem f_64_161 : rfI 64 161 = some (.aload_n 1, (0, 0, 0, 0)) := by decide +kernel
theorem f_64_162 : rfI 64 162 = some (.bipush 9, (0, 0, 0, 0)) := by decide +kernel
theorem f_64_164 : rfI 64 164 = some (.iload 4, (0, 0, 0, 0)) := by decide +kernel
theorem f_64_166 : rfI 64 166 = some (.invokevirtual 70, (104, 3, 11, 0)) := by decide +kernel
theorem f_64_169 : rfI 64 169 = some (.ifCond .eq 7, (0, 0, 0, 0)) := by decide +kernel
theorem f_64_172 : rfI 64 172 = some (.iconst 1, (0, 0, 0, 0)) := by decide +kernel
theorem f_64_173 : rfI 64 173 = some (.goto 4, (0, 0, 0, 0)) := by decide +kernel
theorem f_64_176 : rfI 64 176 = some (.iconst 0, (0, 0, 0, 0)) := by decide +kernel
theorem f_64_177 : rfI 64 177 = some (.ireturn, (0, 0, 0, 0)) := by decide +kernel
theorem f_65_0 : rfI 65 0 = some (.aload_n 0, (0, 0, 0, 0)) := by decide +kernel
theorem f_65_1 : rfI 65 1 = some (.aload_n 1, (0, 0, 0, 0)) := by decide +kernel
theorem f_65_2 : rfI 65 2 = some (.invokevirtual 39, (101, 1, 11, 0)) := by decide +kernel
theorem f_65_5 : rfI 65 5 = some (.bipush 97, (0, 0, 0, 0)) := by decide +kernel
theorem f_65_7 : rfI 65 7 = some (.isub, (0, 0, 0, 0)) := by decide +kernel
theorem f_65_8 : rfI 65 8 = some (.putfield 9, (5, 0, 0, 0)) := by decide +kernel
theorem f_65_11 : rfI 65 11 = some (.aload_n 0, (0, 0, 0, 0)) := by decide +kernel
theorem f_65_12 : rfI 65 12 = some (.getfield 9, (5, 0, 0, 0)) := by decide +kernel
theorem f_65_15 : rfI 65 15 = some (.invokestatic 43, (177, 1, 10, 0)) := by decide +kernel
theorem f_65_18 : rfI 65 18 = some (.ifCond .ne 9, (0, 0, 0, 0)) := by decide +kernel
theorem f_65_21 : rfI 65 21 = some (.aload_n 1, (0, 0, 0, 0)) := by decide +kernel
theorem f_65_22 : rfI 65 22 = some (.iconst 1, (0, 0, 0, 0)) := by decide +kernel
theorem f_65_23 : rfI 65 23 = some (.invokevirtual 46, (103, 2, 11, 0)) := by decide +kernel
theorem f_65_26 : rfI 65 26 = some (.ireturn, (0, 0, 0, 0)) := by decide +kernel
theorem f_65_27 : rfI 65 27 = some (.aload_n 2, (0, 0, 0, 0)) := by decide +kernel
theorem f_65_28 : rfI 65 28 = some (.aload_n 0, (0, 0, 0, 0)) := by decide +kernel
theorem f_65_29 : rfI 65 29 = some (.getfield 9, (5, 0, 0, 0)) := by decide +kernel
theorem f_65_32 : rfI 65 32 = some (.invokevirtual 49, (110, 2, 11, 0)) := by decide +kernel
theorem f_65_35 : rfI 65 35 = some (.ifCond .ne 10, (0, 0, 0, 0)) := by decide +kernel
theorem f_65_38 : rfI 65 38 = some (.aload_n 1, (0, 0, 0, 0)) := by decide +kernel
theorem f_65_39 : rfI 65 39 = some (.bipush 7, (0, 0, 0, 0)) := by decide +kernel
theorem f_65_41 : rfI 65 41 = some (.invokevirtual 46, (103, 2, 11, 0)) := by decide +kernel
theorem f_65_44 : rfI 65 44 = some (.ireturn, (0, 0, 0, 0)) := by decide +kernel
theorem f_65_45 : rfI 65 45 = some (.aload_n 0, (0, 0, 0, 0)) := by decide +kernel
theorem f_65_46 : rfI 65 46 = some (.getfield 9, (5, 0, 0, 0)) := by decide +kernel
theorem f_65_49 : rfI 65 49 = some (.iload_n 3, (0, 0, 0, 0)) := by decide +kernel
theorem f_65_50 : rfI 65 50 = some (.if_icmp .ne 10, (0, 0, 0, 0)) := by decide +kernel
theorem f_65_53 : rfI 65 53 = some (.aload_n 1, (0, 0, 0, 0)) := by decide +kernel
theorem f_65_54 : rfI 65 54 = some (.bipush 6, (0, 0, 0, 0)) := by decide +kernel
theorem f_65_56 : rfI 65 56 = some (.invokevirtual 46, (103, 2, 11, 0)) := by decide +kernel
theorem f_65_59 : rfI 65 59 = some (.ireturn, (0, 0, 0, 0)) := by decide +kernel
theorem f_65_60 : rfI 65 60 = some (.aload_n 1, (0, 0, 0, 0)) := by decide +kernel
theorem f_65_61 : rfI 65 61 = some (.invokevirtual 54, (102, 1, 11, 0)) := by decide +kernel
theorem f_65_64 : rfI 65 64 = some (.aload_n 1, (0, 0, 0, 0)) := by decide +kernel
theorem f_65_65 : rfI 65 65 = some (.bipush 58, (0, 0, 0, 0)) := by decide +kernel
theorem f_65_67 : rfI 65 67 = some (.invokevirtual 32, (105, 2, 11, 0)) := by decide +kernel
theorem f_65_70 : rfI 65 70 = some (.ireturn, (0, 0, 0, 0)) := by decide +kernel
theorem f_66_0 : rfI 66 0 = some (.iload_n 3, (0, 0, 0, 0)) := by decide +kernel
theorem f_66_1 : rfI 66 1 = some (.lookupswitch 86 #[(43, 35), (45, 44), (62, 54)], (0, 0, 0, 0)) := by decide +kernel
theorem f_66_36 : rfI 66 36 = some (.aload_n 0, (0, 0, 0, 0)) := by decide +kernel
theorem f_66_37 : rfI 66 37 = some (.aload_n 1, (0, 0, 0, 0)) := by decide +kernel
theorem f_66_38 : rfI 66 38 = some (.iload_n 2, (0, 0, 0, 0)) := by decide +kernel
theorem f_66_39 : rfI 66 39 = some (.iload 4, (0, 0, 0, 0)) := by decide +kernel
theorem f_66_41 : rfI 66 41 = some (.invokevirtual 74, (67, 4, 11, 0)) := by decide +kernel
theorem f_66_44 : rfI 66 44 = some (.ireturn, (0, 0, 0, 0)) := by decide +kernel
theorem f_66_45 : rfI 66 45 = some (.aload_n 0, (0, 0, 0, 0)) := by decide +kernel
theorem f_66_46 : rfI 66 46 = some (.aload_n 1, (0, 0, 0, 0)) := by decide +kernel
theorem f_66_47 : rfI 66 47 = some (.iload_n 2, (0, 0, 0, 0)) := by decide +kernel
theorem f_66_48 : rfI 66 48 = some (.iload 4, (0, 0, 0, 0)) := by decide +kernel
theorem f_66_50 : rfI 66 50 = some (.ineg, (0, 0, 0, 0)) := by decide +kernel
theorem f_66_51 : rfI 66 51 = some (.invokevirtual 74, (67, 4, 11, 0)) := by decide +kernel
theorem f_66_54 : rfI 66 54 = some (.ireturn, (0, 0, 0, 0)) := by decide +kernel
theorem f_66_55 : rfI 66 55 = some (.aload_n 0, (0, 0, 0, 0)) := by decide +kernel
theorem f_66_56 : rfI 66 56 = some (.aload_n 1, (0, 0, 0, 0)) := by decide +kernel
theorem f_66_57 : rfI 66 57 = some (.iload_n 2, (0, 0, 0, 0)) := by decide +kernel
theorem f_66_58 : rfI 66 58 = some (.iload 4, (0, 0, 0, 0)) := by decide +kernel
theorem f_66_60 : rfI 66 60 = some (.ineg, (0, 0, 0, 0)) := by decide +kernel
theorem f_66_61 : rfI 66 61 = some (.invokevirtual 74, (67, 4, 11, 0)) := by decide +kernel
theorem f_66_64 : rfI 66 64 = some (.ifCond .eq 21, (0, 0, 0, 0)) := by decide +kernel
theorem f_66_67 : rfI 66 67 = some (.aload_n 0, (0, 0, 0, 0)) := by decide +kernel
theorem f_66_68 : rfI 66 68 = some (.aload_n 1, (0, 0, 0, 0)) := by decide +kernel
theorem f_66_69 : rfI 66 69 = some (.aload_n 0, (0, 0, 0, 0)) := by decide +kernel
theorem f_66_70 : rfI 66 70 = some (.getfield 9, (5, 0, 0, 0)) := by decide +kernel
theorem f_66_73 : rfI 66 73 = some (.iload 4, (0, 0, 0, 0)) := by decide +kernel
theorem f_66_75 : rfI 66 75 = some (.invokevirtual 74, (67, 4, 11, 0)) := by decide +kernel
theorem f_66_78 : rfI 66 78 = some (.ifCond .eq 7, (0, 0, 0, 0)) := by decide +kernel
theorem f_66_81 : rfI 66 81 = some (.iconst 1, (0, 0, 0, 0)) := by decide +kernel
theorem f_66_82 : rfI 66 82 = some (.goto 4, (0, 0, 0, 0)) := by decide +kernel
theorem f_66_85 : rfI 66 85 = some (.iconst 0, (0, 0, 0, 0)) := by decide +kernel
theorem f_66_86 : rfI 66 86 = some (.ireturn, (0, 0, 0, 0)) := by decide +kernel
theorem f_66_87 : rfI 66 87 = some (.aload_n 0, (0, 0, 0, 0)) := by decide +kernel
theorem f_66_88 : rfI 66 88 = some (.aload_n 1, (0, 0, 0, 0)) := by decide +kernel
theorem f_66_89 : rfI 66 89 = some (.iload_n 2, (0, 0, 0, 0)) := by decide +kernel
theorem f_66_90 : rfI 66 90 = some (.iload 4, (0, 0, 0, 0)) := by decide +kernel
theorem f_66_92 : rfI 66 92 = some (.invokevirtual 78, (68, 4, 11, 0)) := by decide +kernel
theorem f_66_95 : rfI 66 95 = some (.ireturn, (0, 0, 0, 0)) := by decide +kernel
theorem f_67_0 : rfI 67 0 = some (.aload_n 1, (0, 0, 0, 0)) := by decide +kernel
theorem f_67_1 : rfI 67 1 = some (.iload_n 2, (0, 0, 0, 0)) := by decide +kernel
theorem f_67_2 : rfI 67 2 = some (.invokevirtual 81, (114, 2, 11, 0)) := by decide +kernel
theorem f_67_5 : rfI 67 5 = some (.iload_n 3, (0, 0, 0, 0)) := by decide +kernel
theorem f_67_6 : rfI 67 6 = some (.iadd, (0, 0, 0, 0)) := by decide +kernel
theorem f_67_7 : rfI 67 7 = some (.istore 4, (0, 0, 0, 0)) := by decide +kernel
theorem f_67_9 : rfI 67 9 = some (.aload_n 1, (0, 0, 0, 0)) := by decide +kernel
theorem f_67_10 : rfI 67 10 = some (.iload_n 2, (0, 0, 0, 0)) := by decide +kernel
theorem f_67_11 : rfI 67 11 = some (.iload 4, (0, 0, 0, 0)) := by decide +kernel
theorem f_67_13 : rfI 67 13 = some (.invokevirtual 85, (115, 3, 11, 0)) := by decide +kernel
theorem f_67_16 : rfI 67 16 = some (.iload 4, (0, 0, 0, 0)) := by decide +kernel
theorem f_67_18 : rfI 67 18 = some (.ifCond .lt 15, (0, 0, 0, 0)) := by decide +kernel
theorem f_67_21 : rfI 67 21 = some (.iload 4, (0, 0, 0, 0)) := by decide +kernel
theorem f_67_23 : rfI 67 23 = some (.sipush 9999, (0, 0, 0, 0)) := by decide +kernel
theorem f_67_26 : rfI 67 26 = some (.if_icmp .gt 7, (0, 0, 0, 0)) := by decide +kernel
theorem f_67_29 : rfI 67 29 = some (.iconst 1, (0, 0, 0, 0)) := by decide +kernel
theorem f_67_30 : rfI 67 30 = some (.goto 4, (0, 0, 0, 0)) := by decide +kernel
theorem f_67_33 : rfI 67 33 = some (.iconst 0, (0, 0, 0, 0)) := by decide +kernel
theorem f_67_34 : rfI 67 34 = some (.ireturn, (0, 0, 0, 0)) := by decide +kernel
theorem f_68_0 : rfI 68 0 = some (.aload_n 1, (0, 0, 0, 0)) := by decide +kernel
theorem f_68_1 : rfI 68 1 = some (.iload_n 2, (0, 0, 0, 0)) := by decide +kernel
theorem f_68_2 : rfI 68 2 = some (.aload_n 0, (0, 0, 0, 0)) := by decide +kernel
theorem f_68_3 : rfI 68 3 = some (.getfield 9, (5, 0, 0, 0)) := by decide +kernel
theorem f_68_6 : rfI 68 6 = some (.invokevirtual 89, (116, 3, 11, 0)) := by decide +kernel
theorem f_68_9 : rfI 68 9 = some (.iload_n 3, (0, 0, 0, 0)) := by decide +kernel
theorem f_68_10 : rfI 68 10 = some (.iadd, (0, 0, 0, 0)) := by decide +kernel
theorem f_68_11 : rfI 68 11 = some (.istore 4, (0, 0, 0, 0)) := by decide +kernel
theorem f_68_13 : rfI 68 13 = some (.aload_n 1, (0, 0, 0, 0)) := by decide +kernel
theorem f_68_14 : rfI 68 14 = some (.iload_n 2, (0, 0, 0, 0)) := by decide +kernel
theorem f_68_15 : rfI 68 15 = some (.aload_n 0, (0, 0, 0, 0)) := by decide +kernel
theorem f_68_16 : rfI 68 16 = some (.getfield 9, (5, 0, 0, 0)) := by decide +kernel
theorem f_68_19 : rfI 68 19 = some (.iload 4, (0, 0, 0, 0)) := by decide +kernel
theorem f_68_21 : rfI 68 21 = some (.invokevirtual 93, (117, 4, 11, 0)) := by decide +kernel
theorem f_68_24 : rfI 68 24 = some (.iload 4, (0, 0, 0, 0)) := by decide +kernel
theorem f_68_26 : rfI 68 26 = some (.sipush 999, (0, 0, 0, 0)) := by decide +kernel
theorem f_68_29 : rfI 68 29 = some (.if_icmp .gt 7, (0, 0, 0, 0)) := by decide +kernel
theorem f_68_32 : rfI 68 32 = some (.iconst 1, (0, 0, 0, 0)) := by decide +kernel
theorem f_68_33 : rfI 68 33 = some (.goto 4, (0, 0, 0, 0)) := by decide +kernel
theorem f_68_36 : rfI 68 36 = some (.iconst 0, (0, 0, 0, 0)) := by decide +kernel
theorem f_68_37 : rfI 68 37 = some (.ireturn, (0, 0, 0, 0)) := by decide +kernel
theorem f_70_0 : rfI 70 0 = some (.aload_n 0, (0, 0, 0, 0)) := by decide +kernel
theorem f_70_1 : rfI 70 1 = some (.iconst 0, (0, 0, 0, 0)) := by decide +kernel
theorem f_70_2 : rfI 70 2 = some (.putfield 9, (6, 0, 0, 0)) := by decide +kernel
theorem f_70_5 : rfI 70 5 = some (.aload_n 0, (0, 0, 0, 0)) := by decide +kernel
theorem f_70_6 : rfI 70 6 = some (.iconst 0, (0, 0, 0, 0)) := by decide +kernel
theorem f_70_7 : rfI 70 7 = some (.putfield 15, (6, 1, 0, 0)) := by decide +kernel
theorem f_70_10 : rfI 70 10 = some (.iconst 0, (0, 0, 0, 0)) := by decide +kernel
theorem f_70_11 : rfI 70 11 = some (.istore 5, (0, 0, 0, 0)) := by decide +kernel
theorem f_70_13 : rfI 70 13 = some (.iload 5, (0, 0, 0, 0)) := by decide +kernel
theorem f_70_15 : rfI 70 15 = some (.iload 4, (0, 0, 0, 0)) := by decide +kernel
theorem f_70_17 : rfI 70 17 = some (.if_icmp .ge 50, (0, 0, 0, 0)) := by decide +kernel
theorem f_70_20 : rfI 70 20 = some (.aload_n 1, (0, 0, 0, 0)) := by decide +kernel
theorem f_70_21 : rfI 70 21 = some (.getfield 18, (10, 5, 0, 0)) := by decide +kernel
theorem f_70_24 : rfI 70 24 = some (.sipush 9999, (0, 0, 0, 0)) := by decide +kernel
theorem f_70_27 : rfI 70 27 = some (.if_icmp .ge 40, (0, 0, 0, 0)) := by decide +kernel
theorem f_70_30 : rfI 70 30 = some (.aload_n 0, (0, 0, 0, 0)) := by decide +kernel
theorem f_70_31 : rfI 70 31 = some (.aload_n 1, (0, 0, 0, 0)) := by decide +kernel
theorem f_70_32 : rfI 70 32 = some (.aload_n 2, (0, 0, 0, 0)) := by decide +kernel
theorem f_70_33 : rfI 70 33 = some (.aload_n 3, (0, 0, 0, 0)) := by decide +kernel
theorem f_70_34 : rfI 70 34 = some (.invokevirtual 23, (71, 4, 11, 0)) := by decide +kernel
theorem f_70_37 : rfI 70 37 = some (.aload_n 0, (0, 0, 0, 0)) := by decide +kernel
theorem f_70_38 : rfI 70 38 = some (.aload_n 1, (0, 0, 0, 0)) := by decide +kernel
theorem f_70_39 : rfI 70 39 = some (.aload_n 2, (0, 0, 0, 0)) := by decide +kernel
theorem f_70_40 : rfI 70 40 = some (.aload_n 3, (0, 0, 0, 0)) := by decide +kernel
theorem f_70_41 : rfI 70 41 = some (.invokevirtual 27, (72, 4, 11, 0)) := by decide +kernel
theorem f_70_44 : rfI 70 44 = some (.aload_n 0, (0, 0, 0, 0)) := by decide +kernel
theorem f_70_45 : rfI 70 45 = some (.aload_n 1, (0, 0, 0, 0)) := by decide +kernel
theorem f_70_46 : rfI 70 46 = some (.aload_n 2, (0, 0, 0, 0)) := by decide +kernel
theorem f_70_47 : rfI 70 47 = some (.aload_n 3, (0, 0, 0, 0)) := by decide +kernel
theorem f_70_48 : rfI 70 48 = some (.invokevirtual 30, (73, 4, 11, 0)) := by decide +kernel
theorem f_70_51 : rfI 70 51 = some (.aload_n 1, (0, 0, 0, 0)) := by decide +kernel
theorem f_70_52 : rfI 70 52 = some (.dup, (0, 0, 0, 0)) := by decide +kernel
theorem f_70_53 : rfI 70 53 = some (.getfield 18, (10, 5, 0, 0)) := by decide +kernel
theorem f_70_56 : rfI 70 56 = some (.iconst 1, (0, 0, 0, 0)) := by decide +kernel
theorem f_70_57 : rfI 70 57 = some (.iadd, (0, 0, 0, 0)) := by decide +kernel
theorem f_70_58 : rfI 70 58 = some (.putfield 18, (10, 5, 0, 0)) := by decide +kernel
theorem f_70_61 : rfI 70 61 = some (.iinc 5 1, (0, 0, 0, 0)) := by decide +kernel
theorem f_70_64 : rfI 70 64 = some (.goto (-51), (0, 0, 0, 0)) := by decide +kernel
theorem f_70_67 : rfI 70 67 = some (.return_, (0, 0, 0, 0)) := by decide +kernel
theorem f_71_0 : rfI 71 0 = some (.iconst 0, (0, 0, 0, 0)) := by decide +kernel
theorem f_71_1 : rfI 71 1 = some (.istore 4, (0, 0, 0, 0)) := by decide +kernel
theorem f_71_3 : rfI 71 3 = some (.iload 4, (0, 0, 0, 0)) := by decide +kernel
theorem f_71_5 : rfI 71 5 = some (.bipush 8, (0, 0, 0, 0)) := by decide +kernel
theorem f_71_7 : rfI 71 7 = some (.if_icmp .ge 130, (0, 0, 0, 0)) := by decide +kernel
theorem f_71_10 : rfI 71 10 = some (.aload_n 1, (0, 0, 0, 0)) := by decide +kernel
theorem f_71_11 : rfI 71 11 = some (.iload 4, (0, 0, 0, 0)) := by decide +kernel
theorem f_71_13 : rfI 71 13 = some (.invokevirtual 33, (110, 2, 11, 0)) := by decide +kernel
theorem f_71_16 : rfI 71 16 = some (.ifCond .eq 115, (0, 0, 0, 0)) := by decide +kernel
theorem f_71_19 : rfI 71 19 = some (.aload_n 3, (0, 0, 0, 0)) := by decide +kernel
theorem f_71_20 : rfI 71 20 = some (.iload 4, (0, 0, 0, 0)) := by decide +kernel
theorem f_71_22 : rfI 71 22 = some (.invokevirtual 37, (1, 2, 11, 0)) := by decide +kernel
theorem f_71_25 : rfI 71 25 = some (.aload_n 3, (0, 0, 0, 0)) := by decide +kernel
theorem f_71_26 : rfI 71 26 = some (.aload_n 2, (0, 0, 0, 0)) := by decide +kernel
theorem f_71_27 : rfI 71 27 = some (.aload_n 1, (0, 0, 0, 0)) := by decide +kernel
theorem f_71_28 : rfI 71 28 = some (.bipush 102, (0, 0, 0, 0)) := by decide +kernel
theorem f_71_30 : rfI 71 30 = some (.sipush 999, (0, 0, 0, 0)) := by decide +kernel
theorem f_71_33 : rfI 71 33 = some (.invokevirtual 43, (3, 5, 11, 0)) := by decide +kernel
theorem f_71_36 : rfI 71 36 = some (.istore 5, (0, 0, 0, 0)) := by decide +kernel
theorem f_71_38 : rfI 71 38 = some (.aload_n 3, (0, 0, 0, 0)) := by decide +kernel
theorem f_71_39 : rfI 71 39 = some (.aload_n 2, (0, 0, 0, 0)) := by decide +kernel
theorem f_71_40 : rfI 71 40 = some (.aload_n 1, (0, 0, 0, 0)) := by decide +kernel
theorem f_71_41 : rfI 71 41 = some (.bipush 119, (0, 0, 0, 0)) := by decide +kernel
theorem f_71_43 : rfI 71 43 = some (.sipush 999, (0, 0, 0, 0)) := by decide +kernel
theorem f_71_46 : rfI 71 46 = some (.invokevirtual 43, (3, 5, 11, 0)) := by decide +kernel
theorem f_71_49 : rfI 71 49 = some (.istore 6, (0, 0, 0, 0)) := by decide +kernel
theorem f_71_51 : rfI 71 51 = some (.aload_n 3, (0, 0, 0, 0)) := by decide +kernel
theorem f_71_52 : rfI 71 52 = some (.aload_n 2, (0, 0, 0, 0)) := by decide +kernel
theorem f_71_53 : rfI 71 53 = some (.aload_n 1, (0, 0, 0, 0)) := by decide +kernel
theorem f_71_54 : rfI 71 54 = some (.bipush 113, (0, 0, 0, 0)) := by decide +kernel
theorem f_71_56 : rfI 71 56 = some (.bipush 10, (0, 0, 0, 0)) := by decide +kernel
theorem f_71_58 : rfI 71 58 = some (.invokevirtual 43, (3, 5, 11, 0)) := by decide +kernel
theorem f_71_61 : rfI 71 61 = some (.istore 7, (0, 0, 0, 0)) := by decide +kernel
theorem f_71_63 : rfI 71 63 = some (.aload_n 1, (0, 0, 0, 0)) := by decide +kernel
theorem f_71_64 : rfI 71 64 = some (.invokevirtual 47, (131, 1, 11, 0)) := by decide +kernel
theorem f_71_67 : rfI 71 67 = some (.iload 7, (0, 0, 0, 0)) := by decide +kernel
theorem f_71_69 : rfI 71 69 = some (.if_icmp .ge 19, (0, 0, 0, 0)) := by decide +kernel
theorem f_71_72 : rfI 71 72 = some (.aload_n 0, (0, 0, 0, 0)) := by decide +kernel
theorem f_71_73 : rfI 71 73 = some (.dup, (0, 0, 0, 0)) := by decide +kernel
theorem f_71_74 : rfI 71 74 = some (.getfield 15, (6, 1, 0, 0)) := by decide +kernel
theorem f_71_77 : rfI 71 77 = some (.iconst 1, (0, 0, 0, 0)) := by decide +kernel
theorem f_71_78 : rfI 71 78 = some (.iadd, (0, 0, 0, 0)) := by decide +kernel
theorem f_71_79 : rfI 71 79 = some (.putfield 15, (6, 1, 0, 0)) := by decide +kernel
theorem f_71_82 : rfI 71 82 = some (.iconst 2, (0, 0, 0, 0)) := by decide +kernel
theorem f_71_83 : rfI 71 83 = some (.iload 6, (0, 0, 0, 0)) := by decide +kernel
theorem f_71_85 : rfI 71 85 = some (.imul, (0, 0, 0, 0)) := by decide +kernel
theorem f_71_86 : rfI 71 86 = some (.istore 6, (0, 0, 0, 0)) := by decide +kernel
theorem f_71_88 : rfI 71 88 = some (.sipush 9999, (0, 0, 0, 0)) := by decide +kernel
theorem f_71_91 : rfI 71 91 = some (.aload_n 1, (0, 0, 0, 0)) := by decide +kernel
theorem f_71_92 : rfI 71 92 = some (.iload 4, (0, 0, 0, 0)) := by decide +kernel
theorem f_71_94 : rfI 71 94 = some (.invokevirtual 51, (114, 2, 11, 0)) := by decide +kernel
theorem f_71_97 : rfI 71 97 = some (.iload 5, (0, 0, 0, 0)) := by decide +kernel
theorem f_71_99 : rfI 71 99 = some (.iadd, (0, 0, 0, 0)) := by decide +kernel
theorem f_71_100 : rfI 71 100 = some (.invokestatic 55, (1001, 2, 14, 0)) := by decide +kernel
theorem f_71_103 : rfI 71 103 = some (.iload 6, (0, 0, 0, 0)) := by decide +kernel
theorem f_71_105 : rfI 71 105 = some (.isub, (0, 0, 0, 0)) := by decide +kernel
theorem f_71_106 : rfI 71 106 = some (.istore 8, (0, 0, 0, 0)) := by decide +kernel
theorem f_71_108 : rfI 71 108 = some (.iload 8, (0, 0, 0, 0)) := by decide +kernel
theorem f_71_110 : rfI 71 110 = some (.ifCond .ge 13, (0, 0, 0, 0)) := by decide +kernel
theorem f_71_113 : rfI 71 113 = some (.aload_n 0, (0, 0, 0, 0)) := by decide +kernel
theorem f_71_114 : rfI 71 114 = some (.aload_n 1, (0, 0, 0, 0)) := by decide +kernel
theorem f_71_115 : rfI 71 115 = some (.iload 4, (0, 0, 0, 0)) := by decide +kernel
theorem f_71_117 : rfI 71 117 = some (.invokevirtual 61, (74, 3, 11, 0)) := by decide +kernel
theorem f_71_120 : rfI 71 120 = some (.goto 11, (0, 0, 0, 0)) := by decide +kernel
theorem f_71_123 : rfI 71 123 = some (.aload_n 1, (0, 0, 0, 0)) := by decide +kernel
theorem f_71_124 : rfI 71 124 = some (.iload 4, (0, 0, 0, 0)) := by decide +kernel
theorem f_71_126 : rfI 71 126 = some (.iload 8, (0, 0, 0, 0)) := by decide +kernel
theorem f_71_128 : rfI 71 128 = some (.invokevirtual 65, (115, 3, 11, 0)) := by decide +kernel
theorem f_71_131 : rfI 71 131 = some (.iinc 4 1, (0, 0, 0, 0)) := by decide +kernel
theorem f_71_134 : rfI 71 134 = some (.goto (-131), (0, 0, 0, 0)) := by decide +kernel
theorem f_71_137 : rfI 71 137 = some (.return_, (0, 0, 0, 0)) := by decide +kernel
theorem f_72_0 : rfI 72 0 = some (.iconst 0, (0, 0, 0, 0)) := by decide +kernel
theorem f_72_1 : rfI 72 1 = some (.istore 4, (0, 0, 0, 0)) := by decide +kernel
theorem f_72_3 : rfI 72 3 = some (.iload 4, (0, 0, 0, 0)) := by decide +kernel
theorem f_72_5 : rfI 72 5 = some (.bipush 8, (0, 0, 0, 0)) := by decide +kernel
theorem f_72_7 : rfI 72 7 = some (.if_icmp .ge 81, (0, 0, 0, 0)) := by decide +kernel
theorem f_72_10 : rfI 72 10 = some (.iconst 0, (0, 0, 0, 0)) := by decide +kernel
theorem f_72_11 : rfI 72 11 = some (.istore 5, (0, 0, 0, 0)) := by decide +kernel
theorem f_72_13 : rfI 72 13 = some (.iload 5, (0, 0, 0, 0)) := by decide +kernel
theorem f_72_15 : rfI 72 15 = some (.bipush 8, (0, 0, 0, 0)) := by decide +kernel
theorem f_72_17 : rfI 72 17 = some (.if_icmp .ge 65, (0, 0, 0, 0)) := by decide +kernel
theorem f_72_20 : rfI 72 20 = some (.aload_n 1, (0, 0, 0, 0)) := by decide +kernel
theorem f_72_21 : rfI 72 21 = some (.iload 4, (0, 0, 0, 0)) := by decide +kernel
theorem f_72_23 : rfI 72 23 = some (.iload 5, (0, 0, 0, 0)) := by decide +kernel
theorem f_72_25 : rfI 72 25 = some (.invokevirtual 69, (116, 3, 11, 0)) := by decide +kernel
theorem f_72_28 : rfI 72 28 = some (.istore 6, (0, 0, 0, 0)) := by decide +kernel
theorem f_72_30 : rfI 72 30 = some (.iload 6, (0, 0, 0, 0)) := by decide +kernel
theorem f_72_32 : rfI 72 32 = some (.ifCond .le 44, (0, 0, 0, 0)) := by decide +kernel
theorem f_72_35 : rfI 72 35 = some (.aload_n 3, (0, 0, 0, 0)) := by decide +kernel
theorem f_72_36 : rfI 72 36 = some (.iload 4, (0, 0, 0, 0)) := by decide +kernel
theorem f_72_38 : rfI 72 38 = some (.iload 5, (0, 0, 0, 0)) := by decide +kernel
theorem f_72_40 : rfI 72 40 = some (.iload 6, (0, 0, 0, 0)) := by decide +kernel
theorem f_72_42 : rfI 72 42 = some (.invokevirtual 72, (2, 4, 11, 0)) := by decide +kernel
theorem f_72_45 : rfI 72 45 = some (.aload_n 3, (0, 0, 0, 0)) := by decide +kernel
theorem f_72_46 : rfI 72 46 = some (.aload_n 2, (0, 0, 0, 0)) := by decide +kernel
theorem f_72_47 : rfI 72 47 = some (.aload_n 1, (0, 0, 0, 0)) := by decide +kernel
theorem f_72_48 : rfI 72 48 = some (.bipush 105, (0, 0, 0, 0)) := by decide +kernel
theorem f_72_50 : rfI 72 50 = some (.bipush 99, (0, 0, 0, 0)) := by decide +kernel
theorem f_72_52 : rfI 72 52 = some (.invokevirtual 43, (3, 5, 11, 0)) := by decide +kernel
theorem f_72_55 : rfI 72 55 = some (.istore 7, (0, 0, 0, 0)) := by decide +kernel
theorem f_72_57 : rfI 72 57 = some (.aload_n 1, (0, 0, 0, 0)) := by decide +kernel
theorem f_72_58 : rfI 72 58 = some (.iload 4, (0, 0, 0, 0)) := by decide +kernel
theorem f_72_60 : rfI 72 60 = some (.iload 5, (0, 0, 0, 0)) := by decide +kernel
theorem f_72_62 : rfI 72 62 = some (.sipush 999, (0, 0, 0, 0)) := by decide +kernel
theorem f_72_65 : rfI 72 65 = some (.iload 6, (0, 0, 0, 0)) := by decide +kernel
theorem f_72_67 : rfI 72 67 = some (.iload 7, (0, 0, 0, 0)) := by decide +kernel
theorem f_72_69 : rfI 72 69 = some (.iadd, (0, 0, 0, 0)) := by decide +kernel
theorem f_72_70 : rfI 72 70 = some (.invokestatic 55, (1001, 2, 14, 0)) := by decide +kernel
theorem f_72_73 : rfI 72 73 = some (.invokevirtual 76, (117, 4, 11, 0)) := by decide +kernel
theorem f_72_76 : rfI 72 76 = some (.iinc 5 1, (0, 0, 0, 0)) := by decide +kernel
theorem f_72_79 : rfI 72 79 = some (.goto (-66), (0, 0, 0, 0)) := by decide +kernel
theorem f_72_82 : rfI 72 82 = some (.iinc 4 1, (0, 0, 0, 0)) := by decide +kernel
theorem f_72_85 : rfI 72 85 = some (.goto (-82), (0, 0, 0, 0)) := by decide +kernel
theorem f_72_88 : rfI 72 88 = some (.return_, (0, 0, 0, 0)) := by decide +kernel
theorem f_73_0 : rfI 73 0 = some (.iconst 0, (0, 0, 0, 0)) := by decide +kernel
theorem f_73_1 : rfI 73 1 = some (.istore 4, (0, 0, 0, 0)) := by decide +kernel
theorem f_73_3 : rfI 73 3 = some (.iload 4, (0, 0, 0, 0)) := by decide +kernel
theorem f_73_5 : rfI 73 5 = some (.bipush 8, (0, 0, 0, 0)) := by decide +kernel
theorem f_73_7 : rfI 73 7 = some (.if_icmp .ge 42, (0, 0, 0, 0)) := by decide +kernel
theorem f_73_10 : rfI 73 10 = some (.aload_n 1, (0, 0, 0, 0)) := by decide +kernel
theorem f_73_11 : rfI 73 11 = some (.iload 4, (0, 0, 0, 0)) := by decide +kernel
theorem f_73_13 : rfI 73 13 = some (.invokevirtual 33, (110, 2, 11, 0)) := by decide +kernel
theorem f_73_16 : rfI 73 16 = some (.ifCond .eq 27, (0, 0, 0, 0)) := by decide +kernel
theorem f_73_19 : rfI 73 19 = some (.aload_n 3, (0, 0, 0, 0)) := by decide +kernel
theorem f_73_20 : rfI 73 20 = some (.iload 4, (0, 0, 0, 0)) := by decide +kernel
theorem f_73_22 : rfI 73 22 = some (.invokevirtual 37, (1, 2, 11, 0)) := by decide +kernel
theorem f_73_25 : rfI 73 25 = some (.aload_n 3, (0, 0, 0, 0)) := by decide +kernel
theorem f_73_26 : rfI 73 26 = some (.aload_n 2, (0, 0, 0, 0)) := by decide +kernel
theorem f_73_27 : rfI 73 27 = some (.aload_n 1, (0, 0, 0, 0)) := by decide +kernel
theorem f_73_28 : rfI 73 28 = some (.bipush 120, (0, 0, 0, 0)) := by decide +kernel
theorem f_73_30 : rfI 73 30 = some (.invokevirtual 79, (4, 4, 11, 0)) := by decide +kernel
theorem f_73_33 : rfI 73 33 = some (.ifCond .eq 10, (0, 0, 0, 0)) := by decide +kernel
theorem f_73_36 : rfI 73 36 = some (.aload_n 0, (0, 0, 0, 0)) := by decide +kernel
theorem f_73_37 : rfI 73 37 = some (.aload_n 1, (0, 0, 0, 0)) := by decide +kernel
theorem f_73_38 : rfI 73 38 = some (.iload 4, (0, 0, 0, 0)) := by decide +kernel
theorem f_73_40 : rfI 73 40 = some (.invokevirtual 61, (74, 3, 11, 0)) := by decide +kernel
theorem f_73_43 : rfI 73 43 = some (.iinc 4 1, (0, 0, 0, 0)) := by decide +kernel
theorem f_73_46 : rfI 73 46 = some (.goto (-43), (0, 0, 0, 0)) := by decide +kernel
theorem f_73_49 : rfI 73 49 = some (.return_, (0, 0, 0, 0)) := by decide +kernel
theorem f_74_0 : rfI 74 0 = some (.aload_n 1, (0, 0, 0, 0)) := by decide +kernel
theorem f_74_1 : rfI 74 1 = some (.iload_n 2, (0, 0, 0, 0)) := by decide +kernel
theorem f_74_2 : rfI 74 2 = some (.invokevirtual 83, (129, 2, 11, 0)) := by decide +kernel
theorem f_74_5 : rfI 74 5 = some (.aload_n 1, (0, 0, 0, 0)) := by decide +kernel
theorem f_74_6 : rfI 74 6 = some (.dup, (0, 0, 0, 0)) := by decide +kernel
theorem f_74_7 : rfI 74 7 = some (.getfield 86, (10, 6, 0, 0)) := by decide +kernel
theorem f_74_10 : rfI 74 10 = some (.iconst 1, (0, 0, 0, 0)) := by decide +kernel
theorem f_74_11 : rfI 74 11 = some (.iadd, (0, 0, 0, 0)) := by decide +kernel
theorem f_74_12 : rfI 74 12 = some (.putfield 86, (10, 6, 0, 0)) := by decide +kernel
theorem f_74_15 : rfI 74 15 = some (.aload_n 0, (0, 0, 0, 0)) := by decide +kernel
theorem f_74_16 : rfI 74 16 = some (.dup, (0, 0, 0, 0)) := by decide +kernel
theorem f_74_17 : rfI 74 17 = some (.getfield 9, (6, 0, 0, 0)) := by decide +kernel
theorem f_74_20 : rfI 74 20 = some (.iconst 1, (0, 0, 0, 0)) := by decide +kernel
theorem f_74_21 : rfI 74 21 = some (.iadd, (0, 0, 0, 0)) := by decide +kernel
theorem f_74_22 : rfI 74 22 = some (.putfield 9, (6, 0, 0, 0)) := by decide +kernel
theorem f_74_25 : rfI 74 25 = some (.return_, (0, 0, 0, 0)) := by decide +kernel
theorem f_76_0 : rfI 76 0 = some (.iconst 0, (0, 0, 0, 0)) := by decide +kernel
theorem f_76_1 : rfI 76 1 = some (.istore_n 2, (0, 0, 0, 0)) := by decide +kernel
theorem f_76_2 : rfI 76 2 = some (.aload_n 0, (0, 0, 0, 0)) := by decide +kernel
theorem f_76_3 : rfI 76 3 = some (.iconst 0, (0, 0, 0, 0)) := by decide +kernel
theorem f_76_4 : rfI 76 4 = some (.putfield 21, (7, 3, 0, 0)) := by decide +kernel
theorem f_76_7 : rfI 76 7 = some (.iconst 0, (0, 0, 0, 0)) := by decide +kernel
theorem f_76_8 : rfI 76 8 = some (.istore_n 3, (0, 0, 0, 0)) := by decide +kernel
theorem f_76_9 : rfI 76 9 = some (.iload_n 3, (0, 0, 0, 0)) := by decide +kernel
theorem f_76_10 : rfI 76 10 = some (.bipush 8, (0, 0, 0, 0)) := by decide +kernel
theorem f_76_12 : rfI 76 12 = some (.if_icmp .ge 51, (0, 0, 0, 0)) := by decide +kernel
theorem f_76_15 : rfI 76 15 = some (.aload_n 0, (0, 0, 0, 0)) := by decide +kernel
theorem f_76_16 : rfI 76 16 = some (.getfield 9, (7, 0, 2, 0)) := by decide +kernel
theorem f_76_19 : rfI 76 19 = some (.iload_n 3, (0, 0, 0, 0)) := by decide +kernel
theorem f_76_20 : rfI 76 20 = some (.aload_n 1, (0, 0, 0, 0)) := by decide +kernel
theorem f_76_21 : rfI 76 21 = some (.iload_n 3, (0, 0, 0, 0)) := by decide +kernel
theorem f_76_22 : rfI 76 22 = some (.invokevirtual 25, (122, 2, 11, 0)) := by decide +kernel
theorem f_76_25 : rfI 76 25 = some (.aload_n 1, (0, 0, 0, 0)) := by decide +kernel
theorem f_76_26 : rfI 76 26 = some (.iload_n 3, (0, 0, 0, 0)) := by decide +kernel
theorem f_76_27 : rfI 76 27 = some (.invokevirtual 31, (121, 2, 11, 0)) := by decide +kernel
theorem f_76_30 : rfI 76 30 = some (.isub, (0, 0, 0, 0)) := by decide +kernel
theorem f_76_31 : rfI 76 31 = some (.iastore, (0, 0, 0, 0)) := by decide +kernel
theorem f_76_32 : rfI 76 32 = some (.aload_n 0, (0, 0, 0, 0)) := by decide +kernel
theorem f_76_33 : rfI 76 33 = some (.getfield 9, (7, 0, 2, 0)) := by decide +kernel
theorem f_76_36 : rfI 76 36 = some (.iload_n 3, (0, 0, 0, 0)) := by decide +kernel
theorem f_76_37 : rfI 76 37 = some (.iaload, (0, 0, 0, 0)) := by decide +kernel
theorem f_76_38 : rfI 76 38 = some (.ifCond .eq 19, (0, 0, 0, 0)) := by decide +kernel
theorem f_76_41 : rfI 76 41 = some (.iload_n 2, (0, 0, 0, 0)) := by decide +kernel
theorem f_76_42 : rfI 76 42 = some (.iconst 1, (0, 0, 0, 0)) := by decide +kernel
theorem f_76_43 : rfI 76 43 = some (.iload_n 3, (0, 0, 0, 0)) := by decide +kernel
theorem f_76_44 : rfI 76 44 = some (.ishl, (0, 0, 0, 0)) := by decide +kernel
theorem f_76_45 : rfI 76 45 = some (.ior, (0, 0, 0, 0)) := by decide +kernel
theorem f_76_46 : rfI 76 46 = some (.istore_n 2, (0, 0, 0, 0)) := by decide +kernel
theorem f_76_47 : rfI 76 47 = some (.aload_n 0, (0, 0, 0, 0)) := by decide +kernel
theorem f_76_48 : rfI 76 48 = some (.dup, (0, 0, 0, 0)) := by decide +kernel
theorem f_76_49 : rfI 76 49 = some (.getfield 21, (7, 3, 0, 0)) := by decide +kernel
theorem f_76_52 : rfI 76 52 = some (.iconst 1, (0, 0, 0, 0)) := by decide +kernel
theorem f_76_53 : rfI 76 53 = some (.iadd, (0, 0, 0, 0)) := by decide +kernel
theorem f_76_54 : rfI 76 54 = some (.putfield 21, (7, 3, 0, 0)) := by decide +kernel
theorem f_76_57 : rfI 76 57 = some (.iinc 3 1, (0, 0, 0, 0)) := by decide +kernel
theorem f_76_60 : rfI 76 60 = some (.goto (-51), (0, 0, 0, 0)) := by decide +kernel
theorem f_76_63 : rfI 76 63 = some (.aload_n 0, (0, 0, 0, 0)) := by decide +kernel
theorem f_76_64 : rfI 76 64 = some (.getfield 15, (7, 1, 2, 0)) := by decide +kernel
theorem f_76_67 : rfI 76 67 = some (.iconst 0, (0, 0, 0, 0)) := by decide +kernel
theorem f_76_68 : rfI 76 68 = some (.iconst 0, (0, 0, 0, 0)) := by decide +kernel
theorem f_76_69 : rfI 76 69 = some (.iastore, (0, 0, 0, 0)) := by decide +kernel
theorem f_76_70 : rfI 76 70 = some (.aload_n 0, (0, 0, 0, 0)) := by decide +kernel
theorem f_76_71 : rfI 76 71 = some (.getfield 18, (7, 2, 2, 0)) := by decide +kernel
theorem f_76_74 : rfI 76 74 = some (.iconst 0, (0, 0, 0, 0)) := by decide +kernel
theorem f_76_75 : rfI 76 75 = some (.iconst 0, (0, 0, 0, 0)) := by decide +kernel
theorem f_76_76 : rfI 76 76 = some (.iastore, (0, 0, 0, 0)) := by decide +kernel
theorem f_76_77 : rfI 76 77 = some (.iconst 1, (0, 0, 0, 0)) := by decide +kernel
theorem f_76_78 : rfI 76 78 = some (.istore_n 3, (0, 0, 0, 0)) := by decide +kernel
theorem f_76_79 : rfI 76 79 = some (.iload_n 3, (0, 0, 0, 0)) := by decide +kernel
theorem f_76_80 : rfI 76 80 = some (.sipush 256, (0, 0, 0, 0)) := by decide +kernel
theorem f_76_83 : rfI 76 83 = some (.if_icmp .ge 46, (0, 0, 0, 0)) := by decide +kernel
theorem f_76_86 : rfI 76 86 = some (.aload_n 0, (0, 0, 0, 0)) := by decide +kernel
theorem f_76_87 : rfI 76 87 = some (.getfield 15, (7, 1, 2, 0)) := by decide +kernel
theorem f_76_90 : rfI 76 90 = some (.iload_n 3, (0, 0, 0, 0)) := by decide +kernel
theorem f_76_91 : rfI 76 91 = some (.aload_n 0, (0, 0, 0, 0)) := by decide +kernel
theorem f_76_92 : rfI 76 92 = some (.iload_n 3, (0, 0, 0, 0)) := by decide +kernel
theorem f_76_93 : rfI 76 93 = some (.invokevirtual 34, (77, 2, 11, 0)) := by decide +kernel
theorem f_76_96 : rfI 76 96 = some (.iastore, (0, 0, 0, 0)) := by decide +kernel
theorem f_76_97 : rfI 76 97 = some (.aload_n 0, (0, 0, 0, 0)) := by decide +kernel
theorem f_76_98 : rfI 76 98 = some (.getfield 18, (7, 2, 2, 0)) := by decide +kernel
theorem f_76_101 : rfI 76 101 = some (.iload_n 3, (0, 0, 0, 0)) := by decide +kernel
theorem f_76_102 : rfI 76 102 = some (.aload_n 0, (0, 0, 0, 0)) := by decide +kernel
theorem f_76_103 : rfI 76 103 = some (.iload_n 3, (0, 0, 0, 0)) := by decide +kernel
theorem f_76_104 : rfI 76 104 = some (.invokevirtual 37, (78, 2, 11, 0)) := by decide +kernel
theorem f_76_107 : rfI 76 107 = some (.aload_n 0, (0, 0, 0, 0)) := by decide +kernel
theorem f_76_108 : rfI 76 108 = some (.getfield 15, (7, 1, 2, 0)) := by decide +kernel
theorem f_76_111 : rfI 76 111 = some (.iload_n 3, (0, 0, 0, 0)) := by decide +kernel
theorem f_76_112 : rfI 76 112 = some (.iaload, (0, 0, 0, 0)) := by decide +kernel
theorem f_76_113 : rfI 76 113 = some (.ifCond .ne 7, (0, 0, 0, 0)) := by decide +kernel
theorem f_76_116 : rfI 76 116 = some (.iconst 1, (0, 0, 0, 0)) := by decide +kernel
theorem f_76_117 : rfI 76 117 = some (.goto 4, (0, 0, 0, 0)) := by decide +kernel
theorem f_76_120 : rfI 76 120 = some (.iconst 0, (0, 0, 0, 0)) := by decide +kernel
theorem f_76_121 : rfI 76 121 = some (.iadd, (0, 0, 0, 0)) := by decide +kernel
theorem f_76_122 : rfI 76 122 = some (.iastore, (0, 0, 0, 0)) := by decide +kernel
theorem f_76_123 : rfI 76 123 = some (.iinc 3 1, (0, 0, 0, 0)) := by decide +kernel
theorem f_76_126 : rfI 76 126 = some (.goto (-47), (0, 0, 0, 0)) := by decide +kernel
theorem f_76_129 : rfI 76 129 = some (.aload_n 0, (0, 0, 0, 0)) := by decide +kernel
theorem f_76_130 : rfI 76 130 = some (.getfield 18, (7, 2, 2, 0)) := by decide +kernel
theorem f_76_133 : rfI 76 133 = some (.iload_n 2, (0, 0, 0, 0)) := by decide +kernel
theorem f_76_134 : rfI 76 134 = some (.iaload, (0, 0, 0, 0)) := by decide +kernel
theorem f_76_135 : rfI 76 135 = some (.ireturn, (0, 0, 0, 0)) := by decide +kernel
theorem f_77_0 : rfI 77 0 = some (.iconst 0, (0, 0, 0, 0)) := by decide +kernel
theorem f_77_1 : rfI 77 1 = some (.istore_n 2, (0, 0, 0, 0)) := by decide +kernel
theorem f_77_2 : rfI 77 2 = some (.iconst 0, (0, 0, 0, 0)) := by decide +kernel
theorem f_77_3 : rfI 77 3 = some (.istore_n 3, (0, 0, 0, 0)) := by decide +kernel
theorem f_77_4 : rfI 77 4 = some (.iload_n 3, (0, 0, 0, 0)) := by decide +kernel
theorem f_77_5 : rfI 77 5 = some (.bipush 8, (0, 0, 0, 0)) := by decide +kernel
theorem f_77_7 : rfI 77 7 = some (.if_icmp .ge 26, (0, 0, 0, 0)) := by decide +kernel
theorem f_77_10 : rfI 77 10 = some (.iload_n 1, (0, 0, 0, 0)) := by decide +kernel
theorem f_77_11 : rfI 77 11 = some (.iconst 1, (0, 0, 0, 0)) := by decide +kernel
theorem f_77_12 : rfI 77 12 = some (.iload_n 3, (0, 0, 0, 0)) := by decide +kernel
theorem f_77_13 : rfI 77 13 = some (.ishl, (0, 0, 0, 0)) := by decide +kernel
theorem f_77_14 : rfI 77 14 = some (.iand, (0, 0, 0, 0)) := by decide +kernel
theorem f_77_15 : rfI 77 15 = some (.ifCond .eq 12, (0, 0, 0, 0)) := by decide +kernel
theorem f_77_18 : rfI 77 18 = some (.iload_n 2, (0, 0, 0, 0)) := by decide +kernel
theorem f_77_19 : rfI 77 19 = some (.aload_n 0, (0, 0, 0, 0)) := by decide +kernel
theorem f_77_20 : rfI 77 20 = some (.getfield 9, (7, 0, 2, 0)) := by decide +kernel
theorem f_77_23 : rfI 77 23 = some (.iload_n 3, (0, 0, 0, 0)) := by decide +kernel
theorem f_77_24 : rfI 77 24 = some (.iaload, (0, 0, 0, 0)) := by decide +kernel
theorem f_77_25 : rfI 77 25 = some (.iadd, (0, 0, 0, 0)) := by decide +kernel
theorem f_77_26 : rfI 77 26 = some (.istore_n 2, (0, 0, 0, 0)) := by decide +kernel
theorem f_77_27 : rfI 77 27 = some (.iinc 3 1, (0, 0, 0, 0)) := by decide +kernel
theorem f_77_30 : rfI 77 30 = some (.goto (-26), (0, 0, 0, 0)) := by decide +kernel
theorem f_77_33 : rfI 77 33 = some (.iload_n 2, (0, 0, 0, 0)) := by decide +kernel
theorem f_77_34 : rfI 77 34 = some (.ireturn, (0, 0, 0, 0)) := by decide +kernel
theorem f_78_0 : rfI 78 0 = some (.iconst 0, (0, 0, 0, 0)) := by decide +kernel
theorem f_78_1 : rfI 78 1 = some (.istore_n 2, (0, 0, 0, 0)) := by decide +kernel
theorem f_78_2 : rfI 78 2 = some (.iconst 0, (0, 0, 0, 0)) := by decide +kernel
theorem f_78_3 : rfI 78 3 = some (.istore_n 3, (0, 0, 0, 0)) := by decide +kernel
theorem f_78_4 : rfI 78 4 = some (.iload_n 3, (0, 0, 0, 0)) := by decide +kernel
theorem f_78_5 : rfI 78 5 = some (.bipush 8, (0, 0, 0, 0)) := by decide +kernel
theorem f_78_7 : rfI 78 7 = some (.if_icmp .ge 38, (0, 0, 0, 0)) := by decide +kernel
theorem f_78_10 : rfI 78 10 = some (.iload_n 1, (0, 0, 0, 0)) := by decide +kernel
theorem f_78_11 : rfI 78 11 = some (.iconst 1, (0, 0, 0, 0)) := by decide +kernel
theorem f_78_12 : rfI 78 12 = some (.iload_n 3, (0, 0, 0, 0)) := by decide +kernel
theorem f_78_13 : rfI 78 13 = some (.ishl, (0, 0, 0, 0)) := by decide +kernel
theorem f_78_14 : rfI 78 14 = some (.iand, (0, 0, 0, 0)) := by decide +kernel
theorem f_78_15 : rfI 78 15 = some (.ifCond .eq 24, (0, 0, 0, 0)) := by decide +kernel
theorem f_78_18 : rfI 78 18 = some (.iload_n 2, (0, 0, 0, 0)) := by decide +kernel
theorem f_78_19 : rfI 78 19 = some (.aload_n 0, (0, 0, 0, 0)) := by decide +kernel
theorem f_78_20 : rfI 78 20 = some (.getfield 18, (7, 2, 2, 0)) := by decide +kernel
theorem f_78_23 : rfI 78 23 = some (.iload_n 1, (0, 0, 0, 0)) := by decide +kernel
theorem f_78_24 : rfI 78 24 = some (.iconst 1, (0, 0, 0, 0)) := by decide +kernel
theorem f_78_25 : rfI 78 25 = some (.iload_n 3, (0, 0, 0, 0)) := by decide +kernel
theorem f_78_26 : rfI 78 26 = some (.ishl, (0, 0, 0, 0)) := by decide +kernel
theorem f_78_27 : rfI 78 27 = some (.iconst (-1), (0, 0, 0, 0)) := by decide +kernel
theorem f_78_28 : rfI 78 28 = some (.ixor, (0, 0, 0, 0)) := by decide +kernel
theorem f_78_29 : rfI 78 29 = some (.iand, (0, 0, 0, 0)) := by decide +kernel
theorem f_78_30 : rfI 78 30 = some (.sipush 255, (0, 0, 0, 0)) := by decide +kernel
theorem f_78_33 : rfI 78 33 = some (.iand, (0, 0, 0, 0)) := by decide +kernel
theorem f_78_34 : rfI 78 34 = some (.iaload, (0, 0, 0, 0)) := by decide +kernel
theorem f_78_35 : rfI 78 35 = some (.invokestatic 40, (1001, 2, 13, 0)) := by decide +kernel
theorem f_78_38 : rfI 78 38 = some (.istore_n 2, (0, 0, 0, 0)) := by decide +kernel
theorem f_78_39 : rfI 78 39 = some (.iinc 3 1, (0, 0, 0, 0)) := by decide +kernel
theorem f_78_42 : rfI 78 42 = some (.goto (-38), (0, 0, 0, 0)) := by decide +kernel
theorem f_78_45 : rfI 78 45 = some (.iload_n 2, (0, 0, 0, 0)) := by decide +kernel
theorem f_78_46 : rfI 78 46 = some (.ireturn, (0, 0, 0, 0)) := by decide +kernel
theorem f_79_0 : rfI 79 0 = some (.iconst 0, (0, 0, 0, 0)) := by decide +kernel
theorem f_79_1 : rfI 79 1 = some (.istore_n 3, (0, 0, 0, 0)) := by decide +kernel
theorem f_79_2 : rfI 79 2 = some (.iload_n 3, (0, 0, 0, 0)) := by decide +kernel
theorem f_79_3 : rfI 79 3 = some (.bipush 8, (0, 0, 0, 0)) := by decide +kernel
theorem f_79_5 : rfI 79 5 = some (.if_icmp .ge 20, (0, 0, 0, 0)) := by decide +kernel
theorem f_79_8 : rfI 79 8 = some (.aload_n 0, (0, 0, 0, 0)) := by decide +kernel
theorem f_79_9 : rfI 79 9 = some (.getfield 9, (7, 0, 2, 0)) := by decide +kernel
theorem f_79_12 : rfI 79 12 = some (.iload_n 3, (0, 0, 0, 0)) := by decide +kernel
theorem f_79_13 : rfI 79 13 = some (.aload_n 1, (0, 0, 0, 0)) := by decide +kernel
theorem f_79_14 : rfI 79 14 = some (.iload_n 3, (0, 0, 0, 0)) := by decide +kernel
theorem f_79_15 : rfI 79 15 = some (.invokevirtual 46, (123, 2, 11, 0)) := by decide +kernel
theorem f_79_18 : rfI 79 18 = some (.iastore, (0, 0, 0, 0)) := by decide +kernel
theorem f_79_19 : rfI 79 19 = some (.iinc 3 1, (0, 0, 0, 0)) := by decide +kernel
theorem f_79_22 : rfI 79 22 = some (.goto (-20), (0, 0, 0, 0)) := by decide +kernel
theorem f_79_25 : rfI 79 25 = some (.aload_n 0, (0, 0, 0, 0)) := by decide +kernel
theorem f_79_26 : rfI 79 26 = some (.getfield 18, (7, 2, 2, 0)) := by decide +kernel
theorem f_79_29 : rfI 79 29 = some (.iconst 0, (0, 0, 0, 0)) := by decide +kernel
theorem f_79_30 : rfI 79 30 = some (.iconst 0, (0, 0, 0, 0)) := by decide +kernel
theorem f_79_31 : rfI 79 31 = some (.iastore, (0, 0, 0, 0)) := by decide +kernel
theorem f_79_32 : rfI 79 32 = some (.iconst 1, (0, 0, 0, 0)) := by decide +kernel
theorem f_79_33 : rfI 79 33 = some (.istore_n 3, (0, 0, 0, 0)) := by decide +kernel
theorem f_79_34 : rfI 79 34 = some (.iload_n 3, (0, 0, 0, 0)) := by decide +kernel
theorem f_79_35 : rfI 79 35 = some (.sipush 256, (0, 0, 0, 0)) := by decide +kernel
theorem f_79_38 : rfI 79 38 = some (.if_icmp .ge 28, (0, 0, 0, 0)) := by decide +kernel
theorem f_79_41 : rfI 79 41 = some (.iload_n 3, (0, 0, 0, 0)) := by decide +kernel
theorem f_79_42 : rfI 79 42 = some (.iload_n 2, (0, 0, 0, 0)) := by decide +kernel
theorem f_79_43 : rfI 79 43 = some (.iconst (-1), (0, 0, 0, 0)) := by decide +kernel
theorem f_79_44 : rfI 79 44 = some (.ixor, (0, 0, 0, 0)) := by decide +kernel
theorem f_79_45 : rfI 79 45 = some (.iand, (0, 0, 0, 0)) := by decide +kernel
theorem f_79_46 : rfI 79 46 = some (.ifCond .ne 14, (0, 0, 0, 0)) := by decide +kernel
theorem f_79_49 : rfI 79 49 = some (.aload_n 0, (0, 0, 0, 0)) := by decide +kernel
theorem f_79_50 : rfI 79 50 = some (.getfield 18, (7, 2, 2, 0)) := by decide +kernel
theorem f_79_53 : rfI 79 53 = some (.iload_n 3, (0, 0, 0, 0)) := by decide +kernel
theorem f_79_54 : rfI 79 54 = some (.aload_n 0, (0, 0, 0, 0)) := by decide +kernel
theorem f_79_55 : rfI 79 55 = some (.iload_n 3, (0, 0, 0, 0)) := by decide +kernel
theorem f_79_56 : rfI 79 56 = some (.invokevirtual 49, (80, 2, 11, 0)) := by decide +kernel
theorem f_79_59 : rfI 79 59 = some (.iastore, (0, 0, 0, 0)) := by decide +kernel
theorem f_79_60 : rfI 79 60 = some (.iinc 3 1, (0, 0, 0, 0)) := by decide +kernel
theorem f_79_63 : rfI 79 63 = some (.goto (-29), (0, 0, 0, 0)) := by decide +kernel
theorem f_79_66 : rfI 79 66 = some (.return_, (0, 0, 0, 0)) := by decide +kernel
theorem f_80_0 : rfI 80 0 = some (.aload_n 0, (0, 0, 0, 0)) := by decide +kernel
theorem f_80_1 : rfI 80 1 = some (.iload_n 1, (0, 0, 0, 0)) := by decide +kernel
theorem f_80_2 : rfI 80 2 = some (.invokevirtual 52, (81, 2, 11, 0)) := by decide +kernel
theorem f_80_5 : rfI 80 5 = some (.istore_n 2, (0, 0, 0, 0)) := by decide +kernel
theorem f_80_6 : rfI 80 6 = some (.iload_n 1, (0, 0, 0, 0)) := by decide +kernel
theorem f_80_7 : rfI 80 7 = some (.iconst 1, (0, 0, 0, 0)) := by decide +kernel
theorem f_80_8 : rfI 80 8 = some (.iload_n 2, (0, 0, 0, 0)) := by decide +kernel
theorem f_80_9 : rfI 80 9 = some (.ishl, (0, 0, 0, 0)) := by decide +kernel
theorem f_80_10 : rfI 80 10 = some (.iconst (-1), (0, 0, 0, 0)) := by decide +kernel
theorem f_80_11 : rfI 80 11 = some (.ixor, (0, 0, 0, 0)) := by decide +kernel
theorem f_80_12 : rfI 80 12 = some (.iand, (0, 0, 0, 0)) := by decide +kernel
theorem f_80_13 : rfI 80 13 = some (.sipush 255, (0, 0, 0, 0)) := by decide +kernel
theorem f_80_16 : rfI 80 16 = some (.iand, (0, 0, 0, 0)) := by decide +kernel
theorem f_80_17 : rfI 80 17 = some (.istore_n 3, (0, 0, 0, 0)) := by decide +kernel
theorem f_80_18 : rfI 80 18 = some (.aload_n 0, (0, 0, 0, 0)) := by decide +kernel
theorem f_80_19 : rfI 80 19 = some (.getfield 18, (7, 2, 2, 0)) := by decide +kernel
theorem f_80_22 : rfI 80 22 = some (.iload_n 3, (0, 0, 0, 0)) := by decide +kernel
theorem f_80_23 : rfI 80 23 = some (.iaload, (0, 0, 0, 0)) := by decide +kernel
theorem f_80_24 : rfI 80 24 = some (.aload_n 0, (0, 0, 0, 0)) := by decide +kernel
theorem f_80_25 : rfI 80 25 = some (.aload_n 0, (0, 0, 0, 0)) := by decide +kernel
theorem f_80_26 : rfI 80 26 = some (.getfield 9, (7, 0, 2, 0)) := by decide +kernel
theorem f_80_29 : rfI 80 29 = some (.iload_n 2, (0, 0, 0, 0)) := by decide +kernel
theorem f_80_30 : rfI 80 30 = some (.iaload, (0, 0, 0, 0)) := by decide +kernel
theorem f_80_31 : rfI 80 31 = some (.invokevirtual 55, (82, 2, 11, 0)) := by decide +kernel
theorem f_80_34 : rfI 80 34 = some (.iadd, (0, 0, 0, 0)) := by decide +kernel
theorem f_80_35 : rfI 80 35 = some (.istore 4, (0, 0, 0, 0)) := by decide +kernel
theorem f_80_37 : rfI 80 37 = some (.iload_n 2, (0, 0, 0, 0)) := by decide +kernel
theorem f_80_38 : rfI 80 38 = some (.iconst 1, (0, 0, 0, 0)) := by decide +kernel
theorem f_80_39 : rfI 80 39 = some (.iadd, (0, 0, 0, 0)) := by decide +kernel
theorem f_80_40 : rfI 80 40 = some (.istore 5, (0, 0, 0, 0)) := by decide +kernel
theorem f_80_42 : rfI 80 42 = some (.iload 5, (0, 0, 0, 0)) := by decide +kernel
theorem f_80_44 : rfI 80 44 = some (.bipush 8, (0, 0, 0, 0)) := by decide +kernel
theorem f_80_46 : rfI 80 46 = some (.if_icmp .ge 63, (0, 0, 0, 0)) := by decide +kernel
theorem f_80_49 : rfI 80 49 = some (.iload_n 3, (0, 0, 0, 0)) := by decide +kernel
theorem f_80_50 : rfI 80 50 = some (.iconst 1, (0, 0, 0, 0)) := by decide +kernel
theorem f_80_51 : rfI 80 51 = some (.iload 5, (0, 0, 0, 0)) := by decide +kernel
theorem f_80_53 : rfI 80 53 = some (.ishl, (0, 0, 0, 0)) := by decide +kernel
theorem f_80_54 : rfI 80 54 = some (.iand, (0, 0, 0, 0)) := by decide +kernel
theorem f_80_55 : rfI 80 55 = some (.ifCond .eq 48, (0, 0, 0, 0)) := by decide +kernel
theorem f_80_58 : rfI 80 58 = some (.aload_n 0, (0, 0, 0, 0)) := by decide +kernel
theorem f_80_59 : rfI 80 59 = some (.getfield 18, (7, 2, 2, 0)) := by decide +kernel
theorem f_80_62 : rfI 80 62 = some (.iload_n 3, (0, 0, 0, 0)) := by decide +kernel
theorem f_80_63 : rfI 80 63 = some (.iconst 1, (0, 0, 0, 0)) := by decide +kernel
theorem f_80_64 : rfI 80 64 = some (.iload 5, (0, 0, 0, 0)) := by decide +kernel
theorem f_80_66 : rfI 80 66 = some (.ishl, (0, 0, 0, 0)) := by decide +kernel
theorem f_80_67 : rfI 80 67 = some (.iconst (-1), (0, 0, 0, 0)) := by decide +kernel
theorem f_80_68 : rfI 80 68 = some (.ixor, (0, 0, 0, 0)) := by decide +kernel
theorem f_80_69 : rfI 80 69 = some (.iand, (0, 0, 0, 0)) := by decide +kernel
theorem f_80_70 : rfI 80 70 = some (.iaload, (0, 0, 0, 0)) := by decide +kernel
theorem f_80_71 : rfI 80 71 = some (.aload_n 0, (0, 0, 0, 0)) := by decide +kernel
theorem f_80_72 : rfI 80 72 = some (.aload_n 0, (0, 0, 0, 0)) := by decide +kernel
theorem f_80_73 : rfI 80 73 = some (.getfield 9, (7, 0, 2, 0)) := by decide +kernel
theorem f_80_76 : rfI 80 76 = some (.iload_n 2, (0, 0, 0, 0)) := by decide +kernel
theorem f_80_77 : rfI 80 77 = some (.iaload, (0, 0, 0, 0)) := by decide +kernel
theorem f_80_78 : rfI 80 78 = some (.aload_n 0, (0, 0, 0, 0)) := by decide +kernel
theorem f_80_79 : rfI 80 79 = some (.getfield 9, (7, 0, 2, 0)) := by decide +kernel
theorem f_80_82 : rfI 80 82 = some (.iload 5, (0, 0, 0, 0)) := by decide +kernel
theorem f_80_84 : rfI 80 84 = some (.iaload, (0, 0, 0, 0)) := by decide +kernel
theorem f_80_85 : rfI 80 85 = some (.iadd, (0, 0, 0, 0)) := by decide +kernel
theorem f_80_86 : rfI 80 86 = some (.invokevirtual 55, (82, 2, 11, 0)) := by decide +kernel
theorem f_80_89 : rfI 80 89 = some (.iadd, (0, 0, 0, 0)) := by decide +kernel
theorem f_80_90 : rfI 80 90 = some (.iconst 1, (0, 0, 0, 0)) := by decide +kernel
theorem f_80_91 : rfI 80 91 = some (.iadd, (0, 0, 0, 0)) := by decide +kernel
theorem f_80_92 : rfI 80 92 = some (.istore 6, (0, 0, 0, 0)) := by decide +kernel
theorem f_80_94 : rfI 80 94 = some (.iload 4, (0, 0, 0, 0)) := by decide +kernel
theorem f_80_96 : rfI 80 96 = some (.iload 6, (0, 0, 0, 0)) := by decide +kernel
theorem f_80_98 : rfI 80 98 = some (.invokestatic 58, (1001, 2, 14, 0)) := by decide +kernel
theorem f_80_101 : rfI 80 101 = some (.istore 4, (0, 0, 0, 0)) := by decide +kernel
theorem f_80_103 : rfI 80 103 = some (.iinc 5 1, (0, 0, 0, 0)) := by decide +kernel
theorem f_80_106 : rfI 80 106 = some (.goto (-64), (0, 0, 0, 0)) := by decide +kernel
theorem f_80_109 : rfI 80 109 = some (.iload 4, (0, 0, 0, 0)) := by decide +kernel
theorem f_80_111 : rfI 80 111 = some (.ireturn, (0, 0, 0, 0)) := by decide +kernel
theorem f_81_0 : rfI 81 0 = some (.iconst 0, (0, 0, 0, 0)) := by decide +kernel
theorem f_81_1 : rfI 81 1 = some (.istore_n 2, (0, 0, 0, 0)) := by decide +kernel
theorem f_81_2 : rfI 81 2 = some (.iload_n 2, (0, 0, 0, 0)) := by decide +kernel
theorem f_81_3 : rfI 81 3 = some (.bipush 7, (0, 0, 0, 0)) := by decide +kernel
theorem f_81_5 : rfI 81 5 = some (.if_icmp .ge 17, (0, 0, 0, 0)) := by decide +kernel
theorem f_81_8 : rfI 81 8 = some (.iload_n 1, (0, 0, 0, 0)) := by decide +kernel
theorem f_81_9 : rfI 81 9 = some (.iconst 1, (0, 0, 0, 0)) := by decide +kernel
theorem f_81_10 : rfI 81 10 = some (.iload_n 2, (0, 0, 0, 0)) := by decide +kernel
theorem f_81_11 : rfI 81 11 = some (.ishl, (0, 0, 0, 0)) := by decide +kernel
theorem f_81_12 : rfI 81 12 = some (.iand, (0, 0, 0, 0)) := by decide +kernel
theorem f_81_13 : rfI 81 13 = some (.ifCond .ne 9, (0, 0, 0, 0)) := by decide +kernel
theorem f_81_16 : rfI 81 16 = some (.iinc 2 1, (0, 0, 0, 0)) := by decide +kernel
theorem f_81_19 : rfI 81 19 = some (.goto (-17), (0, 0, 0, 0)) := by decide +kernel
theorem f_81_22 : rfI 81 22 = some (.iload_n 2, (0, 0, 0, 0)) := by decide +kernel
theorem f_81_23 : rfI 81 23 = some (.ireturn, (0, 0, 0, 0)) := by decide +kernel
theorem f_82_0 : rfI 82 0 = some (.iload_n 1, (0, 0, 0, 0)) := by decide +kernel
theorem f_82_1 : rfI 82 1 = some (.ifCond .ge 8, (0, 0, 0, 0)) := by decide +kernel
theorem f_82_4 : rfI 82 4 = some (.bipush 16, (0, 0, 0, 0)) := by decide +kernel
theorem f_82_6 : rfI 82 6 = some (.goto 4, (0, 0, 0, 0)) := by decide +kernel
theorem f_82_9 : rfI 82 9 = some (.iconst 0, (0, 0, 0, 0)) := by decide +kernel
theorem f_82_10 : rfI 82 10 = some (.ireturn, (0, 0, 0, 0)) := by decide +kernel
theorem f_83_0 : rfI 83 0 = some (.aload_n 0, (0, 0, 0, 0)) := by decide +kernel
theorem f_83_1 : rfI 83 1 = some (.getfield 18, (7, 2, 2, 0)) := by decide +kernel
theorem f_83_4 : rfI 83 4 = some (.iload_n 1, (0, 0, 0, 0)) := by decide +kernel
theorem f_83_5 : rfI 83 5 = some (.sipush 255, (0, 0, 0, 0)) := by decide +kernel
theorem f_83_8 : rfI 83 8 = some (.iand, (0, 0, 0, 0)) := by decide +kernel
theorem f_83_9 : rfI 83 9 = some (.iaload, (0, 0, 0, 0)) := by decide +kernel
theorem f_83_10 : rfI 83 10 = some (.bipush 16, (0, 0, 0, 0)) := by decide +kernel
theorem f_83_12 : rfI 83 12 = some (.idiv, (0, 0, 0, 0)) := by decide +kernel
theorem f_83_13 : rfI 83 13 = some (.ireturn, (0, 0, 0, 0)) := by decide +kernel
theorem f_84_0 : rfI 84 0 = some (.aload_n 0, (0, 0, 0, 0)) := by decide +kernel
theorem f_84_1 : rfI 84 1 = some (.getfield 18, (7, 2, 2, 0)) := by decide +kernel
theorem f_84_4 : rfI 84 4 = some (.iload_n 1, (0, 0, 0, 0)) := by decide +kernel
theorem f_84_5 : rfI 84 5 = some (.sipush 255, (0, 0, 0, 0)) := by decide +kernel
theorem f_84_8 : rfI 84 8 = some (.iand, (0, 0, 0, 0)) := by decide +kernel
theorem f_84_9 : rfI 84 9 = some (.iaload, (0, 0, 0, 0)) := by decide +kernel
theorem f_84_10 : rfI 84 10 = some (.bipush 16, (0, 0, 0, 0)) := by decide +kernel
theorem f_84_12 : rfI 84 12 = some (.irem, (0, 0, 0, 0)) := by decide +kernel
theorem f_84_13 : rfI 84 13 = some (.ireturn, (0, 0, 0, 0)) := by decide +kernel
theorem f_86_0 : rfI 86 0 = some (.iconst 0, (0, 0, 0, 0)) := by decide +kernel
theorem f_86_1 : rfI 86 1 = some (.istore_n 3, (0, 0, 0, 0)) := by decide +kernel
theorem f_86_2 : rfI 86 2 = some (.iload_n 3, (0, 0, 0, 0)) := by decide +kernel
theorem f_86_3 : rfI 86 3 = some (.bipush 8, (0, 0, 0, 0)) := by decide +kernel
theorem f_86_5 : rfI 86 5 = some (.if_icmp .ge 27, (0, 0, 0, 0)) := by decide +kernel
theorem f_86_8 : rfI 86 8 = some (.aload_n 0, (0, 0, 0, 0)) := by decide +kernel
theorem f_86_9 : rfI 86 9 = some (.getfield 9, (8, 0, 2, 0)) := by decide +kernel
theorem f_86_12 : rfI 86 12 = some (.iload_n 3, (0, 0, 0, 0)) := by decide +kernel
theorem f_86_13 : rfI 86 13 = some (.iload_n 3, (0, 0, 0, 0)) := by decide +kernel
theorem f_86_14 : rfI 86 14 = some (.iload_n 2, (0, 0, 0, 0)) := by decide +kernel
theorem f_86_15 : rfI 86 15 = some (.if_icmp .ne 9, (0, 0, 0, 0)) := by decide +kernel
theorem f_86_18 : rfI 86 18 = some (.sipush 1000, (0, 0, 0, 0)) := by decide +kernel
theorem f_86_21 : rfI 86 21 = some (.goto 4, (0, 0, 0, 0)) := by decide +kernel
theorem f_86_24 : rfI 86 24 = some (.iconst 0, (0, 0, 0, 0)) := by decide +kernel
theorem f_86_25 : rfI 86 25 = some (.iastore, (0, 0, 0, 0)) := by decide +kernel
theorem f_86_26 : rfI 86 26 = some (.iinc 3 1, (0, 0, 0, 0)) := by decide +kernel
theorem f_86_29 : rfI 86 29 = some (.goto (-27), (0, 0, 0, 0)) := by decide +kernel
theorem f_86_32 : rfI 86 32 = some (.iconst 1, (0, 0, 0, 0)) := by decide +kernel
theorem f_86_33 : rfI 86 33 = some (.istore_n 3, (0, 0, 0, 0)) := by decide +kernel
theorem f_86_34 : rfI 86 34 = some (.iload_n 3, (0, 0, 0, 0)) := by decide +kernel
theorem f_86_35 : rfI 86 35 = some (.bipush 8, (0, 0, 0, 0)) := by decide +kernel
theorem f_86_37 : rfI 86 37 = some (.if_icmp .gt 45, (0, 0, 0, 0)) := by decide +kernel
theorem f_86_40 : rfI 86 40 = some (.iconst 0, (0, 0, 0, 0)) := by decide +kernel
theorem f_86_41 : rfI 86 41 = some (.istore 4, (0, 0, 0, 0)) := by decide +kernel
theorem f_86_43 : rfI 86 43 = some (.iload 4, (0, 0, 0, 0)) := by decide +kernel
theorem f_86_45 : rfI 86 45 = some (.bipush 8, (0, 0, 0, 0)) := by decide +kernel
theorem f_86_47 : rfI 86 47 = some (.if_icmp .ge 29, (0, 0, 0, 0)) := by decide +kernel
theorem f_86_50 : rfI 86 50 = some (.aload_n 0, (0, 0, 0, 0)) := by decide +kernel
theorem f_86_51 : rfI 86 51 = some (.getfield 9, (8, 0, 2, 0)) := by decide +kernel
theorem f_86_54 : rfI 86 54 = some (.iload_n 3, (0, 0, 0, 0)) := by decide +kernel
theorem f_86_55 : rfI 86 55 = some (.bipush 8, (0, 0, 0, 0)) := by decide +kernel
theorem f_86_57 : rfI 86 57 = some (.imul, (0, 0, 0, 0)) := by decide +kernel
theorem f_86_58 : rfI 86 58 = some (.iload 4, (0, 0, 0, 0)) := by decide +kernel
theorem f_86_60 : rfI 86 60 = some (.iadd, (0, 0, 0, 0)) := by decide +kernel
theorem f_86_61 : rfI 86 61 = some (.aload_n 0, (0, 0, 0, 0)) := by decide +kernel
theorem f_86_62 : rfI 86 62 = some (.aload_n 1, (0, 0, 0, 0)) := by decide +kernel
theorem f_86_63 : rfI 86 63 = some (.iload_n 3, (0, 0, 0, 0)) := by decide +kernel
theorem f_86_64 : rfI 86 64 = some (.iload 4, (0, 0, 0, 0)) := by decide +kernel
theorem f_86_66 : rfI 86 66 = some (.invokevirtual 15, (87, 4, 11, 0)) := by decide +kernel
theorem f_86_69 : rfI 86 69 = some (.iastore, (0, 0, 0, 0)) := by decide +kernel
theorem f_86_70 : rfI 86 70 = some (.iinc 4 1, (0, 0, 0, 0)) := by decide +kernel
theorem f_86_73 : rfI 86 73 = some (.goto (-30), (0, 0, 0, 0)) := by decide +kernel
theorem f_86_76 : rfI 86 76 = some (.iinc 3 1, (0, 0, 0, 0)) := by decide +kernel
theorem f_86_79 : rfI 86 79 = some (.goto (-45), (0, 0, 0, 0)) := by decide +kernel
theorem f_86_82 : rfI 86 82 = some (.return_, (0, 0, 0, 0)) := by decide +kernel
theorem f_87_0 : rfI 87 0 = some (.iconst 0, (0, 0, 0, 0)) := by decide +kernel
theorem f_87_1 : rfI 87 1 = some (.istore 4, (0, 0, 0, 0)) := by decide +kernel
theorem f_87_3 : rfI 87 3 = some (.iconst 0, (0, 0, 0, 0)) := by decide +kernel
theorem f_87_4 : rfI 87 4 = some (.istore 5, (0, 0, 0, 0)) := by decide +kernel
theorem f_87_6 : rfI 87 6 = some (.iload 5, (0, 0, 0, 0)) := by decide +kernel
theorem f_87_8 : rfI 87 8 = some (.bipush 8, (0, 0, 0, 0)) := by decide +kernel
theorem f_87_10 : rfI 87 10 = some (.if_icmp .ge 35, (0, 0, 0, 0)) := by decide +kernel
theorem f_87_13 : rfI 87 13 = some (.iload 4, (0, 0, 0, 0)) := by decide +kernel
theorem f_87_15 : rfI 87 15 = some (.aload_n 0, (0, 0, 0, 0)) := by decide +kernel
theorem f_87_16 : rfI 87 16 = some (.iload_n 2, (0, 0, 0, 0)) := by decide +kernel
theorem f_87_17 : rfI 87 17 = some (.iconst 1, (0, 0, 0, 0)) := by decide +kernel
theorem f_87_18 : rfI 87 18 = some (.isub, (0, 0, 0, 0)) := by decide +kernel
theorem f_87_19 : rfI 87 19 = some (.iload 5, (0, 0, 0, 0)) := by decide +kernel
theorem f_87_21 : rfI 87 21 = some (.invokevirtual 19, (88, 3, 11, 0)) := by decide +kernel
theorem f_87_24 : rfI 87 24 = some (.aload_n 1, (0, 0, 0, 0)) := by decide +kernel
theorem f_87_25 : rfI 87 25 = some (.iload 5, (0, 0, 0, 0)) := by decide +kernel
theorem f_87_27 : rfI 87 27 = some (.iload_n 3, (0, 0, 0, 0)) := by decide +kernel
