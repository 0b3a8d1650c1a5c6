theorem hin0 : ∀ w ∈ u_ws RX0 TX0 2, w ∈ wAll := wps [88, 90] (by decide +kernel) (by decide +kernel)
theorem hin1 : ∀ w ∈ u_ws RX1 TX1 3, w ∈ wAll := wps [146, 148, 150] (by decide +kernel) (by decide +kernel)
theorem hin2 : ∀ w ∈ u_ws RX2 TX2 4, w ∈ wAll := wps [360, 362, 364, 366] (by decide +kernel) (by decide +kernel)
theorem hin3 : ∀ w ∈ u_ws RX3 TX3 2, w ∈ wAll := wps [596, 598] (by decide +kernel) (by decide +kernel)
theorem hin4 : ∀ w ∈ u_ws RX4 TX4 6, w ∈ wAll := wps [251, 253, 255, 257, 259, 261] (by decide +kernel) (by decide +kernel)
theorem hin5 : ∀ w ∈ u_ws RX5 TX5 2, w ∈ wAll := wps [74, 76] (by decide +kernel) (by decide +kernel)
theorem hin6 : ∀ w ∈ u_ws RX6 TX6 7, w ∈ wAll := wps [122, 124, 126, 128, 130, 132, 134] (by decide +kernel) (by decide +kernel)
theorem hin7 : ∀ w ∈ u_ws RX7 TX7 2, w ∈ wAll := wps [101, 103] (by decide +kernel) (by decide +kernel)
theorem hin8 : ∀ w ∈ u_ws RX8 TX8 13, w ∈ wAll := wps [166, 168, 170, 172, 174, 176, 178, 180, 182, 184, 186, 188, 190] (by decide +kernel) (by decide +kernel)
theorem hin9 : ∀ w ∈ u_ws RX9 TX9 55, w ∈ wAll := wps [748, 750, 752, 754, 756, 758, 760, 762, 764, 766, 768, 770, 772, 774, 776, 778, 780, 782, 784, 786, 788, 790, 792, 794, 796, 798, 800, 802, 804, 806, 808, 810, 812, 814, 816, 818, 820, 822, 824, 826, 828, 830, 832, 834, 836, 838, 840, 842, 844, 846, 848, 850, 852, 854, 856] (by decide +kernel) (by decide +kernel)
theorem ka_int : Cond.arrayClass .int ∈ wAll := wmi 106 (by decide +kernel) (by decide +kernel)
theorem ka_boolean : Cond.arrayClass .boolean ∈ wAll := wmi 859 (by decide +kernel) (by decide +kernel)
theorem ko_inst : Cond.instanceMethod objectInit ∈ wAll := wmi 62 (by decide +kernel) (by decide +kernel)
theorem ko_code : Cond.code objectInit ⟨#[0xb1]⟩ 1 none ∈ wAll := wmi 63 (by decide +kernel) (by decide +kernel)
theorem km_ini : Cond.initialized "java/lang/Math" ∈ wAll := wmi 49 (by decide +kernel) (by decide +kernel)
theorem km_max_s : Cond.static Lib.Math.max.name ∈ wAll := wmi 273 (by decide +kernel) (by decide +kernel)
theorem km_max_c : Cond.code Lib.Math.max.name Lib.Math.max.code 2 (some .int) ∈ wAll := wmi 274 (by decide +kernel) (by decide +kernel)
theorem km_min_s : Cond.static Lib.Math.min.name ∈ wAll := wmi 339 (by decide +kernel) (by decide +kernel)
theorem km_min_c : Cond.code Lib.Math.min.name Lib.Math.min.code 2 (some .int) ∈ wAll := wmi 340 (by decide +kernel) (by decide +kernel)
theorem km_maxl_s : Cond.static Lib.MathLoose.max_long.x ∈ wAll := wmi 579 (by decide +kernel) (by decide +kernel)
theorem km_maxl_c : Cond.code Lib.MathLoose.max_long.x Lib.MathLoose.max_long.code 4 (some .long) ∈ wAll := wmi 580 (by decide +kernel) (by decide +kernel)
theorem km_minl_s : Cond.static Lib.MathLoose.min_long.x ∈ wAll := wmi 576 (by decide +kernel) (by decide +kernel)
theorem km_minl_c : Cond.code Lib.MathLoose.min_long.x Lib.MathLoose.min_long.code 4 (some .long) ∈ wAll := wmi 577 (by decide +kernel) (by decide +kernel)
theorem kq_RX0_9 : Cond.classLink RX0 9 "PaperRows$Row" ∈ wAll := wmi 85 (by decide +kernel) (by decide +kernel)
theorem kq_RX5_9 : Cond.classLink RX5 9 "PaperRows$Row" ∈ wAll := wmi 70 (by decide +kernel) (by decide +kernel)
theorem kq_RX8_30 : Cond.classLink RX8 30 "PaperRows$Reader" ∈ wAll := wmi 107 (by decide +kernel) (by decide +kernel)
theorem kk_RX9_143 : Cond.constantLong RX9 143 (-1000) ∈ wAll := wmi 871 (by decide +kernel) (by decide +kernel)
theorem kk_RX9_145 : Cond.constantLong RX9 145 (1000) ∈ wAll := wmi 872 (by decide +kernel) (by decide +kernel)
theorem kk_RX9_147 : Cond.constantLong RX9 147 (3) ∈ wAll := wmi 864 (by decide +kernel) (by decide +kernel)
theorem kk_RX9_189 : Cond.constantLong RX9 189 (32) ∈ wAll := wmi 931 (by decide +kernel) (by decide +kernel)
theorem kk_RX9_191 : Cond.constantLong RX9 191 (96) ∈ wAll := wmi 932 (by decide +kernel) (by decide +kernel)
theorem kk_RX9_193 : Cond.constantLong RX9 193 (-1) ∈ wAll := wmi 933 (by decide +kernel) (by decide +kernel)
theorem kk_RX9_195 : Cond.constantLong RX9 195 (10) ∈ wAll := wmi 934 (by decide +kernel) (by decide +kernel)
theorem kk_RX9_197 : Cond.constantLong RX9 197 (48) ∈ wAll := wmi 935 (by decide +kernel) (by decide +kernel)
theorem kk_RX9_206 : Cond.constantLong RX9 206 (4) ∈ wAll := wmi 940 (by decide +kernel) (by decide +kernel)
theorem kk_RX9_258 : Cond.constantLong RX9 258 (100) ∈ wAll := wmi 989 (by decide +kernel) (by decide +kernel)
theorem kk_RX9_260 : Cond.constantLong RX9 260 (599) ∈ wAll := wmi 990 (by decide +kernel) (by decide +kernel)
theorem kf_RX0_11 : FP RX0 11 0 0 (.array (.object "PaperRows$Row")) true := ⟨(RX0, TX0, 2), tyX0, rfl, by decide, by decide, by decide, hin0, wmi 86 (by decide +kernel) (by decide +kernel), tyX0_ok, nmX0, rfl, rfl⟩
theorem kf_RX0_17 : FP RX0 17 0 1 (.int) false := ⟨(RX0, TX0, 2), tyX0, rfl, by decide, by decide, by decide, hin0, wmi 87 (by decide +kernel) (by decide +kernel), tyX0_ok, nmX0, rfl, rfl⟩
theorem kf_RX1_15 : FP RX1 15 1 1 (.int) false := ⟨(RX1, TX1, 3), tyX1, rfl, by decide, by decide, by decide, hin1, wmi 144 (by decide +kernel) (by decide +kernel), tyX1_ok, nmX1, rfl, rfl⟩
theorem kf_RX1_19 : FP RX1 19 1 2 (.long) false := ⟨(RX1, TX1, 3), tyX1, rfl, by decide, by decide, by decide, hin1, wmi 145 (by decide +kernel) (by decide +kernel), tyX1_ok, nmX1, rfl, rfl⟩
theorem kf_RX1_46 : FP RX1 46 4 1 (.int) true := ⟨(RX4, TX4, 6), tyX4, rfl, by decide, by decide, by decide, hin4, wmi 240 (by decide +kernel) (by decide +kernel), tyX4_ok, nmX4, rfl, rfl⟩
theorem kf_RX1_64 : FP RX1 64 4 0 (.int) true := ⟨(RX4, TX4, 6), tyX4, rfl, by decide, by decide, by decide, hin4, wmi 236 (by decide +kernel) (by decide +kernel), tyX4_ok, nmX4, rfl, rfl⟩
theorem kf_RX1_81 : FP RX1 81 4 2 (.int) true := ⟨(RX4, TX4, 6), tyX4, rfl, by decide, by decide, by decide, hin4, wmi 243 (by decide +kernel) (by decide +kernel), tyX4_ok, nmX4, rfl, rfl⟩
theorem kf_RX1_9 : FP RX1 9 1 0 (.array .int) true := ⟨(RX1, TX1, 3), tyX1, rfl, by decide, by decide, by decide, hin1, wmi 143 (by decide +kernel) (by decide +kernel), tyX1_ok, nmX1, rfl, rfl⟩
theorem kf_RX2_15 : FP RX2 15 2 3 (.int) false := ⟨(RX2, TX2, 4), tyX2, rfl, by decide, by decide, by decide, hin2, wmi 359 (by decide +kernel) (by decide +kernel), tyX2_ok, nmX2, rfl, rfl⟩
theorem kf_RX2_18 : FP RX2 18 2 0 (.object "PaperRows$Tape") true := ⟨(RX2, TX2, 4), tyX2, rfl, by decide, by decide, by decide, hin2, wmi 356 (by decide +kernel) (by decide +kernel), tyX2_ok, nmX2, rfl, rfl⟩
theorem kf_RX2_22 : FP RX2 22 2 1 (.object "PaperRows$Shape") true := ⟨(RX2, TX2, 4), tyX2, rfl, by decide, by decide, by decide, hin2, wmi 357 (by decide +kernel) (by decide +kernel), tyX2_ok, nmX2, rfl, rfl⟩
theorem kf_RX2_9 : FP RX2 9 2 2 (.int) false := ⟨(RX2, TX2, 4), tyX2, rfl, by decide, by decide, by decide, hin2, wmi 358 (by decide +kernel) (by decide +kernel), tyX2_ok, nmX2, rfl, rfl⟩
theorem kf_RX3_10 : FP RX3 10 3 1 (.object "PaperRows$Paper") true := ⟨(RX3, TX3, 2), tyX3, rfl, by decide, by decide, by decide, hin3, wmi 594 (by decide +kernel) (by decide +kernel), tyX3_ok, nmX3, rfl, rfl⟩
theorem kf_RX3_16 : FP RX3 16 3 0 (.int) true := ⟨(RX3, TX3, 2), tyX3, rfl, by decide, by decide, by decide, hin3, wmi 592 (by decide +kernel) (by decide +kernel), tyX3_ok, nmX3, rfl, rfl⟩
theorem kf_RX4_13 : FP RX4 13 4 1 (.int) true := ⟨(RX4, TX4, 6), tyX4, rfl, by decide, by decide, by decide, hin4, wmi 238 (by decide +kernel) (by decide +kernel), tyX4_ok, nmX4, rfl, rfl⟩
theorem kf_RX4_16 : FP RX4 16 4 2 (.int) true := ⟨(RX4, TX4, 6), tyX4, rfl, by decide, by decide, by decide, hin4, wmi 241 (by decide +kernel) (by decide +kernel), tyX4_ok, nmX4, rfl, rfl⟩
theorem kf_RX4_19 : FP RX4 19 4 3 (.int) true := ⟨(RX4, TX4, 6), tyX4, rfl, by decide, by decide, by decide, hin4, wmi 244 (by decide +kernel) (by decide +kernel), tyX4_ok, nmX4, rfl, rfl⟩
theorem kf_RX4_22 : FP RX4 22 4 4 (.int) true := ⟨(RX4, TX4, 6), tyX4, rfl, by decide, by decide, by decide, hin4, wmi 246 (by decide +kernel) (by decide +kernel), tyX4_ok, nmX4, rfl, rfl⟩
theorem kf_RX4_25 : FP RX4 25 4 5 (.boolean) true := ⟨(RX4, TX4, 6), tyX4, rfl, by decide, by decide, by decide, hin4, wmi 248 (by decide +kernel) (by decide +kernel), tyX4_ok, nmX4, rfl, rfl⟩
theorem kf_RX4_7 : FP RX4 7 4 0 (.int) true := ⟨(RX4, TX4, 6), tyX4, rfl, by decide, by decide, by decide, hin4, wmi 234 (by decide +kernel) (by decide +kernel), tyX4_ok, nmX4, rfl, rfl⟩
theorem kf_RX5_11 : FP RX5 11 5 0 (.array (.object "PaperRows$Row")) true := ⟨(RX5, TX5, 2), tyX5, rfl, by decide, by decide, by decide, hin5, wmi 72 (by decide +kernel) (by decide +kernel), tyX5_ok, nmX5, rfl, rfl⟩
theorem kf_RX5_17 : FP RX5 17 5 1 (.int) false := ⟨(RX5, TX5, 2), tyX5, rfl, by decide, by decide, by decide, hin5, wmi 73 (by decide +kernel) (by decide +kernel), tyX5_ok, nmX5, rfl, rfl⟩
theorem kf_RX5_25 : FP RX5 25 4 5 (.boolean) true := ⟨(RX4, TX4, 6), tyX4, rfl, by decide, by decide, by decide, hin4, wmi 249 (by decide +kernel) (by decide +kernel), tyX4_ok, nmX4, rfl, rfl⟩
theorem kf_RX5_32 : FP RX5 32 4 0 (.int) true := ⟨(RX4, TX4, 6), tyX4, rfl, by decide, by decide, by decide, hin4, wmi 235 (by decide +kernel) (by decide +kernel), tyX4_ok, nmX4, rfl, rfl⟩
theorem kf_RX6_15 : FP RX6 15 6 1 (.array .int) true := ⟨(RX6, TX6, 7), tyX6, rfl, by decide, by decide, by decide, hin6, wmi 116 (by decide +kernel) (by decide +kernel), tyX6_ok, nmX6, rfl, rfl⟩
theorem kf_RX6_18 : FP RX6 18 6 2 (.array .int) true := ⟨(RX6, TX6, 7), tyX6, rfl, by decide, by decide, by decide, hin6, wmi 117 (by decide +kernel) (by decide +kernel), tyX6_ok, nmX6, rfl, rfl⟩
theorem kf_RX6_21 : FP RX6 21 6 3 (.array .int) true := ⟨(RX6, TX6, 7), tyX6, rfl, by decide, by decide, by decide, hin6, wmi 118 (by decide +kernel) (by decide +kernel), tyX6_ok, nmX6, rfl, rfl⟩
theorem kf_RX6_24 : FP RX6 24 6 4 (.array .int) true := ⟨(RX6, TX6, 7), tyX6, rfl, by decide, by decide, by decide, hin6, wmi 119 (by decide +kernel) (by decide +kernel), tyX6_ok, nmX6, rfl, rfl⟩
theorem kf_RX6_27 : FP RX6 27 6 5 (.int) false := ⟨(RX6, TX6, 7), tyX6, rfl, by decide, by decide, by decide, hin6, wmi 120 (by decide +kernel) (by decide +kernel), tyX6_ok, nmX6, rfl, rfl⟩
theorem kf_RX6_31 : FP RX6 31 6 6 (.int) false := ⟨(RX6, TX6, 7), tyX6, rfl, by decide, by decide, by decide, hin6, wmi 121 (by decide +kernel) (by decide +kernel), tyX6_ok, nmX6, rfl, rfl⟩
theorem kf_RX6_9 : FP RX6 9 6 0 (.array .int) true := ⟨(RX6, TX6, 7), tyX6, rfl, by decide, by decide, by decide, hin6, wmi 115 (by decide +kernel) (by decide +kernel), tyX6_ok, nmX6, rfl, rfl⟩
theorem kf_RX7_15 : FP RX7 15 7 1 (.int) false := ⟨(RX7, TX7, 2), tyX7, rfl, by decide, by decide, by decide, hin7, wmi 100 (by decide +kernel) (by decide +kernel), tyX7_ok, nmX7, rfl, rfl⟩
theorem kf_RX7_9 : FP RX7 9 7 0 (.array .int) true := ⟨(RX7, TX7, 2), tyX7, rfl, by decide, by decide, by decide, hin7, wmi 99 (by decide +kernel) (by decide +kernel), tyX7_ok, nmX7, rfl, rfl⟩
theorem kf_RX8_111 : FP RX8 111 4 2 (.int) true := ⟨(RX4, TX4, 6), tyX4, rfl, by decide, by decide, by decide, hin4, wmi 242 (by decide +kernel) (by decide +kernel), tyX4_ok, nmX4, rfl, rfl⟩
theorem kf_RX8_12 : FP RX8 12 8 0 (.object "PaperRows$Rows") true := ⟨(RX8, TX8, 13), tyX8, rfl, by decide, by decide, by decide, hin8, wmi 153 (by decide +kernel) (by decide +kernel), tyX8_ok, nmX8, rfl, rfl⟩
theorem kf_RX8_125 : FP RX8 125 4 1 (.int) true := ⟨(RX4, TX4, 6), tyX4, rfl, by decide, by decide, by decide, hin4, wmi 239 (by decide +kernel) (by decide +kernel), tyX4_ok, nmX4, rfl, rfl⟩
theorem kf_RX8_128 : FP RX8 128 4 3 (.int) true := ⟨(RX4, TX4, 6), tyX4, rfl, by decide, by decide, by decide, hin4, wmi 245 (by decide +kernel) (by decide +kernel), tyX4_ok, nmX4, rfl, rfl⟩
theorem kf_RX8_131 : FP RX8 131 4 4 (.int) true := ⟨(RX4, TX4, 6), tyX4, rfl, by decide, by decide, by decide, hin4, wmi 247 (by decide +kernel) (by decide +kernel), tyX4_ok, nmX4, rfl, rfl⟩
theorem kf_RX8_134 : FP RX8 134 4 5 (.boolean) true := ⟨(RX4, TX4, 6), tyX4, rfl, by decide, by decide, by decide, hin4, wmi 250 (by decide +kernel) (by decide +kernel), tyX4_ok, nmX4, rfl, rfl⟩
theorem kf_RX8_183 : FP RX8 183 3 0 (.int) true := ⟨(RX3, TX3, 2), tyX3, rfl, by decide, by decide, by decide, hin3, wmi 593 (by decide +kernel) (by decide +kernel), tyX3_ok, nmX3, rfl, rfl⟩
theorem kf_RX8_186 : FP RX8 186 3 1 (.object "PaperRows$Paper") true := ⟨(RX3, TX3, 2), tyX3, rfl, by decide, by decide, by decide, hin3, wmi 595 (by decide +kernel) (by decide +kernel), tyX3_ok, nmX3, rfl, rfl⟩
theorem kf_RX8_19 : FP RX8 19 8 1 (.object "PaperRows$History") true := ⟨(RX8, TX8, 13), tyX8, rfl, by decide, by decide, by decide, hin8, wmi 154 (by decide +kernel) (by decide +kernel), tyX8_ok, nmX8, rfl, rfl⟩
theorem kf_RX8_211 : FP RX8 211 4 0 (.int) true := ⟨(RX4, TX4, 6), tyX4, rfl, by decide, by decide, by decide, hin4, wmi 237 (by decide +kernel) (by decide +kernel), tyX4_ok, nmX4, rfl, rfl⟩
theorem kf_RX8_26 : FP RX8 26 8 2 (.object "PaperRows$Tape") true := ⟨(RX8, TX8, 13), tyX8, rfl, by decide, by decide, by decide, hin8, wmi 155 (by decide +kernel) (by decide +kernel), tyX8_ok, nmX8, rfl, rfl⟩
theorem kf_RX8_32 : FP RX8 32 8 3 (.array (.object "PaperRows$Reader")) true := ⟨(RX8, TX8, 13), tyX8, rfl, by decide, by decide, by decide, hin8, wmi 156 (by decide +kernel) (by decide +kernel), tyX8_ok, nmX8, rfl, rfl⟩
theorem kf_RX8_39 : FP RX8 39 8 4 (.object "PaperRows$Shape") false := ⟨(RX8, TX8, 13), tyX8, rfl, by decide, by decide, by decide, hin8, wmi 157 (by decide +kernel) (by decide +kernel), tyX8_ok, nmX8, rfl, rfl⟩
theorem kf_RX8_43 : FP RX8 43 8 5 (.int) false := ⟨(RX8, TX8, 13), tyX8, rfl, by decide, by decide, by decide, hin8, wmi 158 (by decide +kernel) (by decide +kernel), tyX8_ok, nmX8, rfl, rfl⟩
theorem kf_RX8_47 : FP RX8 47 8 6 (.int) false := ⟨(RX8, TX8, 13), tyX8, rfl, by decide, by decide, by decide, hin8, wmi 159 (by decide +kernel) (by decide +kernel), tyX8_ok, nmX8, rfl, rfl⟩
theorem kf_RX8_50 : FP RX8 50 8 7 (.int) false := ⟨(RX8, TX8, 13), tyX8, rfl, by decide, by decide, by decide, hin8, wmi 160 (by decide +kernel) (by decide +kernel), tyX8_ok, nmX8, rfl, rfl⟩
theorem kf_RX8_53 : FP RX8 53 8 8 (.int) false := ⟨(RX8, TX8, 13), tyX8, rfl, by decide, by decide, by decide, hin8, wmi 161 (by decide +kernel) (by decide +kernel), tyX8_ok, nmX8, rfl, rfl⟩
theorem kf_RX8_56 : FP RX8 56 8 9 (.object "PaperRows$Shape") false := ⟨(RX8, TX8, 13), tyX8, rfl, by decide, by decide, by decide, hin8, wmi 162 (by decide +kernel) (by decide +kernel), tyX8_ok, nmX8, rfl, rfl⟩
theorem kf_RX8_59 : FP RX8 59 8 10 (.object "PaperRows$Rows") true := ⟨(RX8, TX8, 13), tyX8, rfl, by decide, by decide, by decide, hin8, wmi 163 (by decide +kernel) (by decide +kernel), tyX8_ok, nmX8, rfl, rfl⟩
theorem kf_RX8_65 : FP RX8 65 8 11 (.object "PaperRows$Paper") true := ⟨(RX8, TX8, 13), tyX8, rfl, by decide, by decide, by decide, hin8, wmi 164 (by decide +kernel) (by decide +kernel), tyX8_ok, nmX8, rfl, rfl⟩
theorem kf_RX8_69 : FP RX8 69 8 12 (.object "PaperRows$Paper") true := ⟨(RX8, TX8, 13), tyX8, rfl, by decide, by decide, by decide, hin8, wmi 165 (by decide +kernel) (by decide +kernel), tyX8_ok, nmX8, rfl, rfl⟩
theorem kf_RX9_102 : FP RX9 102 9 45 (.array .int) true := ⟨(RX9, TX9, 55), tyX9, rfl, by decide, by decide, by decide, hin9, wmi 738 (by decide +kernel) (by decide +kernel), tyX9_ok, nmX9, rfl, rfl⟩
theorem kf_RX9_105 : FP RX9 105 9 46 (.array .int) true := ⟨(RX9, TX9, 55), tyX9, rfl, by decide, by decide, by decide, hin9, wmi 739 (by decide +kernel) (by decide +kernel), tyX9_ok, nmX9, rfl, rfl⟩
theorem kf_RX9_108 : FP RX9 108 9 49 (.array .int) true := ⟨(RX9, TX9, 55), tyX9, rfl, by decide, by decide, by decide, hin9, wmi 742 (by decide +kernel) (by decide +kernel), tyX9_ok, nmX9, rfl, rfl⟩
theorem kf_RX9_111 : FP RX9 111 9 50 (.array .int) true := ⟨(RX9, TX9, 55), tyX9, rfl, by decide, by decide, by decide, hin9, wmi 743 (by decide +kernel) (by decide +kernel), tyX9_ok, nmX9, rfl, rfl⟩
theorem kf_RX9_114 : FP RX9 114 9 51 (.array .int) true := ⟨(RX9, TX9, 55), tyX9, rfl, by decide, by decide, by decide, hin9, wmi 744 (by decide +kernel) (by decide +kernel), tyX9_ok, nmX9, rfl, rfl⟩
theorem kf_RX9_117 : FP RX9 117 9 52 (.array .int) true := ⟨(RX9, TX9, 55), tyX9, rfl, by decide, by decide, by decide, hin9, wmi 745 (by decide +kernel) (by decide +kernel), tyX9_ok, nmX9, rfl, rfl⟩
theorem kf_RX9_120 : FP RX9 120 9 54 (.array .int) true := ⟨(RX9, TX9, 55), tyX9, rfl, by decide, by decide, by decide, hin9, wmi 747 (by decide +kernel) (by decide +kernel), tyX9_ok, nmX9, rfl, rfl⟩
theorem kf_RX9_123 : FP RX9 123 9 0 (.int) false := ⟨(RX9, TX9, 55), tyX9, rfl, by decide, by decide, by decide, hin9, wmi 693 (by decide +kernel) (by decide +kernel), tyX9_ok, nmX9, rfl, rfl⟩
theorem kf_RX9_126 : FP RX9 126 9 1 (.int) false := ⟨(RX9, TX9, 55), tyX9, rfl, by decide, by decide, by decide, hin9, wmi 694 (by decide +kernel) (by decide +kernel), tyX9_ok, nmX9, rfl, rfl⟩
theorem kf_RX9_129 : FP RX9 129 9 2 (.int) false := ⟨(RX9, TX9, 55), tyX9, rfl, by decide, by decide, by decide, hin9, wmi 695 (by decide +kernel) (by decide +kernel), tyX9_ok, nmX9, rfl, rfl⟩
theorem kf_RX9_13 : FP RX9 13 9 4 (.array .int) true := ⟨(RX9, TX9, 55), tyX9, rfl, by decide, by decide, by decide, hin9, wmi 697 (by decide +kernel) (by decide +kernel), tyX9_ok, nmX9, rfl, rfl⟩
theorem kf_RX9_136 : FP RX9 136 9 9 (.int) false := ⟨(RX9, TX9, 55), tyX9, rfl, by decide, by decide, by decide, hin9, wmi 702 (by decide +kernel) (by decide +kernel), tyX9_ok, nmX9, rfl, rfl⟩
theorem kf_RX9_16 : FP RX9 16 9 5 (.array .int) true := ⟨(RX9, TX9, 55), tyX9, rfl, by decide, by decide, by decide, hin9, wmi 698 (by decide +kernel) (by decide +kernel), tyX9_ok, nmX9, rfl, rfl⟩
theorem kf_RX9_164 : FP RX9 164 9 33 (.int) false := ⟨(RX9, TX9, 55), tyX9, rfl, by decide, by decide, by decide, hin9, wmi 726 (by decide +kernel) (by decide +kernel), tyX9_ok, nmX9, rfl, rfl⟩
theorem kf_RX9_170 : FP RX9 170 9 35 (.int) false := ⟨(RX9, TX9, 55), tyX9, rfl, by decide, by decide, by decide, hin9, wmi 728 (by decide +kernel) (by decide +kernel), tyX9_ok, nmX9, rfl, rfl⟩
theorem kf_RX9_173 : FP RX9 173 9 34 (.int) false := ⟨(RX9, TX9, 55), tyX9, rfl, by decide, by decide, by decide, hin9, wmi 727 (by decide +kernel) (by decide +kernel), tyX9_ok, nmX9, rfl, rfl⟩
theorem kf_RX9_176 : FP RX9 176 9 37 (.long) false := ⟨(RX9, TX9, 55), tyX9, rfl, by decide, by decide, by decide, hin9, wmi 730 (by decide +kernel) (by decide +kernel), tyX9_ok, nmX9, rfl, rfl⟩
theorem kf_RX9_186 : FP RX9 186 9 36 (.int) false := ⟨(RX9, TX9, 55), tyX9, rfl, by decide, by decide, by decide, hin9, wmi 729 (by decide +kernel) (by decide +kernel), tyX9_ok, nmX9, rfl, rfl⟩
theorem kf_RX9_19 : FP RX9 19 9 6 (.array .int) true := ⟨(RX9, TX9, 55), tyX9, rfl, by decide, by decide, by decide, hin9, wmi 699 (by decide +kernel) (by decide +kernel), tyX9_ok, nmX9, rfl, rfl⟩
theorem kf_RX9_199 : FP RX9 199 9 39 (.boolean) false := ⟨(RX9, TX9, 55), tyX9, rfl, by decide, by decide, by decide, hin9, wmi 732 (by decide +kernel) (by decide +kernel), tyX9_ok, nmX9, rfl, rfl⟩
theorem kf_RX9_208 : FP RX9 208 9 21 (.int) false := ⟨(RX9, TX9, 55), tyX9, rfl, by decide, by decide, by decide, hin9, wmi 714 (by decide +kernel) (by decide +kernel), tyX9_ok, nmX9, rfl, rfl⟩
theorem kf_RX9_218 : FP RX9 218 9 31 (.int) false := ⟨(RX9, TX9, 55), tyX9, rfl, by decide, by decide, by decide, hin9, wmi 724 (by decide +kernel) (by decide +kernel), tyX9_ok, nmX9, rfl, rfl⟩
theorem kf_RX9_22 : FP RX9 22 9 7 (.array .int) true := ⟨(RX9, TX9, 55), tyX9, rfl, by decide, by decide, by decide, hin9, wmi 700 (by decide +kernel) (by decide +kernel), tyX9_ok, nmX9, rfl, rfl⟩
theorem kf_RX9_225 : FP RX9 225 9 22 (.int) false := ⟨(RX9, TX9, 55), tyX9, rfl, by decide, by decide, by decide, hin9, wmi 715 (by decide +kernel) (by decide +kernel), tyX9_ok, nmX9, rfl, rfl⟩
theorem kf_RX9_235 : FP RX9 235 9 14 (.int) false := ⟨(RX9, TX9, 55), tyX9, rfl, by decide, by decide, by decide, hin9, wmi 707 (by decide +kernel) (by decide +kernel), tyX9_ok, nmX9, rfl, rfl⟩
theorem kf_RX9_238 : FP RX9 238 9 40 (.int) false := ⟨(RX9, TX9, 55), tyX9, rfl, by decide, by decide, by decide, hin9, wmi 733 (by decide +kernel) (by decide +kernel), tyX9_ok, nmX9, rfl, rfl⟩
theorem kf_RX9_245 : FP RX9 245 9 47 (.int) false := ⟨(RX9, TX9, 55), tyX9, rfl, by decide, by decide, by decide, hin9, wmi 740 (by decide +kernel) (by decide +kernel), tyX9_ok, nmX9, rfl, rfl⟩
theorem kf_RX9_25 : FP RX9 25 9 8 (.array .int) true := ⟨(RX9, TX9, 55), tyX9, rfl, by decide, by decide, by decide, hin9, wmi 701 (by decide +kernel) (by decide +kernel), tyX9_ok, nmX9, rfl, rfl⟩
theorem kf_RX9_265 : FP RX9 265 9 48 (.int) false := ⟨(RX9, TX9, 55), tyX9, rfl, by decide, by decide, by decide, hin9, wmi 741 (by decide +kernel) (by decide +kernel), tyX9_ok, nmX9, rfl, rfl⟩
theorem kf_RX9_271 : FP RX9 271 9 53 (.int) false := ⟨(RX9, TX9, 55), tyX9, rfl, by decide, by decide, by decide, hin9, wmi 746 (by decide +kernel) (by decide +kernel), tyX9_ok, nmX9, rfl, rfl⟩
theorem kf_RX9_28 : FP RX9 28 9 10 (.array .int) true := ⟨(RX9, TX9, 55), tyX9, rfl, by decide, by decide, by decide, hin9, wmi 703 (by decide +kernel) (by decide +kernel), tyX9_ok, nmX9, rfl, rfl⟩
theorem kf_RX9_31 : FP RX9 31 9 11 (.array .int) true := ⟨(RX9, TX9, 55), tyX9, rfl, by decide, by decide, by decide, hin9, wmi 704 (by decide +kernel) (by decide +kernel), tyX9_ok, nmX9, rfl, rfl⟩
theorem kf_RX9_34 : FP RX9 34 9 12 (.array .int) true := ⟨(RX9, TX9, 55), tyX9, rfl, by decide, by decide, by decide, hin9, wmi 705 (by decide +kernel) (by decide +kernel), tyX9_ok, nmX9, rfl, rfl⟩
theorem kf_RX9_37 : FP RX9 37 9 13 (.array .boolean) true := ⟨(RX9, TX9, 55), tyX9, rfl, by decide, by decide, by decide, hin9, wmi 706 (by decide +kernel) (by decide +kernel), tyX9_ok, nmX9, rfl, rfl⟩
theorem kf_RX9_41 : FP RX9 41 9 15 (.array .int) true := ⟨(RX9, TX9, 55), tyX9, rfl, by decide, by decide, by decide, hin9, wmi 708 (by decide +kernel) (by decide +kernel), tyX9_ok, nmX9, rfl, rfl⟩
theorem kf_RX9_44 : FP RX9 44 9 16 (.array .int) true := ⟨(RX9, TX9, 55), tyX9, rfl, by decide, by decide, by decide, hin9, wmi 709 (by decide +kernel) (by decide +kernel), tyX9_ok, nmX9, rfl, rfl⟩
theorem kf_RX9_47 : FP RX9 47 9 17 (.array .int) true := ⟨(RX9, TX9, 55), tyX9, rfl, by decide, by decide, by decide, hin9, wmi 710 (by decide +kernel) (by decide +kernel), tyX9_ok, nmX9, rfl, rfl⟩
theorem kf_RX9_50 : FP RX9 50 9 18 (.array .int) true := ⟨(RX9, TX9, 55), tyX9, rfl, by decide, by decide, by decide, hin9, wmi 711 (by decide +kernel) (by decide +kernel), tyX9_ok, nmX9, rfl, rfl⟩
theorem kf_RX9_53 : FP RX9 53 9 19 (.array .int) true := ⟨(RX9, TX9, 55), tyX9, rfl, by decide, by decide, by decide, hin9, wmi 712 (by decide +kernel) (by decide +kernel), tyX9_ok, nmX9, rfl, rfl⟩
theorem kf_RX9_56 : FP RX9 56 9 20 (.array .int) true := ⟨(RX9, TX9, 55), tyX9, rfl, by decide, by decide, by decide, hin9, wmi 713 (by decide +kernel) (by decide +kernel), tyX9_ok, nmX9, rfl, rfl⟩
theorem kf_RX9_59 : FP RX9 59 9 23 (.array .int) true := ⟨(RX9, TX9, 55), tyX9, rfl, by decide, by decide, by decide, hin9, wmi 716 (by decide +kernel) (by decide +kernel), tyX9_ok, nmX9, rfl, rfl⟩
theorem kf_RX9_62 : FP RX9 62 9 24 (.array .int) true := ⟨(RX9, TX9, 55), tyX9, rfl, by decide, by decide, by decide, hin9, wmi 717 (by decide +kernel) (by decide +kernel), tyX9_ok, nmX9, rfl, rfl⟩
theorem kf_RX9_65 : FP RX9 65 9 25 (.array .int) true := ⟨(RX9, TX9, 55), tyX9, rfl, by decide, by decide, by decide, hin9, wmi 718 (by decide +kernel) (by decide +kernel), tyX9_ok, nmX9, rfl, rfl⟩
theorem kf_RX9_68 : FP RX9 68 9 26 (.array .int) true := ⟨(RX9, TX9, 55), tyX9, rfl, by decide, by decide, by decide, hin9, wmi 719 (by decide +kernel) (by decide +kernel), tyX9_ok, nmX9, rfl, rfl⟩
theorem kf_RX9_7 : FP RX9 7 9 3 (.array .int) true := ⟨(RX9, TX9, 55), tyX9, rfl, by decide, by decide, by decide, hin9, wmi 696 (by decide +kernel) (by decide +kernel), tyX9_ok, nmX9, rfl, rfl⟩
theorem kf_RX9_71 : FP RX9 71 9 27 (.array .int) true := ⟨(RX9, TX9, 55), tyX9, rfl, by decide, by decide, by decide, hin9, wmi 720 (by decide +kernel) (by decide +kernel), tyX9_ok, nmX9, rfl, rfl⟩
theorem kf_RX9_74 : FP RX9 74 9 28 (.array .int) true := ⟨(RX9, TX9, 55), tyX9, rfl, by decide, by decide, by decide, hin9, wmi 721 (by decide +kernel) (by decide +kernel), tyX9_ok, nmX9, rfl, rfl⟩
theorem kf_RX9_77 : FP RX9 77 9 29 (.array .int) true := ⟨(RX9, TX9, 55), tyX9, rfl, by decide, by decide, by decide, hin9, wmi 722 (by decide +kernel) (by decide +kernel), tyX9_ok, nmX9, rfl, rfl⟩
theorem kf_RX9_80 : FP RX9 80 9 30 (.array .int) true := ⟨(RX9, TX9, 55), tyX9, rfl, by decide, by decide, by decide, hin9, wmi 723 (by decide +kernel) (by decide +kernel), tyX9_ok, nmX9, rfl, rfl⟩
theorem kf_RX9_83 : FP RX9 83 9 32 (.array .int) true := ⟨(RX9, TX9, 55), tyX9, rfl, by decide, by decide, by decide, hin9, wmi 725 (by decide +kernel) (by decide +kernel), tyX9_ok, nmX9, rfl, rfl⟩
theorem kf_RX9_86 : FP RX9 86 9 38 (.int) false := ⟨(RX9, TX9, 55), tyX9, rfl, by decide, by decide, by decide, hin9, wmi 731 (by decide +kernel) (by decide +kernel), tyX9_ok, nmX9, rfl, rfl⟩
theorem kf_RX9_90 : FP RX9 90 9 41 (.array .int) true := ⟨(RX9, TX9, 55), tyX9, rfl, by decide, by decide, by decide, hin9, wmi 734 (by decide +kernel) (by decide +kernel), tyX9_ok, nmX9, rfl, rfl⟩
theorem kf_RX9_93 : FP RX9 93 9 42 (.array .int) true := ⟨(RX9, TX9, 55), tyX9, rfl, by decide, by decide, by decide, hin9, wmi 735 (by decide +kernel) (by decide +kernel), tyX9_ok, nmX9, rfl, rfl⟩
theorem kf_RX9_96 : FP RX9 96 9 43 (.array .boolean) true := ⟨(RX9, TX9, 55), tyX9, rfl, by decide, by decide, by decide, hin9, wmi 736 (by decide +kernel) (by decide +kernel), tyX9_ok, nmX9, rfl, rfl⟩
theorem kf_RX9_99 : FP RX9 99 9 44 (.array .int) true := ⟨(RX9, TX9, 55), tyX9, rfl, by decide, by decide, by decide, hin9, wmi 737 (by decide +kernel) (by decide +kernel), tyX9_ok, nmX9, rfl, rfl⟩
theorem kc_X0_init : Cond.code yX0_init cX0_init 1 none ∈ wAll := wmi 83 (by decide +kernel) (by decide +kernel)
theorem ki_X0_init : Cond.instanceMethod yX0_init ∈ wAll := wmi 82 (by decide +kernel) (by decide +kernel)
theorem kc_X0_add : Cond.code yX0_add cX0_add 2 none ∈ wAll := wmi 278 (by decide +kernel) (by decide +kernel)
theorem ki_X0_add : Cond.instanceMethod yX0_add ∈ wAll := wmi 276 (by decide +kernel) (by decide +kernel)
theorem ks_X0_add : Cond.selects yX0_add.cls yX0_add yX0_add ∈ lw_tbl := List.mem_of_getElem? (i := 277) (by decide +kernel)
theorem ksg_X0_add : goodWord (Cond.selects yX0_add.cls yX0_add yX0_add) = true := by decide +kernel
theorem kc_X0_isFull : Cond.code yX0_isFull cX0_isFull 1 (some .boolean) ∈ wAll := wmi 223 (by decide +kernel) (by decide +kernel)
theorem ki_X0_isFull : Cond.instanceMethod yX0_isFull ∈ wAll := wmi 221 (by decide +kernel) (by decide +kernel)
theorem ks_X0_isFull : Cond.selects yX0_isFull.cls yX0_isFull yX0_isFull ∈ lw_tbl := List.mem_of_getElem? (i := 222) (by decide +kernel)
theorem ksg_X0_isFull : goodWord (Cond.selects yX0_isFull.cls yX0_isFull yX0_isFull) = true := by decide +kernel
theorem kc_X0_length : Cond.code yX0_length cX0_length 1 (some .int) ∈ wAll := wmi 656 (by decide +kernel) (by decide +kernel)
theorem ki_X0_length : Cond.instanceMethod yX0_length ∈ wAll := wmi 654 (by decide +kernel) (by decide +kernel)
theorem ks_X0_length : Cond.selects yX0_length.cls yX0_length yX0_length ∈ lw_tbl := List.mem_of_getElem? (i := 655) (by decide +kernel)
theorem ksg_X0_length : goodWord (Cond.selects yX0_length.cls yX0_length yX0_length) = true := by decide +kernel
theorem kc_X0_replay : Cond.code yX0_replay cX0_replay 5 none ∈ wAll := wmi 660 (by decide +kernel) (by decide +kernel)
theorem ki_X0_replay : Cond.instanceMethod yX0_replay ∈ wAll := wmi 658 (by decide +kernel) (by decide +kernel)
theorem ks_X0_replay : Cond.selects yX0_replay.cls yX0_replay yX0_replay ∈ lw_tbl := List.mem_of_getElem? (i := 659) (by decide +kernel)
theorem ksg_X0_replay : goodWord (Cond.selects yX0_replay.cls yX0_replay yX0_replay) = true := by decide +kernel
theorem kc_X1_init : Cond.code yX1_init cX1_init 1 none ∈ wAll := wmi 141 (by decide +kernel) (by decide +kernel)
theorem ki_X1_init : Cond.instanceMethod yX1_init ∈ wAll := wmi 140 (by decide +kernel) (by decide +kernel)
theorem kc_X1_add : Cond.code yX1_add cX1_add 2 none ∈ wAll := wmi 521 (by decide +kernel) (by decide +kernel)
theorem ki_X1_add : Cond.instanceMethod yX1_add ∈ wAll := wmi 520 (by decide +kernel) (by decide +kernel)
theorem ks_X1_add : Cond.selects yX1_add.cls yX1_add yX1_add ∈ lw_tbl := List.mem_of_getElem? (i := 16) (by decide +kernel)
theorem ksg_X1_add : goodWord (Cond.selects yX1_add.cls yX1_add yX1_add) = true := by decide +kernel
theorem kc_X1_addDown : Cond.code yX1_addDown cX1_addDown 11 none ∈ wAll := wmi 557 (by decide +kernel) (by decide +kernel)
theorem ki_X1_addDown : Cond.instanceMethod yX1_addDown ∈ wAll := wmi 556 (by decide +kernel) (by decide +kernel)
theorem ks_X1_addDown : Cond.selects yX1_addDown.cls yX1_addDown yX1_addDown ∈ lw_tbl := List.mem_of_getElem? (i := 19) (by decide +kernel)
theorem ksg_X1_addDown : goodWord (Cond.selects yX1_addDown.cls yX1_addDown yX1_addDown) = true := by decide +kernel
theorem kc_X1_addPart : Cond.code yX1_addPart cX1_addPart 11 none ∈ wAll := wmi 513 (by decide +kernel) (by decide +kernel)
theorem ki_X1_addPart : Cond.instanceMethod yX1_addPart ∈ wAll := wmi 512 (by decide +kernel) (by decide +kernel)
theorem ks_X1_addPart : Cond.selects yX1_addPart.cls yX1_addPart yX1_addPart ∈ lw_tbl := List.mem_of_getElem? (i := 14) (by decide +kernel)
theorem ksg_X1_addPart : goodWord (Cond.selects yX1_addPart.cls yX1_addPart yX1_addPart) = true := by decide +kernel
theorem kc_X1_addUp : Cond.code yX1_addUp cX1_addUp 8 none ∈ wAll := wmi 541 (by decide +kernel) (by decide +kernel)
theorem ki_X1_addUp : Cond.instanceMethod yX1_addUp ∈ wAll := wmi 540 (by decide +kernel) (by decide +kernel)
theorem ks_X1_addUp : Cond.selects yX1_addUp.cls yX1_addUp yX1_addUp ∈ lw_tbl := List.mem_of_getElem? (i := 18) (by decide +kernel)
theorem ksg_X1_addUp : goodWord (Cond.selects yX1_addUp.cls yX1_addUp yX1_addUp) = true := by decide +kernel
theorem kc_X1_at : Cond.code yX1_at cX1_at 2 (some .int) ∈ wAll := wmi 570 (by decide +kernel) (by decide +kernel)
theorem ki_X1_at : Cond.instanceMethod yX1_at ∈ wAll := wmi 568 (by decide +kernel) (by decide +kernel)
theorem ks_X1_at : Cond.selects yX1_at.cls yX1_at yX1_at ∈ lw_tbl := List.mem_of_getElem? (i := 569) (by decide +kernel)
theorem ksg_X1_at : goodWord (Cond.selects yX1_at.cls yX1_at yX1_at) = true := by decide +kernel
theorem kc_X1_gather : Cond.code yX1_gather cX1_gather 5 none ∈ wAll := wmi 504 (by decide +kernel) (by decide +kernel)
theorem ki_X1_gather : Cond.instanceMethod yX1_gather ∈ wAll := wmi 502 (by decide +kernel) (by decide +kernel)
theorem ks_X1_gather : Cond.selects yX1_gather.cls yX1_gather yX1_gather ∈ lw_tbl := List.mem_of_getElem? (i := 503) (by decide +kernel)
theorem ksg_X1_gather : goodWord (Cond.selects yX1_gather.cls yX1_gather yX1_gather) = true := by decide +kernel
theorem kc_X1_hasMarksOf : Cond.code yX1_hasMarksOf cX1_hasMarksOf 3 (some .boolean) ∈ wAll := wmi 608 (by decide +kernel) (by decide +kernel)
theorem ki_X1_hasMarksOf : Cond.instanceMethod yX1_hasMarksOf ∈ wAll := wmi 606 (by decide +kernel) (by decide +kernel)
theorem ks_X1_hasMarksOf : Cond.selects yX1_hasMarksOf.cls yX1_hasMarksOf yX1_hasMarksOf ∈ lw_tbl := List.mem_of_getElem? (i := 607) (by decide +kernel)
theorem ksg_X1_hasMarksOf : goodWord (Cond.selects yX1_hasMarksOf.cls yX1_hasMarksOf yX1_hasMarksOf) = true := by decide +kernel
theorem kc_X1_isFull : Cond.code yX1_isFull cX1_isFull 1 (some .boolean) ∈ wAll := wmi 517 (by decide +kernel) (by decide +kernel)
theorem ki_X1_isFull : Cond.instanceMethod yX1_isFull ∈ wAll := wmi 516 (by decide +kernel) (by decide +kernel)
theorem ks_X1_isFull : Cond.selects yX1_isFull.cls yX1_isFull yX1_isFull ∈ lw_tbl := List.mem_of_getElem? (i := 15) (by decide +kernel)
theorem ksg_X1_isFull : goodWord (Cond.selects yX1_isFull.cls yX1_isFull yX1_isFull) = true := by decide +kernel
theorem kc_X1_isValueAt : Cond.code yX1_isValueAt cX1_isValueAt 2 (some .boolean) ∈ wAll := wmi 633 (by decide +kernel) (by decide +kernel)
theorem ki_X1_isValueAt : Cond.instanceMethod yX1_isValueAt ∈ wAll := wmi 631 (by decide +kernel) (by decide +kernel)
theorem ks_X1_isValueAt : Cond.selects yX1_isValueAt.cls yX1_isValueAt yX1_isValueAt ∈ lw_tbl := List.mem_of_getElem? (i := 632) (by decide +kernel)
theorem ksg_X1_isValueAt : goodWord (Cond.selects yX1_isValueAt.cls yX1_isValueAt yX1_isValueAt) = true := by decide +kernel
theorem kc_X1_length : Cond.code yX1_length cX1_length 1 (some .int) ∈ wAll := wmi 562 (by decide +kernel) (by decide +kernel)
theorem ki_X1_length : Cond.instanceMethod yX1_length ∈ wAll := wmi 560 (by decide +kernel) (by decide +kernel)
theorem ks_X1_length : Cond.selects yX1_length.cls yX1_length yX1_length ∈ lw_tbl := List.mem_of_getElem? (i := 561) (by decide +kernel)
theorem ksg_X1_length : goodWord (Cond.selects yX1_length.cls yX1_length yX1_length) = true := by decide +kernel
theorem kc_X1_put : Cond.code yX1_put cX1_put 3 none ∈ wAll := wmi 644 (by decide +kernel) (by decide +kernel)
theorem ki_X1_put : Cond.instanceMethod yX1_put ∈ wAll := wmi 642 (by decide +kernel) (by decide +kernel)
theorem ks_X1_put : Cond.selects yX1_put.cls yX1_put yX1_put ∈ lw_tbl := List.mem_of_getElem? (i := 643) (by decide +kernel)
theorem ksg_X1_put : goodWord (Cond.selects yX1_put.cls yX1_put yX1_put) = true := by decide +kernel
theorem kc_X1_rowAround : Cond.code yX1_rowAround cX1_rowAround 5 (some .int) ∈ wAll := wmi 638 (by decide +kernel) (by decide +kernel)
theorem ki_X1_rowAround : Cond.instanceMethod yX1_rowAround ∈ wAll := wmi 636 (by decide +kernel) (by decide +kernel)
theorem ks_X1_rowAround : Cond.selects yX1_rowAround.cls yX1_rowAround yX1_rowAround ∈ lw_tbl := List.mem_of_getElem? (i := 637) (by decide +kernel)
theorem ksg_X1_rowAround : goodWord (Cond.selects yX1_rowAround.cls yX1_rowAround yX1_rowAround) = true := by decide +kernel
theorem kc_X1_takeFrom : Cond.code yX1_takeFrom cX1_takeFrom 3 none ∈ wAll := wmi 613 (by decide +kernel) (by decide +kernel)
theorem ki_X1_takeFrom : Cond.instanceMethod yX1_takeFrom ∈ wAll := wmi 611 (by decide +kernel) (by decide +kernel)
theorem ks_X1_takeFrom : Cond.selects yX1_takeFrom.cls yX1_takeFrom yX1_takeFrom ∈ lw_tbl := List.mem_of_getElem? (i := 612) (by decide +kernel)
theorem ksg_X1_takeFrom : goodWord (Cond.selects yX1_takeFrom.cls yX1_takeFrom yX1_takeFrom) = true := by decide +kernel
theorem kc_X2_init : Cond.code yX2_init cX2_init 3 none ∈ wAll := wmi 354 (by decide +kernel) (by decide +kernel)
theorem ki_X2_init : Cond.instanceMethod yX2_init ∈ wAll := wmi 353 (by decide +kernel) (by decide +kernel)
theorem kc_X2_advance : Cond.code yX2_advance cX2_advance 4 none ∈ wAll := wmi 376 (by decide +kernel) (by decide +kernel)
theorem ki_X2_advance : Cond.instanceMethod yX2_advance ∈ wAll := wmi 375 (by decide +kernel) (by decide +kernel)
theorem ks_X2_advance : Cond.selects yX2_advance.cls yX2_advance yX2_advance ∈ lw_tbl := List.mem_of_getElem? (i := 5) (by decide +kernel)
theorem ksg_X2_advance : goodWord (Cond.selects yX2_advance.cls yX2_advance yX2_advance) = true := by decide +kernel
theorem kc_X2_isAtEnd : Cond.code yX2_isAtEnd cX2_isAtEnd 1 (some .boolean) ∈ wAll := wmi 485 (by decide +kernel) (by decide +kernel)
theorem ki_X2_isAtEnd : Cond.instanceMethod yX2_isAtEnd ∈ wAll := wmi 484 (by decide +kernel) (by decide +kernel)
theorem ks_X2_isAtEnd : Cond.selects yX2_isAtEnd.cls yX2_isAtEnd yX2_isAtEnd ∈ lw_tbl := List.mem_of_getElem? (i := 13) (by decide +kernel)
theorem ksg_X2_isAtEnd : goodWord (Cond.selects yX2_isAtEnd.cls yX2_isAtEnd yX2_isAtEnd) = true := by decide +kernel
theorem kc_X2_isDigit : Cond.code yX2_isDigit cX2_isDigit 1 (some .boolean) ∈ wAll := wmi 386 (by decide +kernel) (by decide +kernel)
theorem ki_X2_isDigit : Cond.static yX2_isDigit ∈ wAll := wmi 385 (by decide +kernel) (by decide +kernel)
theorem kc_X2_isLetter : Cond.code yX2_isLetter cX2_isLetter 1 (some .boolean) ∈ wAll := wmi 383 (by decide +kernel) (by decide +kernel)
theorem ki_X2_isLetter : Cond.static yX2_isLetter ∈ wAll := wmi 382 (by decide +kernel) (by decide +kernel)
theorem kc_X2_isSign : Cond.code yX2_isSign cX2_isSign 2 (some .boolean) ∈ wAll := wmi 410 (by decide +kernel) (by decide +kernel)
theorem ki_X2_isSign : Cond.instanceMethod yX2_isSign ∈ wAll := wmi 409 (by decide +kernel) (by decide +kernel)
theorem ks_X2_isSign : Cond.selects yX2_isSign.cls yX2_isSign yX2_isSign ∈ lw_tbl := List.mem_of_getElem? (i := 8) (by decide +kernel)
theorem ksg_X2_isSign : goodWord (Cond.selects yX2_isSign.cls yX2_isSign yX2_isSign) = true := by decide +kernel
theorem kc_X2_isWord : Cond.code yX2_isWord cX2_isWord 3 (some .boolean) ∈ wAll := wmi 423 (by decide +kernel) (by decide +kernel)
theorem ki_X2_isWord : Cond.instanceMethod yX2_isWord ∈ wAll := wmi 422 (by decide +kernel) (by decide +kernel)
theorem ks_X2_isWord : Cond.selects yX2_isWord.cls yX2_isWord yX2_isWord ∈ lw_tbl := List.mem_of_getElem? (i := 11) (by decide +kernel)
theorem ksg_X2_isWord : goodWord (Cond.selects yX2_isWord.cls yX2_isWord yX2_isWord) = true := by decide +kernel
theorem kc_X2_place : Cond.code yX2_place cX2_place 1 (some .int) ∈ wAll := wmi 490 (by decide +kernel) (by decide +kernel)
theorem ki_X2_place : Cond.instanceMethod yX2_place ∈ wAll := wmi 488 (by decide +kernel) (by decide +kernel)
theorem ks_X2_place : Cond.selects yX2_place.cls yX2_place yX2_place ∈ lw_tbl := List.mem_of_getElem? (i := 489) (by decide +kernel)
theorem ksg_X2_place : goodWord (Cond.selects yX2_place.cls yX2_place yX2_place) = true := by decide +kernel
theorem kc_X2_readItem : Cond.code yX2_readItem cX2_readItem 5 (some .boolean) ∈ wAll := wmi 418 (by decide +kernel) (by decide +kernel)
theorem ki_X2_readItem : Cond.instanceMethod yX2_readItem ∈ wAll := wmi 417 (by decide +kernel) (by decide +kernel)
theorem ks_X2_readItem : Cond.selects yX2_readItem.cls yX2_readItem yX2_readItem ∈ lw_tbl := List.mem_of_getElem? (i := 10) (by decide +kernel)
theorem ksg_X2_readItem : goodWord (Cond.selects yX2_readItem.cls yX2_readItem yX2_readItem) = true := by decide +kernel
theorem kc_X2_readItems : Cond.code yX2_readItems cX2_readItems 5 (some .boolean) ∈ wAll := wmi 414 (by decide +kernel) (by decide +kernel)
theorem ki_X2_readItems : Cond.instanceMethod yX2_readItems ∈ wAll := wmi 413 (by decide +kernel) (by decide +kernel)
theorem ks_X2_readItems : Cond.selects yX2_readItems.cls yX2_readItems yX2_readItems ∈ lw_tbl := List.mem_of_getElem? (i := 9) (by decide +kernel)
theorem ksg_X2_readItems : goodWord (Cond.selects yX2_readItems.cls yX2_readItems yX2_readItems) = true := by decide +kernel
theorem kc_X2_readPart : Cond.code yX2_readPart cX2_readPart 4 (some .boolean) ∈ wAll := wmi 390 (by decide +kernel) (by decide +kernel)
theorem ki_X2_readPart : Cond.instanceMethod yX2_readPart ∈ wAll := wmi 389 (by decide +kernel) (by decide +kernel)
theorem ks_X2_readPart : Cond.selects yX2_readPart.cls yX2_readPart yX2_readPart ∈ lw_tbl := List.mem_of_getElem? (i := 6) (by decide +kernel)
theorem ksg_X2_readPart : goodWord (Cond.selects yX2_readPart.cls yX2_readPart yX2_readPart) = true := by decide +kernel
theorem kc_X2_readText : Cond.code yX2_readText cX2_readText 1 (some .boolean) ∈ wAll := wmi 372 (by decide +kernel) (by decide +kernel)
theorem ki_X2_readText : Cond.instanceMethod yX2_readText ∈ wAll := wmi 370 (by decide +kernel) (by decide +kernel)
theorem ks_X2_readText : Cond.selects yX2_readText.cls yX2_readText yX2_readText ∈ lw_tbl := List.mem_of_getElem? (i := 371) (by decide +kernel)
theorem ksg_X2_readText : goodWord (Cond.selects yX2_readText.cls yX2_readText yX2_readText) = true := by decide +kernel
theorem kc_X2_referenceHere : Cond.code yX2_referenceHere cX2_referenceHere 2 (some .int) ∈ wAll := wmi 481 (by decide +kernel) (by decide +kernel)
theorem ki_X2_referenceHere : Cond.instanceMethod yX2_referenceHere ∈ wAll := wmi 480 (by decide +kernel) (by decide +kernel)
theorem ks_X2_referenceHere : Cond.selects yX2_referenceHere.cls yX2_referenceHere yX2_referenceHere ∈ lw_tbl := List.mem_of_getElem? (i := 12) (by decide +kernel)
theorem ksg_X2_referenceHere : goodWord (Cond.selects yX2_referenceHere.cls yX2_referenceHere yX2_referenceHere) = true := by decide +kernel
theorem kc_X2_tableHere : Cond.code yX2_tableHere cX2_tableHere 2 (some .int) ∈ wAll := wmi 394 (by decide +kernel) (by decide +kernel)
theorem ki_X2_tableHere : Cond.instanceMethod yX2_tableHere ∈ wAll := wmi 393 (by decide +kernel) (by decide +kernel)
theorem ks_X2_tableHere : Cond.selects yX2_tableHere.cls yX2_tableHere yX2_tableHere ∈ lw_tbl := List.mem_of_getElem? (i := 7) (by decide +kernel)
theorem ksg_X2_tableHere : goodWord (Cond.selects yX2_tableHere.cls yX2_tableHere yX2_tableHere) = true := by decide +kernel
theorem kc_X3_init : Cond.code yX3_init cX3_init 2 none ∈ wAll := wmi 588 (by decide +kernel) (by decide +kernel)
theorem ki_X3_init : Cond.instanceMethod yX3_init ∈ wAll := wmi 587 (by decide +kernel) (by decide +kernel)
theorem kc_X4_init : Cond.code yX4_init cX4_init 7 none ∈ wAll := wmi 232 (by decide +kernel) (by decide +kernel)
theorem ki_X4_init : Cond.instanceMethod yX4_init ∈ wAll := wmi 231 (by decide +kernel) (by decide +kernel)
theorem kc_X4_gone : Cond.code yX4_gone cX4_gone 1 (some (.object "PaperRows$Row")) ∈ wAll := wmi 308 (by decide +kernel) (by decide +kernel)
theorem ki_X4_gone : Cond.instanceMethod yX4_gone ∈ wAll := wmi 306 (by decide +kernel) (by decide +kernel)
theorem ks_X4_gone : Cond.selects yX4_gone.cls yX4_gone yX4_gone ∈ lw_tbl := List.mem_of_getElem? (i := 307) (by decide +kernel)
theorem ksg_X4_gone : goodWord (Cond.selects yX4_gone.cls yX4_gone yX4_gone) = true := by decide +kernel
theorem kc_X4_referenceBy : Cond.code yX4_referenceBy cX4_referenceBy 2 (some .int) ∈ wAll := wmi 553 (by decide +kernel) (by decide +kernel)
theorem ki_X4_referenceBy : Cond.instanceMethod yX4_referenceBy ∈ wAll := wmi 551 (by decide +kernel) (by decide +kernel)
theorem ks_X4_referenceBy : Cond.selects yX4_referenceBy.cls yX4_referenceBy yX4_referenceBy ∈ lw_tbl := List.mem_of_getElem? (i := 552) (by decide +kernel)
theorem ksg_X4_referenceBy : goodWord (Cond.selects yX4_referenceBy.cls yX4_referenceBy yX4_referenceBy) = true := by decide +kernel
theorem kc_X4_withReference : Cond.code yX4_withReference cX4_withReference 3 (some (.object "PaperRows$Row")) ∈ wAll := wmi 300 (by decide +kernel) (by decide +kernel)
theorem ki_X4_withReference : Cond.instanceMethod yX4_withReference ∈ wAll := wmi 298 (by decide +kernel) (by decide +kernel)
theorem ks_X4_withReference : Cond.selects yX4_withReference.cls yX4_withReference yX4_withReference ∈ lw_tbl := List.mem_of_getElem? (i := 299) (by decide +kernel)
theorem ksg_X4_withReference : goodWord (Cond.selects yX4_withReference.cls yX4_withReference yX4_withReference) = true := by decide +kernel
theorem kc_X4_withValue : Cond.code yX4_withValue cX4_withValue 2 (some (.object "PaperRows$Row")) ∈ wAll := wmi 290 (by decide +kernel) (by decide +kernel)
theorem ki_X4_withValue : Cond.instanceMethod yX4_withValue ∈ wAll := wmi 288 (by decide +kernel) (by decide +kernel)
theorem ks_X4_withValue : Cond.selects yX4_withValue.cls yX4_withValue yX4_withValue ∈ lw_tbl := List.mem_of_getElem? (i := 289) (by decide +kernel)
theorem ksg_X4_withValue : goodWord (Cond.selects yX4_withValue.cls yX4_withValue yX4_withValue) = true := by decide +kernel
theorem kc_X5_init : Cond.code yX5_init cX5_init 1 none ∈ wAll := wmi 68 (by decide +kernel) (by decide +kernel)
theorem ki_X5_init : Cond.instanceMethod yX5_init ∈ wAll := wmi 67 (by decide +kernel) (by decide +kernel)
theorem kc_X5_at : Cond.code yX5_at cX5_at 2 (some (.object "PaperRows$Row")) ∈ wAll := wmi 215 (by decide +kernel) (by decide +kernel)
theorem ki_X5_at : Cond.instanceMethod yX5_at ∈ wAll := wmi 213 (by decide +kernel) (by decide +kernel)
theorem ks_X5_at : Cond.selects yX5_at.cls yX5_at yX5_at ∈ lw_tbl := List.mem_of_getElem? (i := 214) (by decide +kernel)
theorem ksg_X5_at : goodWord (Cond.selects yX5_at.cls yX5_at yX5_at) = true := by decide +kernel
theorem kc_X5_clear : Cond.code yX5_clear cX5_clear 2 none ∈ wAll := wmi 652 (by decide +kernel) (by decide +kernel)
theorem ki_X5_clear : Cond.instanceMethod yX5_clear ∈ wAll := wmi 650 (by decide +kernel) (by decide +kernel)
theorem ks_X5_clear : Cond.selects yX5_clear.cls yX5_clear yX5_clear ∈ lw_tbl := List.mem_of_getElem? (i := 651) (by decide +kernel)
theorem ksg_X5_clear : goodWord (Cond.selects yX5_clear.cls yX5_clear yX5_clear) = true := by decide +kernel
theorem kc_X5_isFull : Cond.code yX5_isFull cX5_isFull 1 (some .boolean) ∈ wAll := wmi 219 (by decide +kernel) (by decide +kernel)
theorem ki_X5_isFull : Cond.instanceMethod yX5_isFull ∈ wAll := wmi 217 (by decide +kernel) (by decide +kernel)
theorem ks_X5_isFull : Cond.selects yX5_isFull.cls yX5_isFull yX5_isFull ∈ lw_tbl := List.mem_of_getElem? (i := 218) (by decide +kernel)
theorem ksg_X5_isFull : goodWord (Cond.selects yX5_isFull.cls yX5_isFull yX5_isFull) = true := by decide +kernel
theorem kc_X5_known : Cond.code yX5_known cX5_known 1 (some .int) ∈ wAll := wmi 227 (by decide +kernel) (by decide +kernel)
theorem ki_X5_known : Cond.instanceMethod yX5_known ∈ wAll := wmi 225 (by decide +kernel) (by decide +kernel)
theorem ks_X5_known : Cond.selects yX5_known.cls yX5_known yX5_known ∈ lw_tbl := List.mem_of_getElem? (i := 226) (by decide +kernel)
theorem ksg_X5_known : goodWord (Cond.selects yX5_known.cls yX5_known yX5_known) = true := by decide +kernel
theorem kc_X5_put : Cond.code yX5_put cX5_put 3 none ∈ wAll := wmi 271 (by decide +kernel) (by decide +kernel)
theorem ki_X5_put : Cond.instanceMethod yX5_put ∈ wAll := wmi 269 (by decide +kernel) (by decide +kernel)
theorem ks_X5_put : Cond.selects yX5_put.cls yX5_put yX5_put ∈ lw_tbl := List.mem_of_getElem? (i := 270) (by decide +kernel)
theorem ksg_X5_put : goodWord (Cond.selects yX5_put.cls yX5_put yX5_put) = true := by decide +kernel
theorem kc_X5_standing : Cond.code yX5_standing cX5_standing 3 (some (.object "PaperRows$Row")) ∈ wAll := wmi 211 (by decide +kernel) (by decide +kernel)
theorem ki_X5_standing : Cond.instanceMethod yX5_standing ∈ wAll := wmi 209 (by decide +kernel) (by decide +kernel)
theorem ks_X5_standing : Cond.selects yX5_standing.cls yX5_standing yX5_standing ∈ lw_tbl := List.mem_of_getElem? (i := 210) (by decide +kernel)
theorem ksg_X5_standing : goodWord (Cond.selects yX5_standing.cls yX5_standing yX5_standing) = true := by decide +kernel
theorem kc_X5_standingOnes : Cond.code yX5_standingOnes cX5_standingOnes 3 (some .int) ∈ wAll := wmi 681 (by decide +kernel) (by decide +kernel)
theorem ki_X5_standingOnes : Cond.instanceMethod yX5_standingOnes ∈ wAll := wmi 679 (by decide +kernel) (by decide +kernel)
theorem ks_X5_standingOnes : Cond.selects yX5_standingOnes.cls yX5_standingOnes yX5_standingOnes ∈ lw_tbl := List.mem_of_getElem? (i := 680) (by decide +kernel)
theorem ksg_X5_standingOnes : goodWord (Cond.selects yX5_standingOnes.cls yX5_standingOnes yX5_standingOnes) = true := by decide +kernel
theorem kc_X5_takeFrom : Cond.code yX5_takeFrom cX5_takeFrom 3 none ∈ wAll := wmi 669 (by decide +kernel) (by decide +kernel)
theorem ki_X5_takeFrom : Cond.instanceMethod yX5_takeFrom ∈ wAll := wmi 667 (by decide +kernel) (by decide +kernel)
theorem ks_X5_takeFrom : Cond.selects yX5_takeFrom.cls yX5_takeFrom yX5_takeFrom ∈ lw_tbl := List.mem_of_getElem? (i := 668) (by decide +kernel)
theorem ksg_X5_takeFrom : goodWord (Cond.selects yX5_takeFrom.cls yX5_takeFrom yX5_takeFrom) = true := by decide +kernel
theorem kc_X6_init : Cond.code yX6_init cX6_init 1 none ∈ wAll := wmi 113 (by decide +kernel) (by decide +kernel)
theorem ki_X6_init : Cond.instanceMethod yX6_init ∈ wAll := wmi 112 (by decide +kernel) (by decide +kernel)
theorem kc_X6_addItem : Cond.code yX6_addItem cX6_addItem 5 none ∈ wAll := wmi 475 (by decide +kernel) (by decide +kernel)
theorem ki_X6_addItem : Cond.instanceMethod yX6_addItem ∈ wAll := wmi 473 (by decide +kernel) (by decide +kernel)
theorem ks_X6_addItem : Cond.selects yX6_addItem.cls yX6_addItem yX6_addItem ∈ lw_tbl := List.mem_of_getElem? (i := 474) (by decide +kernel)
theorem ksg_X6_addItem : goodWord (Cond.selects yX6_addItem.cls yX6_addItem yX6_addItem) = true := by decide +kernel
theorem kc_X6_addPart : Cond.code yX6_addPart cX6_addPart 2 none ∈ wAll := wmi 406 (by decide +kernel) (by decide +kernel)
theorem ki_X6_addPart : Cond.instanceMethod yX6_addPart ∈ wAll := wmi 404 (by decide +kernel) (by decide +kernel)
theorem ks_X6_addPart : Cond.selects yX6_addPart.cls yX6_addPart yX6_addPart ∈ lw_tbl := List.mem_of_getElem? (i := 405) (by decide +kernel)
theorem ksg_X6_addPart : goodWord (Cond.selects yX6_addPart.cls yX6_addPart yX6_addPart) = true := by decide +kernel
theorem kc_X6_clear : Cond.code yX6_clear cX6_clear 1 none ∈ wAll := wmi 349 (by decide +kernel) (by decide +kernel)
theorem ki_X6_clear : Cond.instanceMethod yX6_clear ∈ wAll := wmi 347 (by decide +kernel) (by decide +kernel)
theorem ks_X6_clear : Cond.selects yX6_clear.cls yX6_clear yX6_clear ∈ lw_tbl := List.mem_of_getElem? (i := 348) (by decide +kernel)
theorem ksg_X6_clear : goodWord (Cond.selects yX6_clear.cls yX6_clear yX6_clear) = true := by decide +kernel
theorem kc_X6_hasRoomForPart : Cond.code yX6_hasRoomForPart cX6_hasRoomForPart 1 (some .boolean) ∈ wAll := wmi 398 (by decide +kernel) (by decide +kernel)
theorem ki_X6_hasRoomForPart : Cond.instanceMethod yX6_hasRoomForPart ∈ wAll := wmi 396 (by decide +kernel) (by decide +kernel)
theorem ks_X6_hasRoomForPart : Cond.selects yX6_hasRoomForPart.cls yX6_hasRoomForPart yX6_hasRoomForPart ∈ lw_tbl := List.mem_of_getElem? (i := 397) (by decide +kernel)
theorem ksg_X6_hasRoomForPart : goodWord (Cond.selects yX6_hasRoomForPart.cls yX6_hasRoomForPart yX6_hasRoomForPart) = true := by decide +kernel
theorem kc_X6_isItem : Cond.code yX6_isItem cX6_isItem 2 (some .boolean) ∈ wAll := wmi 533 (by decide +kernel) (by decide +kernel)
theorem ki_X6_isItem : Cond.instanceMethod yX6_isItem ∈ wAll := wmi 532 (by decide +kernel) (by decide +kernel)
theorem ks_X6_isItem : Cond.selects yX6_isItem.cls yX6_isItem yX6_isItem ∈ lw_tbl := List.mem_of_getElem? (i := 17) (by decide +kernel)
theorem ksg_X6_isItem : goodWord (Cond.selects yX6_isItem.cls yX6_isItem yX6_isItem) = true := by decide +kernel
theorem kc_X6_items : Cond.code yX6_items cX6_items 1 (some .int) ∈ wAll := wmi 525 (by decide +kernel) (by decide +kernel)
theorem ki_X6_items : Cond.instanceMethod yX6_items ∈ wAll := wmi 523 (by decide +kernel) (by decide +kernel)
theorem ks_X6_items : Cond.selects yX6_items.cls yX6_items yX6_items ∈ lw_tbl := List.mem_of_getElem? (i := 524) (by decide +kernel)
theorem ksg_X6_items : goodWord (Cond.selects yX6_items.cls yX6_items yX6_items) = true := by decide +kernel
theorem kc_X6_kindOf : Cond.code yX6_kindOf cX6_kindOf 2 (some .int) ∈ wAll := wmi 537 (by decide +kernel) (by decide +kernel)
theorem ki_X6_kindOf : Cond.instanceMethod yX6_kindOf ∈ wAll := wmi 535 (by decide +kernel) (by decide +kernel)
theorem ks_X6_kindOf : Cond.selects yX6_kindOf.cls yX6_kindOf yX6_kindOf ∈ lw_tbl := List.mem_of_getElem? (i := 536) (by decide +kernel)
theorem ksg_X6_kindOf : goodWord (Cond.selects yX6_kindOf.cls yX6_kindOf yX6_kindOf) = true := by decide +kernel
theorem kc_X6_ownerOf : Cond.code yX6_ownerOf cX6_ownerOf 2 (some .int) ∈ wAll := wmi 529 (by decide +kernel) (by decide +kernel)
theorem ki_X6_ownerOf : Cond.instanceMethod yX6_ownerOf ∈ wAll := wmi 527 (by decide +kernel) (by decide +kernel)
theorem ks_X6_ownerOf : Cond.selects yX6_ownerOf.cls yX6_ownerOf yX6_ownerOf ∈ lw_tbl := List.mem_of_getElem? (i := 528) (by decide +kernel)
theorem ksg_X6_ownerOf : goodWord (Cond.selects yX6_ownerOf.cls yX6_ownerOf yX6_ownerOf) = true := by decide +kernel
theorem kc_X6_partWithin : Cond.code yX6_partWithin cX6_partWithin 2 (some .int) ∈ wAll := wmi 545 (by decide +kernel) (by decide +kernel)
theorem ki_X6_partWithin : Cond.instanceMethod yX6_partWithin ∈ wAll := wmi 543 (by decide +kernel) (by decide +kernel)
theorem ks_X6_partWithin : Cond.selects yX6_partWithin.cls yX6_partWithin yX6_partWithin ∈ lw_tbl := List.mem_of_getElem? (i := 544) (by decide +kernel)
theorem ksg_X6_partWithin : goodWord (Cond.selects yX6_partWithin.cls yX6_partWithin yX6_partWithin) = true := by decide +kernel
theorem kc_X6_parts : Cond.code yX6_parts cX6_parts 1 (some .int) ∈ wAll := wmi 402 (by decide +kernel) (by decide +kernel)
theorem ki_X6_parts : Cond.instanceMethod yX6_parts ∈ wAll := wmi 400 (by decide +kernel) (by decide +kernel)
theorem ks_X6_parts : Cond.selects yX6_parts.cls yX6_parts yX6_parts ∈ lw_tbl := List.mem_of_getElem? (i := 401) (by decide +kernel)
theorem ksg_X6_parts : goodWord (Cond.selects yX6_parts.cls yX6_parts yX6_parts) = true := by decide +kernel
theorem kc_X6_referenceOf : Cond.code yX6_referenceOf cX6_referenceOf 2 (some .int) ∈ wAll := wmi 549 (by decide +kernel) (by decide +kernel)
theorem ki_X6_referenceOf : Cond.instanceMethod yX6_referenceOf ∈ wAll := wmi 547 (by decide +kernel) (by decide +kernel)
theorem ks_X6_referenceOf : Cond.selects yX6_referenceOf.cls yX6_referenceOf yX6_referenceOf ∈ lw_tbl := List.mem_of_getElem? (i := 548) (by decide +kernel)
theorem ksg_X6_referenceOf : goodWord (Cond.selects yX6_referenceOf.cls yX6_referenceOf yX6_referenceOf) = true := by decide +kernel
theorem kc_X6_tableOf : Cond.code yX6_tableOf cX6_tableOf 2 (some .int) ∈ wAll := wmi 509 (by decide +kernel) (by decide +kernel)
theorem ki_X6_tableOf : Cond.instanceMethod yX6_tableOf ∈ wAll := wmi 507 (by decide +kernel) (by decide +kernel)
theorem ks_X6_tableOf : Cond.selects yX6_tableOf.cls yX6_tableOf yX6_tableOf ∈ lw_tbl := List.mem_of_getElem? (i := 508) (by decide +kernel)
theorem ksg_X6_tableOf : goodWord (Cond.selects yX6_tableOf.cls yX6_tableOf yX6_tableOf) = true := by decide +kernel
theorem kc_X7_init : Cond.code yX7_init cX7_init 1 none ∈ wAll := wmi 97 (by decide +kernel) (by decide +kernel)
theorem ki_X7_init : Cond.instanceMethod yX7_init ∈ wAll := wmi 96 (by decide +kernel) (by decide +kernel)
theorem kc_X7_addByte : Cond.code yX7_addByte cX7_addByte 2 none ∈ wAll := wmi 329 (by decide +kernel) (by decide +kernel)
theorem ki_X7_addByte : Cond.instanceMethod yX7_addByte ∈ wAll := wmi 328 (by decide +kernel) (by decide +kernel)
theorem ks_X7_addByte : Cond.selects yX7_addByte.cls yX7_addByte yX7_addByte ∈ lw_tbl := List.mem_of_getElem? (i := 4) (by decide +kernel)
theorem ksg_X7_addByte : goodWord (Cond.selects yX7_addByte.cls yX7_addByte yX7_addByte) = true := by decide +kernel
theorem kc_X7_addNumber : Cond.code yX7_addNumber cX7_addNumber 3 none ∈ wAll := wmi 325 (by decide +kernel) (by decide +kernel)
theorem ki_X7_addNumber : Cond.instanceMethod yX7_addNumber ∈ wAll := wmi 323 (by decide +kernel) (by decide +kernel)
theorem ks_X7_addNumber : Cond.selects yX7_addNumber.cls yX7_addNumber yX7_addNumber ∈ lw_tbl := List.mem_of_getElem? (i := 324) (by decide +kernel)
theorem ksg_X7_addNumber : goodWord (Cond.selects yX7_addNumber.cls yX7_addNumber yX7_addNumber) = true := by decide +kernel
theorem kc_X7_byteAt : Cond.code yX7_byteAt cX7_byteAt 2 (some .int) ∈ wAll := wmi 380 (by decide +kernel) (by decide +kernel)
theorem ki_X7_byteAt : Cond.instanceMethod yX7_byteAt ∈ wAll := wmi 378 (by decide +kernel) (by decide +kernel)
theorem ks_X7_byteAt : Cond.selects yX7_byteAt.cls yX7_byteAt yX7_byteAt ∈ lw_tbl := List.mem_of_getElem? (i := 379) (by decide +kernel)
theorem ksg_X7_byteAt : goodWord (Cond.selects yX7_byteAt.cls yX7_byteAt yX7_byteAt) = true := by decide +kernel
theorem kc_X7_cutTo : Cond.code yX7_cutTo cX7_cutTo 2 none ∈ wAll := wmi 337 (by decide +kernel) (by decide +kernel)
theorem ki_X7_cutTo : Cond.instanceMethod yX7_cutTo ∈ wAll := wmi 335 (by decide +kernel) (by decide +kernel)
theorem ks_X7_cutTo : Cond.selects yX7_cutTo.cls yX7_cutTo yX7_cutTo ∈ lw_tbl := List.mem_of_getElem? (i := 336) (by decide +kernel)
theorem ksg_X7_cutTo : goodWord (Cond.selects yX7_cutTo.cls yX7_cutTo yX7_cutTo) = true := by decide +kernel
theorem kc_X7_length : Cond.code yX7_length cX7_length 1 (some .int) ∈ wAll := wmi 321 (by decide +kernel) (by decide +kernel)
theorem ki_X7_length : Cond.instanceMethod yX7_length ∈ wAll := wmi 319 (by decide +kernel) (by decide +kernel)
theorem ks_X7_length : Cond.selects yX7_length.cls yX7_length yX7_length ∈ lw_tbl := List.mem_of_getElem? (i := 320) (by decide +kernel)
theorem ksg_X7_length : goodWord (Cond.selects yX7_length.cls yX7_length yX7_length) = true := by decide +kernel
theorem kc_X8_answered : Cond.code yX8_answered cX8_answered 2 (some .int) ∈ wAll := wmi 282 (by decide +kernel) (by decide +kernel)
theorem ki_X8_answered : Cond.instanceMethod yX8_answered ∈ wAll := wmi 281 (by decide +kernel) (by decide +kernel)
theorem ks_X8_answered : Cond.selects yX8_answered.cls yX8_answered yX8_answered ∈ lw_tbl := List.mem_of_getElem? (i := 3) (by decide +kernel)
theorem ksg_X8_answered : goodWord (Cond.selects yX8_answered.cls yX8_answered yX8_answered) = true := by decide +kernel
theorem kc_X8_canBeReferredTo : Cond.code yX8_canBeReferredTo cX8_canBeReferredTo 2 (some .boolean) ∈ wAll := wmi 207 (by decide +kernel) (by decide +kernel)
theorem ki_X8_canBeReferredTo : Cond.instanceMethod yX8_canBeReferredTo ∈ wAll := wmi 206 (by decide +kernel) (by decide +kernel)
theorem ks_X8_canBeReferredTo : Cond.selects yX8_canBeReferredTo.cls yX8_canBeReferredTo yX8_canBeReferredTo ∈ lw_tbl := List.mem_of_getElem? (i := 1) (by decide +kernel)
theorem ksg_X8_canBeReferredTo : goodWord (Cond.selects yX8_canBeReferredTo.cls yX8_canBeReferredTo yX8_canBeReferredTo) = true := by decide +kernel
theorem kc_X8_isOtherwiseThen : Cond.code yX8_isOtherwiseThen cX8_isOtherwiseThen 2 (some .boolean) ∈ wAll := wmi 673 (by decide +kernel) (by decide +kernel)
theorem ki_X8_isOtherwiseThen : Cond.instanceMethod yX8_isOtherwiseThen ∈ wAll := wmi 672 (by decide +kernel) (by decide +kernel)
theorem ks_X8_isOtherwiseThen : Cond.selects yX8_isOtherwiseThen.cls yX8_isOtherwiseThen yX8_isOtherwiseThen ∈ lw_tbl := List.mem_of_getElem? (i := 21) (by decide +kernel)
theorem ksg_X8_isOtherwiseThen : goodWord (Cond.selects yX8_isOtherwiseThen.cls yX8_isOtherwiseThen yX8_isOtherwiseThen) = true := by decide +kernel
theorem kc_X8_isValue : Cond.code yX8_isValue cX8_isValue 1 (some .boolean) ∈ wAll := wmi 199 (by decide +kernel) (by decide +kernel)
theorem ki_X8_isValue : Cond.static yX8_isValue ∈ wAll := wmi 198 (by decide +kernel) (by decide +kernel)
theorem kc_X8_readerAt : Cond.code yX8_readerAt cX8_readerAt 2 (some (.object "PaperRows$Reader")) ∈ wAll := wmi 621 (by decide +kernel) (by decide +kernel)
theorem ki_X8_readerAt : Cond.instanceMethod yX8_readerAt ∈ wAll := wmi 620 (by decide +kernel) (by decide +kernel)
theorem ks_X8_readerAt : Cond.selects yX8_readerAt.cls yX8_readerAt yX8_readerAt ∈ lw_tbl := List.mem_of_getElem? (i := 20) (by decide +kernel)
theorem ksg_X8_readerAt : goodWord (Cond.selects yX8_readerAt.cls yX8_readerAt yX8_readerAt) = true := by decide +kernel
theorem kc_X8_refused : Cond.code yX8_refused cX8_refused 2 (some .int) ∈ wAll := wmi 203 (by decide +kernel) (by decide +kernel)
theorem ki_X8_refused : Cond.instanceMethod yX8_refused ∈ wAll := wmi 202 (by decide +kernel) (by decide +kernel)
theorem ks_X8_refused : Cond.selects yX8_refused.cls yX8_refused yX8_refused ∈ lw_tbl := List.mem_of_getElem? (i := 0) (by decide +kernel)
theorem ksg_X8_refused : goodWord (Cond.selects yX8_refused.cls yX8_refused yX8_refused) = true := by decide +kernel
theorem kc_X8_tell : Cond.code yX8_tell cX8_tell 2 none ∈ wAll := wmi 267 (by decide +kernel) (by decide +kernel)
theorem ki_X8_tell : Cond.instanceMethod yX8_tell ∈ wAll := wmi 266 (by decide +kernel) (by decide +kernel)
theorem ks_X8_tell : Cond.selects yX8_tell.cls yX8_tell yX8_tell ∈ lw_tbl := List.mem_of_getElem? (i := 2) (by decide +kernel)
theorem ksg_X8_tell : goodWord (Cond.selects yX8_tell.cls yX8_tell yX8_tell) = true := by decide +kernel
theorem kc_X9_begin : Cond.code yX9_begin cX9_begin 3 none ∈ wAll := wmi 972 (by decide +kernel) (by decide +kernel)
theorem ki_X9_begin : Cond.instanceMethod yX9_begin ∈ wAll := wmi 971 (by decide +kernel) (by decide +kernel)
theorem ks_X9_begin : Cond.selects yX9_begin.cls yX9_begin yX9_begin ∈ lw_tbl := List.mem_of_getElem? (i := 34) (by decide +kernel)
theorem ksg_X9_begin : goodWord (Cond.selects yX9_begin.cls yX9_begin yX9_begin) = true := by decide +kernel
theorem kc_X9_four : Cond.code yX9_four cX9_four 3 none ∈ wAll := wmi 912 (by decide +kernel) (by decide +kernel)
theorem ki_X9_four : Cond.instanceMethod yX9_four ∈ wAll := wmi 911 (by decide +kernel) (by decide +kernel)
theorem ks_X9_four : Cond.selects yX9_four.cls yX9_four yX9_four ∈ lw_tbl := List.mem_of_getElem? (i := 26) (by decide +kernel)
theorem ksg_X9_four : goodWord (Cond.selects yX9_four.cls yX9_four yX9_four) = true := by decide +kernel
theorem kc_X9_goOne : Cond.code yX9_goOne cX9_goOne 3 none ∈ wAll := wmi 888 (by decide +kernel) (by decide +kernel)
theorem ki_X9_goOne : Cond.instanceMethod yX9_goOne ∈ wAll := wmi 887 (by decide +kernel) (by decide +kernel)
theorem ks_X9_goOne : Cond.selects yX9_goOne.cls yX9_goOne yX9_goOne ∈ lw_tbl := List.mem_of_getElem? (i := 25) (by decide +kernel)
theorem ksg_X9_goOne : goodWord (Cond.selects yX9_goOne.cls yX9_goOne yX9_goOne) = true := by decide +kernel
theorem kc_X9_goTo : Cond.code yX9_goTo cX9_goTo 3 none ∈ wAll := wmi 998 (by decide +kernel) (by decide +kernel)
theorem ki_X9_goTo : Cond.instanceMethod yX9_goTo ∈ wAll := wmi 997 (by decide +kernel) (by decide +kernel)
theorem ks_X9_goTo : Cond.selects yX9_goTo.cls yX9_goTo yX9_goTo ∈ lw_tbl := List.mem_of_getElem? (i := 37) (by decide +kernel)
theorem ksg_X9_goTo : goodWord (Cond.selects yX9_goTo.cls yX9_goTo yX9_goTo) = true := by decide +kernel
theorem kc_X9_in : Cond.code yX9_in cX9_in 6 (some .boolean) ∈ wAll := wmi 867 (by decide +kernel) (by decide +kernel)
theorem ki_X9_in : Cond.static yX9_in ∈ wAll := wmi 866 (by decide +kernel) (by decide +kernel)
theorem kc_X9_isDigit : Cond.code yX9_isDigit cX9_isDigit 1 (some .boolean) ∈ wAll := wmi 930 (by decide +kernel) (by decide +kernel)
theorem ki_X9_isDigit : Cond.static yX9_isDigit ∈ wAll := wmi 929 (by decide +kernel) (by decide +kernel)
theorem kc_X9_isHeld : Cond.code yX9_isHeld cX9_isHeld 4 (some .boolean) ∈ wAll := wmi 1010 (by decide +kernel) (by decide +kernel)
theorem ki_X9_isHeld : Cond.instanceMethod yX9_isHeld ∈ wAll := wmi 1009 (by decide +kernel) (by decide +kernel)
theorem ks_X9_isHeld : Cond.selects yX9_isHeld.cls yX9_isHeld yX9_isHeld ∈ lw_tbl := List.mem_of_getElem? (i := 38) (by decide +kernel)
theorem ksg_X9_isHeld : goodWord (Cond.selects yX9_isHeld.cls yX9_isHeld yX9_isHeld) = true := by decide +kernel
theorem kc_X9_isReader : Cond.code yX9_isReader cX9_isReader 2 (some .boolean) ∈ wAll := wmi 1018 (by decide +kernel) (by decide +kernel)
theorem ki_X9_isReader : Cond.instanceMethod yX9_isReader ∈ wAll := wmi 1017 (by decide +kernel) (by decide +kernel)
theorem ks_X9_isReader : Cond.selects yX9_isReader.cls yX9_isReader yX9_isReader ∈ lw_tbl := List.mem_of_getElem? (i := 39) (by decide +kernel)
theorem ksg_X9_isReader : goodWord (Cond.selects yX9_isReader.cls yX9_isReader yX9_isReader) = true := by decide +kernel
theorem kc_X9_isRow : Cond.code yX9_isRow cX9_isRow 2 (some .boolean) ∈ wAll := wmi 880 (by decide +kernel) (by decide +kernel)
theorem ki_X9_isRow : Cond.instanceMethod yX9_isRow ∈ wAll := wmi 879 (by decide +kernel) (by decide +kernel)
theorem ks_X9_isRow : Cond.selects yX9_isRow.cls yX9_isRow yX9_isRow ∈ lw_tbl := List.mem_of_getElem? (i := 23) (by decide +kernel)
theorem ksg_X9_isRow : goodWord (Cond.selects yX9_isRow.cls yX9_isRow yX9_isRow) = true := by decide +kernel
theorem kc_X9_isSign : Cond.code yX9_isSign cX9_isSign 2 (some .boolean) ∈ wAll := wmi 948 (by decide +kernel) (by decide +kernel)
theorem ki_X9_isSign : Cond.instanceMethod yX9_isSign ∈ wAll := wmi 947 (by decide +kernel) (by decide +kernel)
theorem ks_X9_isSign : Cond.selects yX9_isSign.cls yX9_isSign yX9_isSign ∈ lw_tbl := List.mem_of_getElem? (i := 30) (by decide +kernel)
theorem ksg_X9_isSign : goodWord (Cond.selects yX9_isSign.cls yX9_isSign yX9_isSign) = true := by decide +kernel
theorem kc_X9_isSmall : Cond.code yX9_isSmall cX9_isSmall 1 (some .boolean) ∈ wAll := wmi 927 (by decide +kernel) (by decide +kernel)
theorem ki_X9_isSmall : Cond.static yX9_isSmall ∈ wAll := wmi 926 (by decide +kernel) (by decide +kernel)
theorem kc_X9_isValue : Cond.code yX9_isValue cX9_isValue 1 (some .boolean) ∈ wAll := wmi 870 (by decide +kernel) (by decide +kernel)
theorem ki_X9_isValue : Cond.static yX9_isValue ∈ wAll := wmi 869 (by decide +kernel) (by decide +kernel)
theorem kc_X9_isWord : Cond.code yX9_isWord cX9_isWord 7 (some .boolean) ∈ wAll := wmi 956 (by decide +kernel) (by decide +kernel)
theorem ki_X9_isWord : Cond.instanceMethod yX9_isWord ∈ wAll := wmi 955 (by decide +kernel) (by decide +kernel)
theorem ks_X9_isWord : Cond.selects yX9_isWord.cls yX9_isWord yX9_isWord ∈ lw_tbl := List.mem_of_getElem? (i := 32) (by decide +kernel)
theorem ksg_X9_isWord : goodWord (Cond.selects yX9_isWord.cls yX9_isWord yX9_isWord) = true := by decide +kernel
theorem kc_X9_make : Cond.code yX9_make cX9_make 5 none ∈ wAll := wmi 968 (by decide +kernel) (by decide +kernel)
theorem ki_X9_make : Cond.instanceMethod yX9_make ∈ wAll := wmi 967 (by decide +kernel) (by decide +kernel)
theorem ks_X9_make : Cond.selects yX9_make.cls yX9_make yX9_make ∈ lw_tbl := List.mem_of_getElem? (i := 33) (by decide +kernel)
theorem ksg_X9_make : goodWord (Cond.selects yX9_make.cls yX9_make yX9_make) = true := by decide +kernel
theorem kc_X9_must : Cond.code yX9_must cX9_must 2 none ∈ wAll := wmi 944 (by decide +kernel) (by decide +kernel)
theorem ki_X9_must : Cond.instanceMethod yX9_must ∈ wAll := wmi 943 (by decide +kernel) (by decide +kernel)
theorem ks_X9_must : Cond.selects yX9_must.cls yX9_must yX9_must ∈ lw_tbl := List.mem_of_getElem? (i := 29) (by decide +kernel)
theorem ksg_X9_must : goodWord (Cond.selects yX9_must.cls yX9_must yX9_must) = true := by decide +kernel
theorem kc_X9_next : Cond.code yX9_next cX9_next 1 none ∈ wAll := wmi 924 (by decide +kernel) (by decide +kernel)
theorem ki_X9_next : Cond.instanceMethod yX9_next ∈ wAll := wmi 923 (by decide +kernel) (by decide +kernel)
theorem ks_X9_next : Cond.selects yX9_next.cls yX9_next yX9_next ∈ lw_tbl := List.mem_of_getElem? (i := 27) (by decide +kernel)
theorem ksg_X9_next : goodWord (Cond.selects yX9_next.cls yX9_next yX9_next) = true := by decide +kernel
theorem kc_X9_nextRow : Cond.code yX9_nextRow cX9_nextRow 6 (some .int) ∈ wAll := wmi 980 (by decide +kernel) (by decide +kernel)
theorem ki_X9_nextRow : Cond.instanceMethod yX9_nextRow ∈ wAll := wmi 979 (by decide +kernel) (by decide +kernel)
theorem ks_X9_nextRow : Cond.selects yX9_nextRow.cls yX9_nextRow yX9_nextRow ∈ lw_tbl := List.mem_of_getElem? (i := 36) (by decide +kernel)
theorem ksg_X9_nextRow : goodWord (Cond.selects yX9_nextRow.cls yX9_nextRow yX9_nextRow) = true := by decide +kernel
theorem kc_X9_readItem : Cond.code yX9_readItem cX9_readItem 5 (some .boolean) ∈ wAll := wmi 952 (by decide +kernel) (by decide +kernel)
theorem ki_X9_readItem : Cond.instanceMethod yX9_readItem ∈ wAll := wmi 951 (by decide +kernel) (by decide +kernel)
theorem ks_X9_readItem : Cond.selects yX9_readItem.cls yX9_readItem yX9_readItem ∈ lw_tbl := List.mem_of_getElem? (i := 31) (by decide +kernel)
theorem ksg_X9_readItem : goodWord (Cond.selects yX9_readItem.cls yX9_readItem yX9_readItem) = true := by decide +kernel
theorem kc_X9_readPart : Cond.code yX9_readPart cX9_readPart 3 (some .boolean) ∈ wAll := wmi 939 (by decide +kernel) (by decide +kernel)
theorem ki_X9_readPart : Cond.instanceMethod yX9_readPart ∈ wAll := wmi 938 (by decide +kernel) (by decide +kernel)
theorem ks_X9_readPart : Cond.selects yX9_readPart.cls yX9_readPart yX9_readPart ∈ lw_tbl := List.mem_of_getElem? (i := 28) (by decide +kernel)
theorem ksg_X9_readPart : goodWord (Cond.selects yX9_readPart.cls yX9_readPart yX9_readPart) = true := by decide +kernel
theorem kc_X9_tell : Cond.code yX9_tell cX9_tell 7 none ∈ wAll := wmi 884 (by decide +kernel) (by decide +kernel)
theorem ki_X9_tell : Cond.instanceMethod yX9_tell ∈ wAll := wmi 883 (by decide +kernel) (by decide +kernel)
theorem ks_X9_tell : Cond.selects yX9_tell.cls yX9_tell yX9_tell ∈ lw_tbl := List.mem_of_getElem? (i := 24) (by decide +kernel)
theorem ksg_X9_tell : goodWord (Cond.selects yX9_tell.cls yX9_tell yX9_tell) = true := by decide +kernel
theorem kc_X9_told : Cond.code yX9_told cX9_told 2 (some .int) ∈ wAll := wmi 876 (by decide +kernel) (by decide +kernel)
theorem ki_X9_told : Cond.instanceMethod yX9_told ∈ wAll := wmi 875 (by decide +kernel) (by decide +kernel)
theorem ks_X9_told : Cond.selects yX9_told.cls yX9_told yX9_told ∈ lw_tbl := List.mem_of_getElem? (i := 22) (by decide +kernel)
theorem ksg_X9_told : goodWord (Cond.selects yX9_told.cls yX9_told yX9_told) = true := by decide +kernel
theorem kc_X9_write : Cond.code yX9_write cX9_write 3 none ∈ wAll := wmi 976 (by decide +kernel) (by decide +kernel)
theorem ki_X9_write : Cond.instanceMethod yX9_write ∈ wAll := wmi 975 (by decide +kernel) (by decide +kernel)
theorem ks_X9_write : Cond.selects yX9_write.cls yX9_write yX9_write ∈ lw_tbl := List.mem_of_getElem? (i := 35) (by decide +kernel)
theorem ksg_X9_write : goodWord (Cond.selects yX9_write.cls yX9_write yX9_write) = true := by decide +kernel
theorem kl_RX0_3 : Cond.methodLink RX0 3 objectInit ∈ wAll := wmi 84 (by decide +kernel) (by decide +kernel)
theorem kl_RX1_3 : Cond.methodLink RX1 3 objectInit ∈ wAll := wmi 142 (by decide +kernel) (by decide +kernel)
theorem kl_RX1_31 : Cond.methodLink RX1 31 Lib.Math.max.name ∈ wAll := wmi 639 (by decide +kernel) (by decide +kernel)
theorem kl_RX1_37 : Cond.methodLink RX1 37 Lib.Math.min.name ∈ wAll := wmi 640 (by decide +kernel) (by decide +kernel)
theorem kl_RX2_3 : Cond.methodLink RX2 3 objectInit ∈ wAll := wmi 355 (by decide +kernel) (by decide +kernel)
theorem kl_RX2_96 : Cond.methodLink RX2 96 yJ0_length_8abf5 ∈ wAll := wmi 424 (by decide +kernel) (by decide +kernel)
theorem kl_RX2_99 : Cond.methodLink RX2 99 yJ0_charAt_5068e ∈ wAll := wmi 434 (by decide +kernel) (by decide +kernel)
theorem kl_RX3_1 : Cond.methodLink RX3 1 objectInit ∈ wAll := wmi 589 (by decide +kernel) (by decide +kernel)
theorem kl_RX4_1 : Cond.methodLink RX4 1 objectInit ∈ wAll := wmi 233 (by decide +kernel) (by decide +kernel)
theorem kl_RX5_3 : Cond.methodLink RX5 3 objectInit ∈ wAll := wmi 69 (by decide +kernel) (by decide +kernel)
theorem kl_RX5_35 : Cond.methodLink RX5 35 Lib.Math.max.name ∈ wAll := wmi 272 (by decide +kernel) (by decide +kernel)
theorem kl_RX6_3 : Cond.methodLink RX6 3 objectInit ∈ wAll := wmi 114 (by decide +kernel) (by decide +kernel)
theorem kl_RX7_23 : Cond.methodLink RX7 23 Lib.Math.min.name ∈ wAll := wmi 338 (by decide +kernel) (by decide +kernel)
theorem kl_RX7_29 : Cond.methodLink RX7 29 Lib.Math.max.name ∈ wAll := wmi 341 (by decide +kernel) (by decide +kernel)
theorem kl_RX7_3 : Cond.methodLink RX7 3 objectInit ∈ wAll := wmi 98 (by decide +kernel) (by decide +kernel)
theorem kl_RX8_172 : Cond.methodLink RX8 172 Lib.MathLoose.min_long.x ∈ wAll := wmi 575 (by decide +kernel) (by decide +kernel)
theorem kl_RX8_178 : Cond.methodLink RX8 178 Lib.MathLoose.max_long.x ∈ wAll := wmi 578 (by decide +kernel) (by decide +kernel)
theorem kl_RX8_3 : Cond.methodLink RX8 3 objectInit ∈ wAll := wmi 61 (by decide +kernel) (by decide +kernel)
theorem kl_RX9_1 : Cond.methodLink RX9 1 objectInit ∈ wAll := wmi 692 (by decide +kernel) (by decide +kernel)
theorem kp_RX3_7 : NP RX3 7 1 := ⟨(RX1, TX1, 3), tyX1, rfl, by decide, by decide, hin1, wmi 590 (by decide +kernel) (by decide +kernel), wmi 138 (by decide +kernel) (by decide +kernel), wmi 46 (by decide +kernel) (by decide +kernel), tyX1_ok, by decide +kernel⟩
theorem kp_RX4_8 : NP RX4 8 4 := ⟨(RX4, TX4, 6), tyX4, rfl, by decide, by decide, hin4, wmi 291 (by decide +kernel) (by decide +kernel), wmi 229 (by decide +kernel) (by decide +kernel), wmi 48 (by decide +kernel) (by decide +kernel), tyX4_ok, by decide +kernel⟩
theorem kp_RX8_151 : NP RX8 151 2 := ⟨(RX2, TX2, 4), tyX2, rfl, by decide, by decide, hin2, wmi 350 (by decide +kernel) (by decide +kernel), wmi 351 (by decide +kernel) (by decide +kernel), wmi 50 (by decide +kernel) (by decide +kernel), tyX2_ok, by decide +kernel⟩
theorem kp_RX8_16 : NP RX8 16 0 := ⟨(RX0, TX0, 2), tyX0, rfl, by decide, by decide, hin0, wmi 79 (by decide +kernel) (by decide +kernel), wmi 80 (by decide +kernel) (by decide +kernel), wmi 43 (by decide +kernel) (by decide +kernel), tyX0_ok, by decide +kernel⟩
theorem kp_RX8_23 : NP RX8 23 7 := ⟨(RX7, TX7, 2), tyX7, rfl, by decide, by decide, hin7, wmi 93 (by decide +kernel) (by decide +kernel), wmi 94 (by decide +kernel) (by decide +kernel), wmi 44 (by decide +kernel) (by decide +kernel), tyX7_ok, by decide +kernel⟩
theorem kp_RX8_30 : NP RX8 30 3 := ⟨(RX3, TX3, 2), tyX3, rfl, by decide, by decide, hin3, wmi 107 (by decide +kernel) (by decide +kernel), wmi 585 (by decide +kernel) (by decide +kernel), wmi 55 (by decide +kernel) (by decide +kernel), tyX3_ok, by decide +kernel⟩
theorem kp_RX8_36 : NP RX8 36 6 := ⟨(RX6, TX6, 7), tyX6, rfl, by decide, by decide, hin6, wmi 109 (by decide +kernel) (by decide +kernel), wmi 110 (by decide +kernel) (by decide +kernel), wmi 45 (by decide +kernel) (by decide +kernel), tyX6_ok, by decide +kernel⟩
theorem kp_RX8_62 : NP RX8 62 1 := ⟨(RX1, TX1, 3), tyX1, rfl, by decide, by decide, hin1, wmi 137 (by decide +kernel) (by decide +kernel), wmi 138 (by decide +kernel) (by decide +kernel), wmi 46 (by decide +kernel) (by decide +kernel), tyX1_ok, by decide +kernel⟩
theorem kp_RX8_9 : NP RX8 9 5 := ⟨(RX5, TX5, 2), tyX5, rfl, by decide, by decide, hin5, wmi 64 (by decide +kernel) (by decide +kernel), wmi 65 (by decide +kernel) (by decide +kernel), wmi 42 (by decide +kernel) (by decide +kernel), tyX5_ok, by decide +kernel⟩
theorem kp_RX8_92 : NP RX8 92 4 := ⟨(RX4, TX4, 6), tyX4, rfl, by decide, by decide, hin4, wmi 228 (by decide +kernel) (by decide +kernel), wmi 229 (by decide +kernel) (by decide +kernel), wmi 48 (by decide +kernel) (by decide +kernel), tyX4_ok, by decide +kernel⟩
theorem kw_RX0_21 : CW RX0 21 yX5_put cX5_put 3 none 1 := ⟨wmi 661 (by decide +kernel) (by decide +kernel), wmi 42 (by decide +kernel) (by decide +kernel), kc_X5_put, by decide, by decide, by decide +kernel⟩
theorem kw_RX1_23 : CW RX1 23 yX1_at cX1_at 2 (some .int) 1 := ⟨wmi 609 (by decide +kernel) (by decide +kernel), wmi 46 (by decide +kernel) (by decide +kernel), kc_X1_at, by decide, by decide, by decide +kernel⟩
theorem kw_RX1_27 : CN RX1 27 yX8_isValue RX8 cX8_isValue 1 (some .boolean) 1 := ⟨by decide +kernel, wmi 41 (by decide +kernel) (by decide +kernel), kc_X8_isValue, by decide, by decide, by decide +kernel⟩
theorem kw_RX1_40 : CW RX1 40 yX5_standing cX5_standing 3 (some (.object "PaperRows$Row")) 1 := ⟨wmi 505 (by decide +kernel) (by decide +kernel), wmi 42 (by decide +kernel) (by decide +kernel), kc_X5_standing, by decide, by decide, by decide +kernel⟩
theorem kw_RX1_51 : CW RX1 51 yX6_tableOf cX6_tableOf 2 (some .int) 1 := ⟨wmi 506 (by decide +kernel) (by decide +kernel), wmi 45 (by decide +kernel) (by decide +kernel), kc_X6_tableOf, by decide, by decide, by decide +kernel⟩
theorem kw_RX1_56 : CW RX1 56 yX1_addPart cX1_addPart 11 none 5 := ⟨wmi 510 (by decide +kernel) (by decide +kernel), wmi 46 (by decide +kernel) (by decide +kernel), kc_X1_addPart, by decide, by decide, by decide +kernel⟩
theorem kw_RX1_60 : CW RX1 60 yX1_isFull cX1_isFull 1 (some .boolean) 0 := ⟨wmi 514 (by decide +kernel) (by decide +kernel), wmi 46 (by decide +kernel) (by decide +kernel), kc_X1_isFull, by decide, by decide, by decide +kernel⟩
theorem kw_RX1_67 : CW RX1 67 yX1_add cX1_add 2 none 1 := ⟨wmi 518 (by decide +kernel) (by decide +kernel), wmi 46 (by decide +kernel) (by decide +kernel), kc_X1_add, by decide, by decide, by decide +kernel⟩
theorem kw_RX1_71 : CW RX1 71 yX6_items cX6_items 1 (some .int) 0 := ⟨wmi 522 (by decide +kernel) (by decide +kernel), wmi 45 (by decide +kernel) (by decide +kernel), kc_X6_items, by decide, by decide, by decide +kernel⟩
theorem kw_RX1_75 : CW RX1 75 yX6_ownerOf cX6_ownerOf 2 (some .int) 1 := ⟨wmi 526 (by decide +kernel) (by decide +kernel), wmi 45 (by decide +kernel) (by decide +kernel), kc_X6_ownerOf, by decide, by decide, by decide +kernel⟩
theorem kw_RX1_78 : CW RX1 78 yX6_kindOf cX6_kindOf 2 (some .int) 1 := ⟨wmi 534 (by decide +kernel) (by decide +kernel), wmi 45 (by decide +kernel) (by decide +kernel), kc_X6_kindOf, by decide, by decide, by decide +kernel⟩
theorem kw_RX1_84 : CW RX1 84 yX1_addUp cX1_addUp 8 none 5 := ⟨wmi 538 (by decide +kernel) (by decide +kernel), wmi 46 (by decide +kernel) (by decide +kernel), kc_X1_addUp, by decide, by decide, by decide +kernel⟩
theorem kw_RX1_87 : CW RX1 87 yX1_addDown cX1_addDown 11 none 5 := ⟨wmi 554 (by decide +kernel) (by decide +kernel), wmi 46 (by decide +kernel) (by decide +kernel), kc_X1_addDown, by decide, by decide, by decide +kernel⟩
theorem kw_RX1_90 : CW RX1 90 yX6_partWithin cX6_partWithin 2 (some .int) 1 := ⟨wmi 542 (by decide +kernel) (by decide +kernel), wmi 45 (by decide +kernel) (by decide +kernel), kc_X6_partWithin, by decide, by decide, by decide +kernel⟩
theorem kw_RX1_93 : CW RX1 93 yX6_referenceOf cX6_referenceOf 2 (some .int) 1 := ⟨wmi 546 (by decide +kernel) (by decide +kernel), wmi 45 (by decide +kernel) (by decide +kernel), kc_X6_referenceOf, by decide, by decide, by decide +kernel⟩
theorem kw_RX1_96 : CW RX1 96 yX4_referenceBy cX4_referenceBy 2 (some .int) 1 := ⟨wmi 550 (by decide +kernel) (by decide +kernel), wmi 48 (by decide +kernel) (by decide +kernel), kc_X4_referenceBy, by decide, by decide, by decide +kernel⟩
theorem kw_RX1_99 : CW RX1 99 yX5_known cX5_known 1 (some .int) 0 := ⟨wmi 558 (by decide +kernel) (by decide +kernel), wmi 42 (by decide +kernel) (by decide +kernel), kc_X5_known, by decide, by decide, by decide +kernel⟩
theorem kw_RX2_26 : CW RX2 26 yX2_advance cX2_advance 4 none 0 := ⟨wmi 373 (by decide +kernel) (by decide +kernel), wmi 50 (by decide +kernel) (by decide +kernel), kc_X2_advance, by decide, by decide, by decide +kernel⟩
theorem kw_RX2_29 : CW RX2 29 yX2_readPart cX2_readPart 4 (some .boolean) 1 := ⟨wmi 387 (by decide +kernel) (by decide +kernel), wmi 50 (by decide +kernel) (by decide +kernel), kc_X2_readPart, by decide, by decide, by decide +kernel⟩
theorem kw_RX2_33 : CW RX2 33 yX2_isAtEnd cX2_isAtEnd 1 (some .boolean) 0 := ⟨wmi 482 (by decide +kernel) (by decide +kernel), wmi 50 (by decide +kernel) (by decide +kernel), kc_X2_isAtEnd, by decide, by decide, by decide +kernel⟩
theorem kw_RX2_37 : CW RX2 37 yX2_tableHere cX2_tableHere 2 (some .int) 0 := ⟨wmi 391 (by decide +kernel) (by decide +kernel), wmi 50 (by decide +kernel) (by decide +kernel), kc_X2_tableHere, by decide, by decide, by decide +kernel⟩
theorem kw_RX2_41 : CW RX2 41 yX6_hasRoomForPart cX6_hasRoomForPart 1 (some .boolean) 0 := ⟨wmi 395 (by decide +kernel) (by decide +kernel), wmi 45 (by decide +kernel) (by decide +kernel), kc_X6_hasRoomForPart, by decide, by decide, by decide +kernel⟩
theorem kw_RX2_46 : CW RX2 46 yX6_parts cX6_parts 1 (some .int) 0 := ⟨wmi 399 (by decide +kernel) (by decide +kernel), wmi 45 (by decide +kernel) (by decide +kernel), kc_X6_parts, by decide, by decide, by decide +kernel⟩
theorem kw_RX2_49 : CW RX2 49 yX6_addPart cX6_addPart 2 none 1 := ⟨wmi 403 (by decide +kernel) (by decide +kernel), wmi 45 (by decide +kernel) (by decide +kernel), kc_X6_addPart, by decide, by decide, by decide +kernel⟩
theorem kw_RX2_53 : CW RX2 53 yX2_isSign cX2_isSign 2 (some .boolean) 1 := ⟨wmi 407 (by decide +kernel) (by decide +kernel), wmi 50 (by decide +kernel) (by decide +kernel), kc_X2_isSign, by decide, by decide, by decide +kernel⟩
theorem kw_RX2_57 : CW RX2 57 yX2_readItems cX2_readItems 5 (some .boolean) 2 := ⟨wmi 411 (by decide +kernel) (by decide +kernel), wmi 50 (by decide +kernel) (by decide +kernel), kc_X2_readItems, by decide, by decide, by decide +kernel⟩
theorem kw_RX2_61 : CW RX2 61 yX2_readItem cX2_readItem 5 (some .boolean) 2 := ⟨wmi 415 (by decide +kernel) (by decide +kernel), wmi 50 (by decide +kernel) (by decide +kernel), kc_X2_readItem, by decide, by decide, by decide +kernel⟩
theorem kw_RX2_66 : CW RX2 66 yX2_isWord cX2_isWord 3 (some .boolean) 1 := ⟨wmi 420 (by decide +kernel) (by decide +kernel), wmi 50 (by decide +kernel) (by decide +kernel), kc_X2_isWord, by decide, by decide, by decide +kernel⟩
theorem kw_RX2_70 : CW RX2 70 yX6_addItem cX6_addItem 5 none 4 := ⟨wmi 472 (by decide +kernel) (by decide +kernel), wmi 45 (by decide +kernel) (by decide +kernel), kc_X6_addItem, by decide, by decide, by decide +kernel⟩
theorem kw_RX2_78 : CW RX2 78 yX2_referenceHere cX2_referenceHere 2 (some .int) 0 := ⟨wmi 478 (by decide +kernel) (by decide +kernel), wmi 50 (by decide +kernel) (by decide +kernel), kc_X2_referenceHere, by decide, by decide, by decide +kernel⟩
theorem kw_RX2_81 : CW RX2 81 yX7_byteAt cX7_byteAt 2 (some .int) 1 := ⟨wmi 377 (by decide +kernel) (by decide +kernel), wmi 44 (by decide +kernel) (by decide +kernel), kc_X7_byteAt, by decide, by decide, by decide +kernel⟩
theorem kw_RX2_87 : CW RX2 87 yX2_isLetter cX2_isLetter 1 (some .boolean) 1 := ⟨wmi 381 (by decide +kernel) (by decide +kernel), wmi 50 (by decide +kernel) (by decide +kernel), kc_X2_isLetter, by decide, by decide, by decide +kernel⟩
theorem kw_RX2_90 : CW RX2 90 yX2_isDigit cX2_isDigit 1 (some .boolean) 1 := ⟨wmi 384 (by decide +kernel) (by decide +kernel), wmi 50 (by decide +kernel) (by decide +kernel), kc_X2_isDigit, by decide, by decide, by decide +kernel⟩
theorem kw_RX2_93 : CW RX2 93 yX7_length cX7_length 1 (some .int) 0 := ⟨wmi 486 (by decide +kernel) (by decide +kernel), wmi 44 (by decide +kernel) (by decide +kernel), kc_X7_length, by decide, by decide, by decide +kernel⟩
theorem kw_RX3_9 : CN RX3 9 yX1_init RX8 cX1_init 1 none 0 := ⟨by decide +kernel, wmi 46 (by decide +kernel) (by decide +kernel), kc_X1_init, by decide, by decide, by decide +kernel⟩
theorem kw_RX4_29 : CW RX4 29 yX4_init cX4_init 7 none 6 := ⟨wmi 292 (by decide +kernel) (by decide +kernel), wmi 48 (by decide +kernel) (by decide +kernel), kc_X4_init, by decide, by decide, by decide +kernel⟩
theorem kw_RX5_21 : CW RX5 21 yX5_at cX5_at 2 (some (.object "PaperRows$Row")) 1 := ⟨wmi 212 (by decide +kernel) (by decide +kernel), wmi 42 (by decide +kernel) (by decide +kernel), kc_X5_at, by decide, by decide, by decide +kernel⟩
theorem kw_RX5_29 : CW RX5 29 yX5_standing cX5_standing 3 (some (.object "PaperRows$Row")) 1 := ⟨wmi 682 (by decide +kernel) (by decide +kernel), wmi 42 (by decide +kernel) (by decide +kernel), kc_X5_standing, by decide, by decide, by decide +kernel⟩
theorem kw_RX6_34 : CW RX6 34 yX6_isItem cX6_isItem 2 (some .boolean) 1 := ⟨wmi 530 (by decide +kernel) (by decide +kernel), wmi 45 (by decide +kernel) (by decide +kernel), kc_X6_isItem, by decide, by decide, by decide +kernel⟩
theorem kw_RX7_19 : CW RX7 19 yX7_addByte cX7_addByte 2 none 1 := ⟨wmi 326 (by decide +kernel) (by decide +kernel), wmi 44 (by decide +kernel) (by decide +kernel), kc_X7_addByte, by decide, by decide, by decide +kernel⟩
theorem kw_RX8_101 : CW RX8 101 yX8_answered cX8_answered 2 (some .int) 1 := ⟨wmi 279 (by decide +kernel) (by decide +kernel), wmi 41 (by decide +kernel) (by decide +kernel), kc_X8_answered, by decide, by decide, by decide +kernel⟩
theorem kw_RX8_104 : CW RX8 104 yX5_standing cX5_standing 3 (some (.object "PaperRows$Row")) 1 := ⟨wmi 208 (by decide +kernel) (by decide +kernel), wmi 42 (by decide +kernel) (by decide +kernel), kc_X5_standing, by decide, by decide, by decide +kernel⟩
theorem kw_RX8_108 : CW RX8 108 yX4_withValue cX4_withValue 2 (some (.object "PaperRows$Row")) 1 := ⟨wmi 287 (by decide +kernel) (by decide +kernel), wmi 48 (by decide +kernel) (by decide +kernel), kc_X4_withValue, by decide, by decide, by decide +kernel⟩
theorem kw_RX8_11 : CN RX8 11 yX5_init RX8 cX5_init 1 none 0 := ⟨by decide +kernel, wmi 42 (by decide +kernel) (by decide +kernel), kc_X5_init, by decide, by decide, by decide +kernel⟩
theorem kw_RX8_114 : CW RX8 114 yX4_withReference cX4_withReference 3 (some (.object "PaperRows$Row")) 2 := ⟨wmi 297 (by decide +kernel) (by decide +kernel), wmi 48 (by decide +kernel) (by decide +kernel), kc_X4_withReference, by decide, by decide, by decide +kernel⟩
theorem kw_RX8_118 : CW RX8 118 yX4_gone cX4_gone 1 (some (.object "PaperRows$Row")) 0 := ⟨wmi 305 (by decide +kernel) (by decide +kernel), wmi 48 (by decide +kernel) (by decide +kernel), kc_X4_gone, by decide, by decide, by decide +kernel⟩
theorem kw_RX8_122 : CW RX8 122 yX5_at cX5_at 2 (some (.object "PaperRows$Row")) 1 := ⟨wmi 313 (by decide +kernel) (by decide +kernel), wmi 42 (by decide +kernel) (by decide +kernel), kc_X5_at, by decide, by decide, by decide +kernel⟩
theorem kw_RX8_138 : CW RX8 138 yX7_length cX7_length 1 (some .int) 0 := ⟨wmi 318 (by decide +kernel) (by decide +kernel), wmi 44 (by decide +kernel) (by decide +kernel), kc_X7_length, by decide, by decide, by decide +kernel⟩
theorem kw_RX8_141 : CW RX8 141 yX7_addNumber cX7_addNumber 3 none 1 := ⟨wmi 322 (by decide +kernel) (by decide +kernel), wmi 44 (by decide +kernel) (by decide +kernel), kc_X7_addNumber, by decide, by decide, by decide +kernel⟩
theorem kw_RX8_145 : CW RX8 145 yX7_cutTo cX7_cutTo 2 none 1 := ⟨wmi 334 (by decide +kernel) (by decide +kernel), wmi 44 (by decide +kernel) (by decide +kernel), kc_X7_cutTo, by decide, by decide, by decide +kernel⟩
theorem kw_RX8_148 : CW RX8 148 yX6_clear cX6_clear 1 none 0 := ⟨wmi 346 (by decide +kernel) (by decide +kernel), wmi 45 (by decide +kernel) (by decide +kernel), kc_X6_clear, by decide, by decide, by decide +kernel⟩
theorem kw_RX8_153 : CW RX8 153 yX2_init cX2_init 3 none 2 := ⟨wmi 352 (by decide +kernel) (by decide +kernel), wmi 50 (by decide +kernel) (by decide +kernel), kc_X2_init, by decide, by decide, by decide +kernel⟩
theorem kw_RX8_156 : CW RX8 156 yX2_readText cX2_readText 1 (some .boolean) 0 := ⟨wmi 369 (by decide +kernel) (by decide +kernel), wmi 50 (by decide +kernel) (by decide +kernel), kc_X2_readText, by decide, by decide, by decide +kernel⟩
theorem kw_RX8_159 : CW RX8 159 yX2_place cX2_place 1 (some .int) 0 := ⟨wmi 487 (by decide +kernel) (by decide +kernel), wmi 50 (by decide +kernel) (by decide +kernel), kc_X2_place, by decide, by decide, by decide +kernel⟩
theorem kw_RX8_162 : CW RX8 162 yX6_parts cX6_parts 1 (some .int) 0 := ⟨wmi 491 (by decide +kernel) (by decide +kernel), wmi 45 (by decide +kernel) (by decide +kernel), kc_X6_parts, by decide, by decide, by decide +kernel⟩
theorem kw_RX8_165 : CW RX8 165 yX1_gather cX1_gather 5 none 3 := ⟨wmi 501 (by decide +kernel) (by decide +kernel), wmi 46 (by decide +kernel) (by decide +kernel), kc_X1_gather, by decide, by decide, by decide +kernel⟩
theorem kw_RX8_169 : CW RX8 169 yX1_length cX1_length 1 (some .int) 0 := ⟨wmi 559 (by decide +kernel) (by decide +kernel), wmi 46 (by decide +kernel) (by decide +kernel), kc_X1_length, by decide, by decide, by decide +kernel⟩
theorem kw_RX8_170 : CW RX8 170 yX1_at cX1_at 2 (some .int) 1 := ⟨wmi 567 (by decide +kernel) (by decide +kernel), wmi 46 (by decide +kernel) (by decide +kernel), kc_X1_at, by decide, by decide, by decide +kernel⟩
theorem kw_RX8_18 : CN RX8 18 yX0_init RX8 cX0_init 1 none 0 := ⟨by decide +kernel, wmi 43 (by decide +kernel) (by decide +kernel), kc_X0_init, by decide, by decide, by decide +kernel⟩
theorem kw_RX8_181 : CW RX8 181 yX3_init cX3_init 2 none 1 := ⟨wmi 586 (by decide +kernel) (by decide +kernel), wmi 55 (by decide +kernel) (by decide +kernel), kc_X3_init, by decide, by decide, by decide +kernel⟩
theorem kw_RX8_189 : CW RX8 189 yX1_hasMarksOf cX1_hasMarksOf 3 (some .boolean) 1 := ⟨wmi 605 (by decide +kernel) (by decide +kernel), wmi 46 (by decide +kernel) (by decide +kernel), kc_X1_hasMarksOf, by decide, by decide, by decide +kernel⟩
theorem kw_RX8_193 : CW RX8 193 yX1_takeFrom cX1_takeFrom 3 none 1 := ⟨wmi 610 (by decide +kernel) (by decide +kernel), wmi 46 (by decide +kernel) (by decide +kernel), kc_X1_takeFrom, by decide, by decide, by decide +kernel⟩
theorem kw_RX8_197 : CW RX8 197 yX8_readerAt cX8_readerAt 2 (some (.object "PaperRows$Reader")) 1 := ⟨wmi 618 (by decide +kernel) (by decide +kernel), wmi 41 (by decide +kernel) (by decide +kernel), kc_X8_readerAt, by decide, by decide, by decide +kernel⟩
theorem kw_RX8_201 : CW RX8 201 yX1_isValueAt cX1_isValueAt 2 (some .boolean) 1 := ⟨wmi 630 (by decide +kernel) (by decide +kernel), wmi 46 (by decide +kernel) (by decide +kernel), kc_X1_isValueAt, by decide, by decide, by decide +kernel⟩
theorem kw_RX8_204 : CW RX8 204 yX1_rowAround cX1_rowAround 5 (some .int) 1 := ⟨wmi 635 (by decide +kernel) (by decide +kernel), wmi 46 (by decide +kernel) (by decide +kernel), kc_X1_rowAround, by decide, by decide, by decide +kernel⟩
theorem kw_RX8_207 : CW RX8 207 yX1_put cX1_put 3 none 2 := ⟨wmi 641 (by decide +kernel) (by decide +kernel), wmi 46 (by decide +kernel) (by decide +kernel), kc_X1_put, by decide, by decide, by decide +kernel⟩
theorem kw_RX8_214 : CW RX8 214 yX5_clear cX5_clear 2 none 0 := ⟨wmi 649 (by decide +kernel) (by decide +kernel), wmi 42 (by decide +kernel) (by decide +kernel), kc_X5_clear, by decide, by decide, by decide +kernel⟩
theorem kw_RX8_215 : CW RX8 215 yX0_length cX0_length 1 (some .int) 0 := ⟨wmi 653 (by decide +kernel) (by decide +kernel), wmi 43 (by decide +kernel) (by decide +kernel), kc_X0_length, by decide, by decide, by decide +kernel⟩
theorem kw_RX8_216 : CW RX8 216 yX0_replay cX0_replay 5 none 2 := ⟨wmi 657 (by decide +kernel) (by decide +kernel), wmi 43 (by decide +kernel) (by decide +kernel), kc_X0_replay, by decide, by decide, by decide +kernel⟩
theorem kw_RX8_220 : CW RX8 220 yX5_takeFrom cX5_takeFrom 3 none 1 := ⟨wmi 666 (by decide +kernel) (by decide +kernel), wmi 42 (by decide +kernel) (by decide +kernel), kc_X5_takeFrom, by decide, by decide, by decide +kernel⟩
theorem kw_RX8_223 : CW RX8 223 yX5_put cX5_put 3 none 1 := ⟨wmi 268 (by decide +kernel) (by decide +kernel), wmi 42 (by decide +kernel) (by decide +kernel), kc_X5_put, by decide, by decide, by decide +kernel⟩
theorem kw_RX8_225 : CW RX8 225 yX8_isOtherwiseThen cX8_isOtherwiseThen 2 (some .boolean) 1 := ⟨wmi 670 (by decide +kernel) (by decide +kernel), wmi 41 (by decide +kernel) (by decide +kernel), kc_X8_isOtherwiseThen, by decide, by decide, by decide +kernel⟩
theorem kw_RX8_228 : CW RX8 228 yX5_standingOnes cX5_standingOnes 3 (some .int) 0 := ⟨wmi 678 (by decide +kernel) (by decide +kernel), wmi 42 (by decide +kernel) (by decide +kernel), kc_X5_standingOnes, by decide, by decide, by decide +kernel⟩
theorem kw_RX8_231 : CW RX8 231 yX0_add cX0_add 2 none 1 := ⟨wmi 275 (by decide +kernel) (by decide +kernel), wmi 43 (by decide +kernel) (by decide +kernel), kc_X0_add, by decide, by decide, by decide +kernel⟩
theorem kw_RX8_25 : CN RX8 25 yX7_init RX8 cX7_init 1 none 0 := ⟨by decide +kernel, wmi 44 (by decide +kernel) (by decide +kernel), kc_X7_init, by decide, by decide, by decide +kernel⟩
theorem kw_RX8_38 : CN RX8 38 yX6_init RX8 cX6_init 1 none 0 := ⟨by decide +kernel, wmi 45 (by decide +kernel) (by decide +kernel), kc_X6_init, by decide, by decide, by decide +kernel⟩
theorem kw_RX8_64 : CN RX8 64 yX1_init RX8 cX1_init 1 none 0 := ⟨by decide +kernel, wmi 46 (by decide +kernel) (by decide +kernel), kc_X1_init, by decide, by decide, by decide +kernel⟩
theorem kw_RX8_72 : CW RX8 72 yX8_isValue cX8_isValue 1 (some .boolean) 1 := ⟨wmi 197 (by decide +kernel) (by decide +kernel), wmi 41 (by decide +kernel) (by decide +kernel), kc_X8_isValue, by decide, by decide, by decide +kernel⟩
theorem kw_RX8_76 : CW RX8 76 yX8_refused cX8_refused 2 (some .int) 1 := ⟨wmi 200 (by decide +kernel) (by decide +kernel), wmi 41 (by decide +kernel) (by decide +kernel), kc_X8_refused, by decide, by decide, by decide +kernel⟩
theorem kw_RX8_80 : CW RX8 80 yX8_canBeReferredTo cX8_canBeReferredTo 2 (some .boolean) 1 := ⟨wmi 204 (by decide +kernel) (by decide +kernel), wmi 41 (by decide +kernel) (by decide +kernel), kc_X8_canBeReferredTo, by decide, by decide, by decide +kernel⟩
theorem kw_RX8_83 : CW RX8 83 yX5_isFull cX5_isFull 1 (some .boolean) 0 := ⟨wmi 216 (by decide +kernel) (by decide +kernel), wmi 42 (by decide +kernel) (by decide +kernel), kc_X5_isFull, by decide, by decide, by decide +kernel⟩
theorem kw_RX8_87 : CW RX8 87 yX0_isFull cX0_isFull 1 (some .boolean) 0 := ⟨wmi 220 (by decide +kernel) (by decide +kernel), wmi 43 (by decide +kernel) (by decide +kernel), kc_X0_isFull, by decide, by decide, by decide +kernel⟩
theorem kw_RX8_88 : CW RX8 88 yX5_known cX5_known 1 (some .int) 0 := ⟨wmi 224 (by decide +kernel) (by decide +kernel), wmi 42 (by decide +kernel) (by decide +kernel), kc_X5_known, by decide, by decide, by decide +kernel⟩
theorem kw_RX8_94 : CW RX8 94 yX4_init cX4_init 7 none 6 := ⟨wmi 230 (by decide +kernel) (by decide +kernel), wmi 48 (by decide +kernel) (by decide +kernel), kc_X4_init, by decide, by decide, by decide +kernel⟩
theorem kw_RX8_97 : CW RX8 97 yX8_tell cX8_tell 2 none 1 := ⟨wmi 264 (by decide +kernel) (by decide +kernel), wmi 41 (by decide +kernel) (by decide +kernel), kc_X8_tell, by decide, by decide, by decide +kernel⟩
theorem kw_RX9_132 : CW RX9 132 yX9_goOne cX9_goOne 3 none 1 := ⟨wmi 885 (by decide +kernel) (by decide +kernel), wmi 47 (by decide +kernel) (by decide +kernel), kc_X9_goOne, by decide, by decide, by decide +kernel⟩
theorem kw_RX9_139 : CW RX9 139 yX9_in cX9_in 6 (some .boolean) 3 := ⟨wmi 865 (by decide +kernel) (by decide +kernel), wmi 47 (by decide +kernel) (by decide +kernel), kc_X9_in, by decide, by decide, by decide +kernel⟩
theorem kw_RX9_149 : CW RX9 149 yX9_isValue cX9_isValue 1 (some .boolean) 1 := ⟨wmi 868 (by decide +kernel) (by decide +kernel), wmi 47 (by decide +kernel) (by decide +kernel), kc_X9_isValue, by decide, by decide, by decide +kernel⟩
theorem kw_RX9_153 : CW RX9 153 yX9_told cX9_told 2 (some .int) 1 := ⟨wmi 873 (by decide +kernel) (by decide +kernel), wmi 47 (by decide +kernel) (by decide +kernel), kc_X9_told, by decide, by decide, by decide +kernel⟩
theorem kw_RX9_157 : CW RX9 157 yX9_isRow cX9_isRow 2 (some .boolean) 1 := ⟨wmi 877 (by decide +kernel) (by decide +kernel), wmi 47 (by decide +kernel) (by decide +kernel), kc_X9_isRow, by decide, by decide, by decide +kernel⟩
theorem kw_RX9_160 : CW RX9 160 yX9_tell cX9_tell 7 none 6 := ⟨wmi 881 (by decide +kernel) (by decide +kernel), wmi 47 (by decide +kernel) (by decide +kernel), kc_X9_tell, by decide, by decide, by decide +kernel⟩
theorem kw_RX9_167 : CW RX9 167 yX9_four cX9_four 3 none 1 := ⟨wmi 909 (by decide +kernel) (by decide +kernel), wmi 47 (by decide +kernel) (by decide +kernel), kc_X9_four, by decide, by decide, by decide +kernel⟩
theorem kw_RX9_180 : CW RX9 180 yX9_isSmall cX9_isSmall 1 (some .boolean) 1 := ⟨wmi 925 (by decide +kernel) (by decide +kernel), wmi 47 (by decide +kernel) (by decide +kernel), kc_X9_isSmall, by decide, by decide, by decide +kernel⟩
theorem kw_RX9_183 : CW RX9 183 yX9_isDigit cX9_isDigit 1 (some .boolean) 1 := ⟨wmi 928 (by decide +kernel) (by decide +kernel), wmi 47 (by decide +kernel) (by decide +kernel), kc_X9_isDigit, by decide, by decide, by decide +kernel⟩
theorem kw_RX9_203 : CW RX9 203 yX9_next cX9_next 1 none 0 := ⟨wmi 921 (by decide +kernel) (by decide +kernel), wmi 47 (by decide +kernel) (by decide +kernel), kc_X9_next, by decide, by decide, by decide +kernel⟩
theorem kw_RX9_211 : CW RX9 211 yX9_must cX9_must 2 none 1 := ⟨wmi 941 (by decide +kernel) (by decide +kernel), wmi 47 (by decide +kernel) (by decide +kernel), kc_X9_must, by decide, by decide, by decide +kernel⟩
theorem kw_RX9_215 : CW RX9 215 yX9_isSign cX9_isSign 2 (some .boolean) 1 := ⟨wmi 945 (by decide +kernel) (by decide +kernel), wmi 47 (by decide +kernel) (by decide +kernel), kc_X9_isSign, by decide, by decide, by decide +kernel⟩
theorem kw_RX9_221 : CW RX9 221 yX9_isWord cX9_isWord 7 (some .boolean) 4 := ⟨wmi 953 (by decide +kernel) (by decide +kernel), wmi 47 (by decide +kernel) (by decide +kernel), kc_X9_isWord, by decide, by decide, by decide +kernel⟩
theorem kw_RX9_228 : CW RX9 228 yX9_readPart cX9_readPart 3 (some .boolean) 0 := ⟨wmi 936 (by decide +kernel) (by decide +kernel), wmi 47 (by decide +kernel) (by decide +kernel), kc_X9_readPart, by decide, by decide, by decide +kernel⟩
theorem kw_RX9_232 : CW RX9 232 yX9_readItem cX9_readItem 5 (some .boolean) 0 := ⟨wmi 949 (by decide +kernel) (by decide +kernel), wmi 47 (by decide +kernel) (by decide +kernel), kc_X9_readItem, by decide, by decide, by decide +kernel⟩
theorem kw_RX9_241 : CW RX9 241 yX9_write cX9_write 3 none 2 := ⟨wmi 973 (by decide +kernel) (by decide +kernel), wmi 47 (by decide +kernel) (by decide +kernel), kc_X9_write, by decide, by decide, by decide +kernel⟩
theorem kw_RX9_248 : CW RX9 248 yX9_begin cX9_begin 3 none 2 := ⟨wmi 969 (by decide +kernel) (by decide +kernel), wmi 47 (by decide +kernel) (by decide +kernel), kc_X9_begin, by decide, by decide, by decide +kernel⟩
theorem kw_RX9_251 : CW RX9 251 yX9_nextRow cX9_nextRow 6 (some .int) 3 := ⟨wmi 977 (by decide +kernel) (by decide +kernel), wmi 47 (by decide +kernel) (by decide +kernel), kc_X9_nextRow, by decide, by decide, by decide +kernel⟩
theorem kw_RX9_255 : CW RX9 255 yX9_make cX9_make 5 none 1 := ⟨wmi 965 (by decide +kernel) (by decide +kernel), wmi 47 (by decide +kernel) (by decide +kernel), kc_X9_make, by decide, by decide, by decide +kernel⟩
theorem kw_RX9_262 : CW RX9 262 yX9_goTo cX9_goTo 3 none 1 := ⟨wmi 995 (by decide +kernel) (by decide +kernel), wmi 47 (by decide +kernel) (by decide +kernel), kc_X9_goTo, by decide, by decide, by decide +kernel⟩
theorem kw_RX9_268 : CW RX9 268 yX9_isHeld cX9_isHeld 4 (some .boolean) 1 := ⟨wmi 1007 (by decide +kernel) (by decide +kernel), wmi 47 (by decide +kernel) (by decide +kernel), kc_X9_isHeld, by decide, by decide, by decide +kernel⟩
theorem kw_RX9_274 : CW RX9 274 yX9_isReader cX9_isReader 2 (some .boolean) 1 := ⟨wmi 1015 (by decide +kernel) (by decide +kernel), wmi 47 (by decide +kernel) (by decide +kernel), kc_X9_isReader, by decide, by decide, by decide +kernel⟩
