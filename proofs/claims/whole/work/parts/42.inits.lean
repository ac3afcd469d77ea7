theorem dX0_init_0 : decode cX0_init 0 = .ok (.aload_n 0, 1) := by decide +kernel
theorem dX0_init_1 : decode cX0_init 1 = .ok (.invokespecial 3, 3) := by decide +kernel
theorem dX0_init_4 : decode cX0_init 4 = .ok (.aload_n 0, 1) := by decide +kernel
theorem dX0_init_5 : decode cX0_init 5 = .ok (.sipush 171, 3) := by decide +kernel
theorem dX0_init_8 : decode cX0_init 8 = .ok (.newarray .int, 2) := by decide +kernel
theorem dX0_init_10 : decode cX0_init 10 = .ok (.putfield 11, 3) := by decide +kernel
theorem dX0_init_13 : decode cX0_init 13 = .ok (.sipush 139, 3) := by decide +kernel
theorem dX0_init_16 : decode cX0_init 16 = .ok (.istore_n 1, 1) := by decide +kernel
theorem dX0_init_17 : decode cX0_init 17 = .ok (.iload_n 1, 1) := by decide +kernel
theorem dX0_init_18 : decode cX0_init 18 = .ok (.sipush 171, 3) := by decide +kernel
theorem dX0_init_21 : decode cX0_init 21 = .ok (.if_icmp .ge 16, 3) := by decide +kernel
theorem dX0_init_24 : decode cX0_init 24 = .ok (.aload_n 0, 1) := by decide +kernel
theorem dX0_init_25 : decode cX0_init 25 = .ok (.getfield 11, 3) := by decide +kernel
theorem dX0_init_28 : decode cX0_init 28 = .ok (.iload_n 1, 1) := by decide +kernel
theorem dX0_init_29 : decode cX0_init 29 = .ok (.iconst (-1), 1) := by decide +kernel
theorem dX0_init_30 : decode cX0_init 30 = .ok (.iastore, 1) := by decide +kernel
theorem dX0_init_31 : decode cX0_init 31 = .ok (.iinc 1 1, 3) := by decide +kernel
theorem dX0_init_34 : decode cX0_init 34 = .ok (.goto (-17), 3) := by decide +kernel
theorem dX0_init_37 : decode cX0_init 37 = .ok (.return_, 1) := by decide +kernel
theorem dX2_init_0 : decode cX2_init 0 = .ok (.aload_n 0, 1) := by decide +kernel
theorem dX2_init_1 : decode cX2_init 1 = .ok (.invokespecial 1, 3) := by decide +kernel
theorem dX2_init_4 : decode cX2_init 4 = .ok (.aload_n 0, 1) := by decide +kernel
theorem dX2_init_5 : decode cX2_init 5 = .ok (.sipush 5301, 3) := by decide +kernel
theorem dX2_init_8 : decode cX2_init 8 = .ok (.newarray .int, 2) := by decide +kernel
theorem dX2_init_10 : decode cX2_init 10 = .ok (.putfield 11, 3) := by decide +kernel
theorem dX2_init_13 : decode cX2_init 13 = .ok (.return_, 1) := by decide +kernel
theorem dX3_init_0 : decode cX3_init 0 = .ok (.aload_n 0, 1) := by decide +kernel
theorem dX3_init_1 : decode cX3_init 1 = .ok (.invokespecial 3, 3) := by decide +kernel
theorem dX3_init_4 : decode cX3_init 4 = .ok (.aload_n 0, 1) := by decide +kernel
theorem dX3_init_5 : decode cX3_init 5 = .ok (.sipush 1596, 3) := by decide +kernel
theorem dX3_init_8 : decode cX3_init 8 = .ok (.newarray .int, 2) := by decide +kernel
theorem dX3_init_10 : decode cX3_init 10 = .ok (.putfield 11, 3) := by decide +kernel
theorem dX3_init_13 : decode cX3_init 13 = .ok (.aload_n 0, 1) := by decide +kernel
theorem dX3_init_14 : decode cX3_init 14 = .ok (.bipush 6, 2) := by decide +kernel
theorem dX3_init_16 : decode cX3_init 16 = .ok (.newarray .int, 2) := by decide +kernel
theorem dX3_init_18 : decode cX3_init 18 = .ok (.putfield 15, 3) := by decide +kernel
theorem dX3_init_21 : decode cX3_init 21 = .ok (.aload_n 0, 1) := by decide +kernel
theorem dX3_init_22 : decode cX3_init 22 = .ok (.bipush 6, 2) := by decide +kernel
theorem dX3_init_24 : decode cX3_init 24 = .ok (.newarray .int, 2) := by decide +kernel
theorem dX3_init_26 : decode cX3_init 26 = .ok (.putfield 18, 3) := by decide +kernel
theorem dX3_init_29 : decode cX3_init 29 = .ok (.aload_n 0, 1) := by decide +kernel
theorem dX3_init_30 : decode cX3_init 30 = .ok (.bipush 6, 2) := by decide +kernel
theorem dX3_init_32 : decode cX3_init 32 = .ok (.newarray .int, 2) := by decide +kernel
theorem dX3_init_34 : decode cX3_init 34 = .ok (.putfield 21, 3) := by decide +kernel
theorem dX3_init_37 : decode cX3_init 37 = .ok (.aload_n 0, 1) := by decide +kernel
theorem dX3_init_38 : decode cX3_init 38 = .ok (.bipush 6, 2) := by decide +kernel
theorem dX3_init_40 : decode cX3_init 40 = .ok (.newarray .int, 2) := by decide +kernel
theorem dX3_init_42 : decode cX3_init 42 = .ok (.putfield 24, 3) := by decide +kernel
theorem dX3_init_45 : decode cX3_init 45 = .ok (.aload_n 0, 1) := by decide +kernel
theorem dX3_init_46 : decode cX3_init 46 = .ok (.iconst 3, 1) := by decide +kernel
theorem dX3_init_47 : decode cX3_init 47 = .ok (.newarray .boolean, 2) := by decide +kernel
theorem dX3_init_49 : decode cX3_init 49 = .ok (.putfield 27, 3) := by decide +kernel
theorem dX3_init_52 : decode cX3_init 52 = .ok (.return_, 1) := by decide +kernel
theorem dX4_init_0 : decode cX4_init 0 = .ok (.aload_n 0, 1) := by decide +kernel
theorem dX4_init_1 : decode cX4_init 1 = .ok (.invokespecial 1, 3) := by decide +kernel
theorem dX4_init_4 : decode cX4_init 4 = .ok (.aload_n 0, 1) := by decide +kernel
theorem dX4_init_5 : decode cX4_init 5 = .ok (.sipush 160, 3) := by decide +kernel
theorem dX4_init_8 : decode cX4_init 8 = .ok (.newarray .long, 2) := by decide +kernel
theorem dX4_init_10 : decode cX4_init 10 = .ok (.putfield 9, 3) := by decide +kernel
theorem dX4_init_13 : decode cX4_init 13 = .ok (.aload_n 0, 1) := by decide +kernel
theorem dX4_init_14 : decode cX4_init 14 = .ok (.iconst 4, 1) := by decide +kernel
theorem dX4_init_15 : decode cX4_init 15 = .ok (.newarray .int, 2) := by decide +kernel
theorem dX4_init_17 : decode cX4_init 17 = .ok (.dup, 1) := by decide +kernel
theorem dX4_init_18 : decode cX4_init 18 = .ok (.iconst 0, 1) := by decide +kernel
theorem dX4_init_19 : decode cX4_init 19 = .ok (.iconst (-1), 1) := by decide +kernel
theorem dX4_init_20 : decode cX4_init 20 = .ok (.iastore, 1) := by decide +kernel
theorem dX4_init_21 : decode cX4_init 21 = .ok (.dup, 1) := by decide +kernel
theorem dX4_init_22 : decode cX4_init 22 = .ok (.iconst 1, 1) := by decide +kernel
theorem dX4_init_23 : decode cX4_init 23 = .ok (.iconst (-1), 1) := by decide +kernel
theorem dX4_init_24 : decode cX4_init 24 = .ok (.iastore, 1) := by decide +kernel
theorem dX4_init_25 : decode cX4_init 25 = .ok (.dup, 1) := by decide +kernel
theorem dX4_init_26 : decode cX4_init 26 = .ok (.iconst 2, 1) := by decide +kernel
theorem dX4_init_27 : decode cX4_init 27 = .ok (.iconst (-1), 1) := by decide +kernel
theorem dX4_init_28 : decode cX4_init 28 = .ok (.iastore, 1) := by decide +kernel
theorem dX4_init_29 : decode cX4_init 29 = .ok (.dup, 1) := by decide +kernel
theorem dX4_init_30 : decode cX4_init 30 = .ok (.iconst 3, 1) := by decide +kernel
theorem dX4_init_31 : decode cX4_init 31 = .ok (.iconst (-1), 1) := by decide +kernel
theorem dX4_init_32 : decode cX4_init 32 = .ok (.iastore, 1) := by decide +kernel
theorem dX4_init_33 : decode cX4_init 33 = .ok (.putfield 13, 3) := by decide +kernel
theorem dX4_init_36 : decode cX4_init 36 = .ok (.aload_n 0, 1) := by decide +kernel
theorem dX4_init_37 : decode cX4_init 37 = .ok (.iconst 4, 1) := by decide +kernel
theorem dX4_init_38 : decode cX4_init 38 = .ok (.newarray .int, 2) := by decide +kernel
theorem dX4_init_40 : decode cX4_init 40 = .ok (.putfield 17, 3) := by decide +kernel
theorem dX4_init_43 : decode cX4_init 43 = .ok (.return_, 1) := by decide +kernel
theorem dX5_init_0 : decode cX5_init 0 = .ok (.aload_n 0, 1) := by decide +kernel
theorem dX5_init_1 : decode cX5_init 1 = .ok (.invokespecial 3, 3) := by decide +kernel
theorem dX5_init_4 : decode cX5_init 4 = .ok (.aload_n 0, 1) := by decide +kernel
theorem dX5_init_5 : decode cX5_init 5 = .ok (.bipush 120, 2) := by decide +kernel
theorem dX5_init_7 : decode cX5_init 7 = .ok (.newarray .byte, 2) := by decide +kernel
theorem dX5_init_9 : decode cX5_init 9 = .ok (.putfield 11, 3) := by decide +kernel
theorem dX5_init_12 : decode cX5_init 12 = .ok (.return_, 1) := by decide +kernel
theorem dX6_init_0 : decode cX6_init 0 = .ok (.aload_n 0, 1) := by decide +kernel
theorem dX6_init_1 : decode cX6_init 1 = .ok (.invokespecial 1, 3) := by decide +kernel
theorem dX6_init_4 : decode cX6_init 4 = .ok (.aload_n 0, 1) := by decide +kernel
theorem dX6_init_5 : decode cX6_init 5 = .ok (.new 7, 3) := by decide +kernel
theorem dX6_init_8 : decode cX6_init 8 = .ok (.dup, 1) := by decide +kernel
theorem dX6_init_9 : decode cX6_init 9 = .ok (.invokespecial 9, 3) := by decide +kernel
theorem dX6_init_12 : decode cX6_init 12 = .ok (.putfield 10, 3) := by decide +kernel
theorem dX6_init_15 : decode cX6_init 15 = .ok (.aload_n 0, 1) := by decide +kernel
theorem dX6_init_16 : decode cX6_init 16 = .ok (.new 16, 3) := by decide +kernel
theorem dX6_init_19 : decode cX6_init 19 = .ok (.dup, 1) := by decide +kernel
theorem dX6_init_20 : decode cX6_init 20 = .ok (.invokespecial 18, 3) := by decide +kernel
theorem dX6_init_23 : decode cX6_init 23 = .ok (.putfield 19, 3) := by decide +kernel
theorem dX6_init_26 : decode cX6_init 26 = .ok (.aload_n 0, 1) := by decide +kernel
theorem dX6_init_27 : decode cX6_init 27 = .ok (.new 23, 3) := by decide +kernel
theorem dX6_init_30 : decode cX6_init 30 = .ok (.dup, 1) := by decide +kernel
theorem dX6_init_31 : decode cX6_init 31 = .ok (.invokespecial 25, 3) := by decide +kernel
theorem dX6_init_34 : decode cX6_init 34 = .ok (.putfield 26, 3) := by decide +kernel
theorem dX6_init_37 : decode cX6_init 37 = .ok (.aload_n 0, 1) := by decide +kernel
theorem dX6_init_38 : decode cX6_init 38 = .ok (.new 30, 3) := by decide +kernel
theorem dX6_init_41 : decode cX6_init 41 = .ok (.dup, 1) := by decide +kernel
theorem dX6_init_42 : decode cX6_init 42 = .ok (.invokespecial 32, 3) := by decide +kernel
theorem dX6_init_45 : decode cX6_init 45 = .ok (.putfield 33, 3) := by decide +kernel
theorem dX6_init_48 : decode cX6_init 48 = .ok (.aload_n 0, 1) := by decide +kernel
theorem dX6_init_49 : decode cX6_init 49 = .ok (.new 37, 3) := by decide +kernel
theorem dX6_init_52 : decode cX6_init 52 = .ok (.dup, 1) := by decide +kernel
theorem dX6_init_53 : decode cX6_init 53 = .ok (.invokespecial 39, 3) := by decide +kernel
theorem dX6_init_56 : decode cX6_init 56 = .ok (.putfield 40, 3) := by decide +kernel
theorem dX6_init_59 : decode cX6_init 59 = .ok (.aload_n 0, 1) := by decide +kernel
theorem dX6_init_60 : decode cX6_init 60 = .ok (.bipush 8, 2) := by decide +kernel
theorem dX6_init_62 : decode cX6_init 62 = .ok (.newarray .int, 2) := by decide +kernel
theorem dX6_init_64 : decode cX6_init 64 = .ok (.putfield 44, 3) := by decide +kernel
theorem dX6_init_67 : decode cX6_init 67 = .ok (.aload_n 0, 1) := by decide +kernel
theorem dX6_init_68 : decode cX6_init 68 = .ok (.iconst 1, 1) := by decide +kernel
theorem dX6_init_69 : decode cX6_init 69 = .ok (.putfield 48, 3) := by decide +kernel
theorem dX6_init_72 : decode cX6_init 72 = .ok (.return_, 1) := by decide +kernel
theorem dX7_init_0 : decode cX7_init 0 = .ok (.aload_n 0, 1) := by decide +kernel
theorem dX7_init_1 : decode cX7_init 1 = .ok (.invokespecial 1, 3) := by decide +kernel
theorem dX7_init_4 : decode cX7_init 4 = .ok (.aload_n 0, 1) := by decide +kernel
theorem dX7_init_5 : decode cX7_init 5 = .ok (.sipush 139, 3) := by decide +kernel
theorem dX7_init_8 : decode cX7_init 8 = .ok (.newarray .int, 2) := by decide +kernel
theorem dX7_init_10 : decode cX7_init 10 = .ok (.putfield 9, 3) := by decide +kernel
theorem dX7_init_13 : decode cX7_init 13 = .ok (.aload_n 0, 1) := by decide +kernel
theorem dX7_init_14 : decode cX7_init 14 = .ok (.bipush 30, 2) := by decide +kernel
theorem dX7_init_16 : decode cX7_init 16 = .ok (.sipush 139, 3) := by decide +kernel
theorem dX7_init_19 : decode cX7_init 19 = .ok (.multianewarray 13 2, 4) := by decide +kernel
theorem dX7_init_23 : decode cX7_init 23 = .ok (.putfield 15, 3) := by decide +kernel
theorem dX7_init_26 : decode cX7_init 26 = .ok (.aload_n 0, 1) := by decide +kernel
theorem dX7_init_27 : decode cX7_init 27 = .ok (.iconst 1, 1) := by decide +kernel
theorem dX7_init_28 : decode cX7_init 28 = .ok (.putfield 18, 3) := by decide +kernel
theorem dX7_init_31 : decode cX7_init 31 = .ok (.aload_n 0, 1) := by decide +kernel
theorem dX7_init_32 : decode cX7_init 32 = .ok (.bipush 8, 2) := by decide +kernel
theorem dX7_init_34 : decode cX7_init 34 = .ok (.newarray .int, 2) := by decide +kernel
theorem dX7_init_36 : decode cX7_init 36 = .ok (.putfield 22, 3) := by decide +kernel
theorem dX7_init_39 : decode cX7_init 39 = .ok (.aload_n 0, 1) := by decide +kernel
theorem dX7_init_40 : decode cX7_init 40 = .ok (.sipush 139, 3) := by decide +kernel
theorem dX7_init_43 : decode cX7_init 43 = .ok (.newarray .int, 2) := by decide +kernel
theorem dX7_init_45 : decode cX7_init 45 = .ok (.putfield 25, 3) := by decide +kernel
theorem dX7_init_48 : decode cX7_init 48 = .ok (.aload_n 0, 1) := by decide +kernel
theorem dX7_init_49 : decode cX7_init 49 = .ok (.bipush 6, 2) := by decide +kernel
theorem dX7_init_51 : decode cX7_init 51 = .ok (.newarray .int, 2) := by decide +kernel
theorem dX7_init_53 : decode cX7_init 53 = .ok (.putfield 28, 3) := by decide +kernel
theorem dX7_init_56 : decode cX7_init 56 = .ok (.aload_n 0, 1) := by decide +kernel
theorem dX7_init_57 : decode cX7_init 57 = .ok (.bipush 6, 2) := by decide +kernel
theorem dX7_init_59 : decode cX7_init 59 = .ok (.newarray .int, 2) := by decide +kernel
theorem dX7_init_61 : decode cX7_init 61 = .ok (.putfield 31, 3) := by decide +kernel
theorem dX7_init_64 : decode cX7_init 64 = .ok (.aload_n 0, 1) := by decide +kernel
theorem dX7_init_65 : decode cX7_init 65 = .ok (.bipush 6, 2) := by decide +kernel
theorem dX7_init_67 : decode cX7_init 67 = .ok (.newarray .int, 2) := by decide +kernel
theorem dX7_init_69 : decode cX7_init 69 = .ok (.putfield 34, 3) := by decide +kernel
theorem dX7_init_72 : decode cX7_init 72 = .ok (.aload_n 0, 1) := by decide +kernel
theorem dX7_init_73 : decode cX7_init 73 = .ok (.bipush 6, 2) := by decide +kernel
theorem dX7_init_75 : decode cX7_init 75 = .ok (.newarray .int, 2) := by decide +kernel
theorem dX7_init_77 : decode cX7_init 77 = .ok (.putfield 37, 3) := by decide +kernel
theorem dX7_init_80 : decode cX7_init 80 = .ok (.aload_n 0, 1) := by decide +kernel
theorem dX7_init_81 : decode cX7_init 81 = .ok (.bipush 120, 2) := by decide +kernel
theorem dX7_init_83 : decode cX7_init 83 = .ok (.newarray .int, 2) := by decide +kernel
theorem dX7_init_85 : decode cX7_init 85 = .ok (.putfield 40, 3) := by decide +kernel
theorem dX7_init_88 : decode cX7_init 88 = .ok (.aload_n 0, 1) := by decide +kernel
theorem dX7_init_89 : decode cX7_init 89 = .ok (.iconst 4, 1) := by decide +kernel
theorem dX7_init_90 : decode cX7_init 90 = .ok (.newarray .int, 2) := by decide +kernel
theorem dX7_init_92 : decode cX7_init 92 = .ok (.dup, 1) := by decide +kernel
theorem dX7_init_93 : decode cX7_init 93 = .ok (.iconst 0, 1) := by decide +kernel
theorem dX7_init_94 : decode cX7_init 94 = .ok (.iconst (-1), 1) := by decide +kernel
theorem dX7_init_95 : decode cX7_init 95 = .ok (.iastore, 1) := by decide +kernel
theorem dX7_init_96 : decode cX7_init 96 = .ok (.dup, 1) := by decide +kernel
theorem dX7_init_97 : decode cX7_init 97 = .ok (.iconst 1, 1) := by decide +kernel
theorem dX7_init_98 : decode cX7_init 98 = .ok (.iconst (-1), 1) := by decide +kernel
theorem dX7_init_99 : decode cX7_init 99 = .ok (.iastore, 1) := by decide +kernel
theorem dX7_init_100 : decode cX7_init 100 = .ok (.dup, 1) := by decide +kernel
theorem dX7_init_101 : decode cX7_init 101 = .ok (.iconst 2, 1) := by decide +kernel
theorem dX7_init_102 : decode cX7_init 102 = .ok (.iconst (-1), 1) := by decide +kernel
theorem dX7_init_103 : decode cX7_init 103 = .ok (.iastore, 1) := by decide +kernel
theorem dX7_init_104 : decode cX7_init 104 = .ok (.dup, 1) := by decide +kernel
theorem dX7_init_105 : decode cX7_init 105 = .ok (.iconst 3, 1) := by decide +kernel
theorem dX7_init_106 : decode cX7_init 106 = .ok (.iconst (-1), 1) := by decide +kernel
theorem dX7_init_107 : decode cX7_init 107 = .ok (.iastore, 1) := by decide +kernel
theorem dX7_init_108 : decode cX7_init 108 = .ok (.putfield 43, 3) := by decide +kernel
theorem dX7_init_111 : decode cX7_init 111 = .ok (.aload_n 0, 1) := by decide +kernel
theorem dX7_init_112 : decode cX7_init 112 = .ok (.iconst 4, 1) := by decide +kernel
theorem dX7_init_113 : decode cX7_init 113 = .ok (.newarray .int, 2) := by decide +kernel
theorem dX7_init_115 : decode cX7_init 115 = .ok (.putfield 46, 3) := by decide +kernel
theorem dX7_init_118 : decode cX7_init 118 = .ok (.aload_n 0, 1) := by decide +kernel
theorem dX7_init_119 : decode cX7_init 119 = .ok (.iconst 4, 1) := by decide +kernel
theorem dX7_init_120 : decode cX7_init 120 = .ok (.bipush 40, 2) := by decide +kernel
theorem dX7_init_122 : decode cX7_init 122 = .ok (.multianewarray 49 2, 4) := by decide +kernel
theorem dX7_init_126 : decode cX7_init 126 = .ok (.putfield 51, 3) := by decide +kernel
theorem dX7_init_129 : decode cX7_init 129 = .ok (.aload_n 0, 1) := by decide +kernel
theorem dX7_init_130 : decode cX7_init 130 = .ok (.bipush 40, 2) := by decide +kernel
theorem dX7_init_132 : decode cX7_init 132 = .ok (.newarray .long, 2) := by decide +kernel
theorem dX7_init_134 : decode cX7_init 134 = .ok (.putfield 54, 3) := by decide +kernel
theorem dX7_init_137 : decode cX7_init 137 = .ok (.return_, 1) := by decide +kernel
theorem gwO1 : Cond.instanceMethod objectInit ∈ gw := gw_1 22 (by decide +kernel) rfl
theorem gwO2 : Cond.code objectInit ⟨#[0xb1]⟩ 1 none ∈ gw := gw_1 23 (by decide +kernel) rfl
theorem acI : Cond.arrayClass (newarray.typeOf .int) ∈ gw := gw_1 34 (by decide +kernel) rfl
theorem acB : Cond.arrayClass (newarray.typeOf .byte) ∈ gw := gw_1 152 (by decide +kernel) rfl
theorem acZ : Cond.arrayClass (newarray.typeOf .boolean) ∈ gw := gw_1 94 (by decide +kernel) rfl
theorem acJ : Cond.arrayClass (newarray.typeOf .long) ∈ gw := gw_1 169 (by decide +kernel) rfl
abbrev MX0_init : MD := (yX0_init, cX0_init, 2, none)
theorem okX0_init : OKm MX0_init 0 := ⟨gw_1 28 (by decide +kernel) rfl, gw_1 2 (by decide +kernel) rfl, by decide +kernel, by decide +kernel, by decide⟩
theorem oiX0_init : Cond.instanceMethod MX0_init.1 ∈ gw := gw_1 27 (by decide +kernel) rfl
abbrev MX2_init : MD := (yX2_init, cX2_init, 1, none)
theorem okX2_init : OKm MX2_init 0 := ⟨gw_1 39 (by decide +kernel) rfl, gw_1 3 (by decide +kernel) rfl, by decide +kernel, by decide +kernel, by decide⟩
theorem oiX2_init : Cond.instanceMethod MX2_init.1 ∈ gw := gw_1 38 (by decide +kernel) rfl
abbrev MX3_init : MD := (yX3_init, cX3_init, 1, none)
theorem okX3_init : OKm MX3_init 0 := ⟨gw_1 55 (by decide +kernel) rfl, gw_1 4 (by decide +kernel) rfl, by decide +kernel, by decide +kernel, by decide⟩
theorem oiX3_init : Cond.instanceMethod MX3_init.1 ∈ gw := gw_1 54 (by decide +kernel) rfl
abbrev MX4_init : MD := (yX4_init, cX4_init, 1, none)
theorem okX4_init : OKm MX4_init 0 := ⟨gw_1 157 (by decide +kernel) rfl, gw_1 6 (by decide +kernel) rfl, by decide +kernel, by decide +kernel, by decide⟩
theorem oiX4_init : Cond.instanceMethod MX4_init.1 ∈ gw := gw_1 156 (by decide +kernel) rfl
abbrev MX5_init : MD := (yX5_init, cX5_init, 1, none)
theorem okX5_init : OKm MX5_init 0 := ⟨gw_1 99 (by decide +kernel) rfl, gw_1 5 (by decide +kernel) rfl, by decide +kernel, by decide +kernel, by decide⟩
theorem oiX5_init : Cond.instanceMethod MX5_init.1 ∈ gw := gw_1 98 (by decide +kernel) rfl
abbrev MX6_init : MD := (yX6_init, cX6_init, 1, none)
theorem okX6_init : OKm MX6_init 0 := ⟨gw_1 20 (by decide +kernel) rfl, gw_1 1 (by decide +kernel) rfl, by decide +kernel, by decide +kernel, by decide⟩
theorem oiX6_init : Cond.instanceMethod MX6_init.1 ∈ gw := gw_1 19 (by decide +kernel) rfl
abbrev MX7_init : MD := (yX7_init, cX7_init, 1, none)
theorem okX7_init : OKm MX7_init 0 := ⟨gw_4 206 (by decide +kernel) rfl, gw_1 7 (by decide +kernel) rfl, by decide +kernel, by decide +kernel, by decide⟩
theorem oiX7_init : Cond.instanceMethod MX7_init.1 ∈ gw := gw_4 205 (by decide +kernel) rfl
theorem QcI_mk {D : va_G} {S : Type} {W1 : S → va_W} {A : Nat → Prop} {a : Array Value} {st t : State} (u : S) (hP : va_P D classes (W1 u) t.heap) (hD : va_D A (W1 u)) (hF : va_F A st t) : QcI D W1 A a st (.returned none) t := ⟨⟨u, rfl, trivial, hP, hD⟩, hF⟩
section CWI
variable {R : Room} {s : State} {args : Array Value} {M M' : MD} {d idx mc ms : Nat} {p : Program} {m : MethodId} {c : Code}
theorem A_cwI (cx : Cx M (d + 1) p R s m args c) (hm : OKm M' 0) (hlk : Cond.methodLink M.1.cls idx M'.1 ∈ gw) (hin : Cond.instanceMethod M'.1 ∈ gw) (hr : M'.2.2.2 = none) (hn : M'.1.name = "<init>") : CallB R s args M.1.cls idx M'.1 M'.2.1 M'.2.2.1 none (wsM M') (rmI d mc ms) mc ms 0 ∧ M'.1.name = "<init>" ∧ (Cond.instanceMethod M'.1).before args s = true := by
  have hts := cx.2.2.2.2.1
  have h1 := cx.2.2.2.2.2.1
  have h2 := cx.2.2.2.2.2.2
  have h3 := hm.2.2.2.2
  exact ⟨callB_of 0 hts (wsM_good hm) (by unfold wsM; rw [hr]) rfl rfl (hts _ hm.2.1) (hts _ hlk) hm.2.2.2.1 ⟨h1, by show 8 + (_ + 11) + 70 * d ≤ _; omega⟩, hn, hts _ hin⟩
theorem A_cwN {host : String} (cx : Cx M (d + 1) p R s m args c) (hm : OKm M' 0) (hlk : va_Nw (.methodLinkNest M.1.cls idx M'.1 host) s) (hin : Cond.instanceMethod M'.1 ∈ gw) (hr : M'.2.2.2 = none) (hn : M'.1.name = "<init>") : va_CN R s args M.1.cls idx M'.1 host M'.2.1 M'.2.2.1 none (wsM M') (rmI d mc ms) mc ms 0 ∧ M'.1.name = "<init>" ∧ (Cond.instanceMethod M'.1).before args s = true := by
  have hts := cx.2.2.2.2.1
  have h1 := cx.2.2.2.2.2.1
  have h2 := cx.2.2.2.2.2.2
  have h3 := hm.2.2.2.2
  exact ⟨va_cnB 0 hts (wsM_good hm) (by unfold wsM; rw [hr]) rfl rfl hlk (hts _ hm.2.1) hm.2.2.2.1 ⟨h1, by show 8 + (_ + 11) + 70 * d ≤ _; omega⟩, hn, hts _ hin⟩
end CWI
theorem inI (cB : ClassId) (k : Nat) : Jvm.Free.Multi.innerC cB k (defaultValue .int) = vp_cell cB (k, .inl (fun _ => 0)) := by
  show ({ cls := cB, slots := Array.replicate k (.int 0), vm := .none } : Cell) = { cls := cB, slots := Array.ofFn (n := k) fun _ => .int 0, vm := .none }
  congr 1
  apply Array.ext
  · simp
  · intro i h1 h2
    simp
theorem inJ (cB : ClassId) (k : Nat) : Jvm.Free.Multi.innerC cB k (defaultValue .long) = vp_cell cB (k, .inr (.inl (fun _ => 0))) := by
  show ({ cls := cB, slots := Array.replicate k (.long 0), vm := .none } : Cell) = { cls := cB, slots := Array.ofFn (n := k) fun _ => .long 0, vm := .none }
  congr 1
  apply Array.ext
  · simp
  · intro i h1 h2
    simp
theorem ooX2 : OKobj RX2 1 := ⟨gw_1 40 (by decide +kernel) rfl, gwO1, gwO2⟩
theorem ffX2_11 : FPF RX2 11 1 0 (.array .int) := ⟨_, _, _, tyX2, rfl, by decide, uwX2, gw_1 41 (by decide +kernel) rfl, tyX2_ok, nmX2, rfl, rfl, rfl⟩
set_option maxHeartbeats 4000000 in
set_option maxRecDepth 100000 in
theorem ctX2 (l : Launch) (D : va_G) (cy : Nat → ClassId) (h0 sz : Nat) : Met l MX2_init.1 (wsM MX2_init) (rmI 1 1 5301) (PcI D cy [(h0, .inr (1, [.null, .int 0, .int 0]))] h0 sz) (QcI D (fun u : Nat => [(h0, .inr (1, [.ref u, .int 0, .int 0])), (u, .inl (cy 0, 5301, .inl (fun _ => 0)))]) (va_A [(h0, .inr (1, [.null, .int 0, .int 0]))] sz)) 1 5301 (va_A [(h0, .inr (1, [.null, .int 0, .int 0]))] sz) := by
  refine Met.ofW (cc := cX2_init) (maxL := 1) (ret := none) (by decide) rfl ?_
  intro p e s m args below meth c s₁ B hml hv
  obtain ⟨rfl, hsz, hP, hD0, c0⟩ := hv
  have hts := atoms_spec (ws := wsM MX2_init) B.pre
  have cx : Cx MX2_init 1 p (headSpec (wsM MX2_init) (rmI 1 1 5301)).room s m #[.ref h0] c := ⟨B.exec, B.bytes, hml, findClass_of_methodNamed B.named, fun w hw => hts w (List.mem_cons_of_mem _ hw), Nat.le_refl _, Nat.le_refl _⟩
  have hr : meth.sig.returnType = none := B.returns
  have hlocks : meth.locks = false := B.notSynchronized
  have hi : meth.name = "<init>" := (name_of_methodNamed B.named B.method).1
  have hK := c0.1
  subst hsz
  have hD := hD0.self (sz := s.heap.size)
  generalize hAe : va_A [(h0, .inr (1, [.null, .int 0, .int 0]))] s.heap.size = A at hD ⊢
  have hA : ∀ q : Nat, s.heap.size ≤ q → A q := fun q h => by rw [← hAe]; exact Or.inr h
  have hS : va_S A s.heap s.heap [] := va_S.rf
  have hl := lv_entry ([.ref h0]) (n := 1) (Nat.le_of_ble_eq_true rfl)
  rw [lg_entry_eq]
  generalize (lg_sl ([.ref h0]) ++ List.replicate (1 - (lg_sl ([.ref h0])).length) Slot.unset).toArray = ls at hl ⊢
  have hl : lv_has ls 1 [(0, .ref h0)] := hl
  refine lv_aload_n cx.1 cx.2.1 dX2_init_0 rfl (lv_at hl 0 rfl) ?_
  refine A_obj (M := MX2_init) (pc := 1) cx hl.1 ooX2 (Nat.le_of_ble_eq_true rfl) dX2_init_1 ?_
  refine lv_aload_n cx.1 cx.2.1 dX2_init_4 rfl (lv_at hl 0 rfl) ?_
  refine lv_sipush (v := 5301) cx.1 cx.2.1 dX2_init_5 (by decide +kernel) ?_
  refine A_newa (M := MX2_init) (pc := 8) cx hK hP hD hS hA 0 (atype := .int) (N := 5301) (z := (5301, .inl (fun _ => 0))) rfl rfl (fun _ h => h) acI (fun _ => rfl) (by decide) (by decide +kernel) (Nat.le_of_ble_eq_true rfl) (Nat.le_of_ble_eq_true rfl) (Nat.le_of_ble_eq_true rfl) dX2_init_8 (fun q1 H hP hD hS => ?_)
  have hP : va_P D classes [(h0, .inr (1, [.null, .int 0, .int 0])), (q1, .inl (cy 0, 5301, .inl (fun _ => 0)))] H := hP
  have hD : va_D A [(h0, .inr (1, [.null, .int 0, .int 0])), (q1, .inl (cy 0, 5301, .inl (fun _ => 0)))] := hD
  refine W.widen (k := 1) (n := 5301) (by omega) (by omega) ?_
  refine A_putF (M := MX2_init) (pc := 10) cx hi hK hP hD hS 0 (k := 0) (v := .ref q1) ffX2_11 rfl rfl rfl (Nat.le_of_ble_eq_true rfl) dX2_init_10 (fun H locs hP hD hS => ?_)
  have hP : va_P D classes [(h0, .inr (1, [.ref q1, .int 0, .int 0])), (q1, .inl (cy 0, 5301, .inl (fun _ => 0)))] H := hP
  have hD : va_D A [(h0, .inr (1, [.ref q1, .int 0, .int 0])), (q1, .inl (cy 0, 5301, .inl (fun _ => 0)))] := hD
  exact W.vret cx.1 cx.2.1 hr (fun t ht _ => QcI_mk q1 (by rw [ht]; exact hP) hD (hS.F ht)) hS.2.2 dX2_init_13
theorem ooX3 : OKobj RX3 3 := ⟨gw_1 56 (by decide +kernel) rfl, gwO1, gwO2⟩
theorem ffX3_11 : FPF RX3 11 2 0 (.array .int) := ⟨_, _, _, tyX3, rfl, by decide, uwX3, gw_1 57 (by decide +kernel) rfl, tyX3_ok, nmX3, rfl, rfl, rfl⟩
theorem ffX3_15 : FPF RX3 15 2 1 (.array .int) := ⟨_, _, _, tyX3, rfl, by decide, uwX3, gw_1 58 (by decide +kernel) rfl, tyX3_ok, nmX3, rfl, rfl, rfl⟩
theorem ffX3_18 : FPF RX3 18 2 2 (.array .int) := ⟨_, _, _, tyX3, rfl, by decide, uwX3, gw_1 59 (by decide +kernel) rfl, tyX3_ok, nmX3, rfl, rfl, rfl⟩
theorem ffX3_21 : FPF RX3 21 2 3 (.array .int) := ⟨_, _, _, tyX3, rfl, by decide, uwX3, gw_1 60 (by decide +kernel) rfl, tyX3_ok, nmX3, rfl, rfl, rfl⟩
theorem ffX3_24 : FPF RX3 24 2 4 (.array .int) := ⟨_, _, _, tyX3, rfl, by decide, uwX3, gw_1 61 (by decide +kernel) rfl, tyX3_ok, nmX3, rfl, rfl, rfl⟩
theorem ffX3_27 : FPF RX3 27 2 5 (.array .boolean) := ⟨_, _, _, tyX3, rfl, by decide, uwX3, gw_1 62 (by decide +kernel) rfl, tyX3_ok, nmX3, rfl, rfl, rfl⟩
set_option maxHeartbeats 4000000 in
set_option maxRecDepth 100000 in
theorem ctX3 (l : Launch) (D : va_G) (cy : Nat → ClassId) (h0 sz : Nat) : Met l MX3_init.1 (wsM MX3_init) (rmI 1 6 1623) (PcI D cy [(h0, .inr (2, [.null, .null, .null, .null, .null, .null, .int 0, .int 0, .int 0, .int 0, .int 0, .int 0]))] h0 sz) (QcI D (fun u : Nat × Nat × Nat × Nat × Nat × Nat => [(h0, .inr (2, [.ref u.1, .ref u.2.1, .ref u.2.2.1, .ref u.2.2.2.1, .ref u.2.2.2.2.1, .ref u.2.2.2.2.2, .int 0, .int 0, .int 0, .int 0, .int 0, .int 0])), (u.1, .inl (cy 0, 1596, .inl (fun _ => 0))), (u.2.1, .inl (cy 0, 6, .inl (fun _ => 0))), (u.2.2.1, .inl (cy 0, 6, .inl (fun _ => 0))), (u.2.2.2.1, .inl (cy 0, 6, .inl (fun _ => 0))), (u.2.2.2.2.1, .inl (cy 0, 6, .inl (fun _ => 0))), (u.2.2.2.2.2, .inl (cy 2, 3, .inl (fun _ => 0)))]) (va_A [(h0, .inr (2, [.null, .null, .null, .null, .null, .null, .int 0, .int 0, .int 0, .int 0, .int 0, .int 0]))] sz)) 6 1623 (va_A [(h0, .inr (2, [.null, .null, .null, .null, .null, .null, .int 0, .int 0, .int 0, .int 0, .int 0, .int 0]))] sz) := by
  refine Met.ofW (cc := cX3_init) (maxL := 1) (ret := none) (by decide) rfl ?_
  intro p e s m args below meth c s₁ B hml hv
  obtain ⟨rfl, hsz, hP, hD0, c0⟩ := hv
  have hts := atoms_spec (ws := wsM MX3_init) B.pre
  have cx : Cx MX3_init 1 p (headSpec (wsM MX3_init) (rmI 1 6 1623)).room s m #[.ref h0] c := ⟨B.exec, B.bytes, hml, findClass_of_methodNamed B.named, fun w hw => hts w (List.mem_cons_of_mem _ hw), Nat.le_refl _, Nat.le_refl _⟩
  have hr : meth.sig.returnType = none := B.returns
  have hlocks : meth.locks = false := B.notSynchronized
  have hi : meth.name = "<init>" := (name_of_methodNamed B.named B.method).1
  have hK := c0.1
  subst hsz
  have hD := hD0.self (sz := s.heap.size)
  generalize hAe : va_A [(h0, .inr (2, [.null, .null, .null, .null, .null, .null, .int 0, .int 0, .int 0, .int 0, .int 0, .int 0]))] s.heap.size = A at hD ⊢
  have hA : ∀ q : Nat, s.heap.size ≤ q → A q := fun q h => by rw [← hAe]; exact Or.inr h
  have hS : va_S A s.heap s.heap [] := va_S.rf
  have hl := lv_entry ([.ref h0]) (n := 1) (Nat.le_of_ble_eq_true rfl)
  rw [lg_entry_eq]
  generalize (lg_sl ([.ref h0]) ++ List.replicate (1 - (lg_sl ([.ref h0])).length) Slot.unset).toArray = ls at hl ⊢
  have hl : lv_has ls 1 [(0, .ref h0)] := hl
  refine lv_aload_n cx.1 cx.2.1 dX3_init_0 rfl (lv_at hl 0 rfl) ?_
  refine A_obj (M := MX3_init) (pc := 1) cx hl.1 ooX3 (Nat.le_of_ble_eq_true rfl) dX3_init_1 ?_
  refine lv_aload_n cx.1 cx.2.1 dX3_init_4 rfl (lv_at hl 0 rfl) ?_
  refine lv_sipush (v := 1596) cx.1 cx.2.1 dX3_init_5 (by decide +kernel) ?_
  refine A_newa (M := MX3_init) (pc := 8) cx hK hP hD hS hA 0 (atype := .int) (N := 1596) (z := (1596, .inl (fun _ => 0))) rfl rfl (fun _ h => h) acI (fun _ => rfl) (by decide) (by decide +kernel) (Nat.le_of_ble_eq_true rfl) (Nat.le_of_ble_eq_true rfl) (Nat.le_of_ble_eq_true rfl) dX3_init_8 (fun q1 H hP hD hS => ?_)
  have hP : va_P D classes [(h0, .inr (2, [.null, .null, .null, .null, .null, .null, .int 0, .int 0, .int 0, .int 0, .int 0, .int 0])), (q1, .inl (cy 0, 1596, .inl (fun _ => 0)))] H := hP
  have hD : va_D A [(h0, .inr (2, [.null, .null, .null, .null, .null, .null, .int 0, .int 0, .int 0, .int 0, .int 0, .int 0])), (q1, .inl (cy 0, 1596, .inl (fun _ => 0)))] := hD
  refine W.widen (k := 1) (n := 1596) (by omega) (by omega) ?_
  refine A_putF (M := MX3_init) (pc := 10) cx hi hK hP hD hS 0 (k := 0) (v := .ref q1) ffX3_11 rfl rfl rfl (Nat.le_of_ble_eq_true rfl) dX3_init_10 (fun H locs hP hD hS => ?_)
  have hP : va_P D classes [(h0, .inr (2, [.ref q1, .null, .null, .null, .null, .null, .int 0, .int 0, .int 0, .int 0, .int 0, .int 0])), (q1, .inl (cy 0, 1596, .inl (fun _ => 0)))] H := hP
  have hD : va_D A [(h0, .inr (2, [.ref q1, .null, .null, .null, .null, .null, .int 0, .int 0, .int 0, .int 0, .int 0, .int 0])), (q1, .inl (cy 0, 1596, .inl (fun _ => 0)))] := hD
  refine lv_aload_n cx.1 cx.2.1 dX3_init_13 rfl (lv_at hl 0 rfl) ?_
  refine lv_bipush (v := 6) cx.1 cx.2.1 dX3_init_14 (by decide +kernel) ?_
  refine A_newa (M := MX3_init) (pc := 16) cx hK hP hD hS hA 0 (atype := .int) (N := 6) (z := (6, .inl (fun _ => 0))) rfl rfl (fun _ h => h) acI (fun _ => rfl) (by decide) (by decide +kernel) (Nat.le_of_ble_eq_true rfl) (Nat.le_of_ble_eq_true rfl) (Nat.le_of_ble_eq_true rfl) dX3_init_16 (fun q2 H hP hD hS => ?_)
  have hP : va_P D classes [(h0, .inr (2, [.ref q1, .null, .null, .null, .null, .null, .int 0, .int 0, .int 0, .int 0, .int 0, .int 0])), (q1, .inl (cy 0, 1596, .inl (fun _ => 0))), (q2, .inl (cy 0, 6, .inl (fun _ => 0)))] H := hP
  have hD : va_D A [(h0, .inr (2, [.ref q1, .null, .null, .null, .null, .null, .int 0, .int 0, .int 0, .int 0, .int 0, .int 0])), (q1, .inl (cy 0, 1596, .inl (fun _ => 0))), (q2, .inl (cy 0, 6, .inl (fun _ => 0)))] := hD
  refine W.widen (k := 2) (n := 1602) (by omega) (by omega) ?_
  refine A_putF (M := MX3_init) (pc := 18) cx hi hK hP hD hS 0 (k := 1) (v := .ref q2) ffX3_15 rfl rfl rfl (Nat.le_of_ble_eq_true rfl) dX3_init_18 (fun H locs hP hD hS => ?_)
  have hP : va_P D classes [(h0, .inr (2, [.ref q1, .ref q2, .null, .null, .null, .null, .int 0, .int 0, .int 0, .int 0, .int 0, .int 0])), (q1, .inl (cy 0, 1596, .inl (fun _ => 0))), (q2, .inl (cy 0, 6, .inl (fun _ => 0)))] H := hP
  have hD : va_D A [(h0, .inr (2, [.ref q1, .ref q2, .null, .null, .null, .null, .int 0, .int 0, .int 0, .int 0, .int 0, .int 0])), (q1, .inl (cy 0, 1596, .inl (fun _ => 0))), (q2, .inl (cy 0, 6, .inl (fun _ => 0)))] := hD
  refine lv_aload_n cx.1 cx.2.1 dX3_init_21 rfl (lv_at hl 0 rfl) ?_
  refine lv_bipush (v := 6) cx.1 cx.2.1 dX3_init_22 (by decide +kernel) ?_
  refine A_newa (M := MX3_init) (pc := 24) cx hK hP hD hS hA 0 (atype := .int) (N := 6) (z := (6, .inl (fun _ => 0))) rfl rfl (fun _ h => h) acI (fun _ => rfl) (by decide) (by decide +kernel) (Nat.le_of_ble_eq_true rfl) (Nat.le_of_ble_eq_true rfl) (Nat.le_of_ble_eq_true rfl) dX3_init_24 (fun q3 H hP hD hS => ?_)
  have hP : va_P D classes [(h0, .inr (2, [.ref q1, .ref q2, .null, .null, .null, .null, .int 0, .int 0, .int 0, .int 0, .int 0, .int 0])), (q1, .inl (cy 0, 1596, .inl (fun _ => 0))), (q2, .inl (cy 0, 6, .inl (fun _ => 0))), (q3, .inl (cy 0, 6, .inl (fun _ => 0)))] H := hP
  have hD : va_D A [(h0, .inr (2, [.ref q1, .ref q2, .null, .null, .null, .null, .int 0, .int 0, .int 0, .int 0, .int 0, .int 0])), (q1, .inl (cy 0, 1596, .inl (fun _ => 0))), (q2, .inl (cy 0, 6, .inl (fun _ => 0))), (q3, .inl (cy 0, 6, .inl (fun _ => 0)))] := hD
  refine W.widen (k := 3) (n := 1608) (by omega) (by omega) ?_
  refine A_putF (M := MX3_init) (pc := 26) cx hi hK hP hD hS 0 (k := 2) (v := .ref q3) ffX3_18 rfl rfl rfl (Nat.le_of_ble_eq_true rfl) dX3_init_26 (fun H locs hP hD hS => ?_)
  have hP : va_P D classes [(h0, .inr (2, [.ref q1, .ref q2, .ref q3, .null, .null, .null, .int 0, .int 0, .int 0, .int 0, .int 0, .int 0])), (q1, .inl (cy 0, 1596, .inl (fun _ => 0))), (q2, .inl (cy 0, 6, .inl (fun _ => 0))), (q3, .inl (cy 0, 6, .inl (fun _ => 0)))] H := hP
  have hD : va_D A [(h0, .inr (2, [.ref q1, .ref q2, .ref q3, .null, .null, .null, .int 0, .int 0, .int 0, .int 0, .int 0, .int 0])), (q1, .inl (cy 0, 1596, .inl (fun _ => 0))), (q2, .inl (cy 0, 6, .inl (fun _ => 0))), (q3, .inl (cy 0, 6, .inl (fun _ => 0)))] := hD
  refine lv_aload_n cx.1 cx.2.1 dX3_init_29 rfl (lv_at hl 0 rfl) ?_
  refine lv_bipush (v := 6) cx.1 cx.2.1 dX3_init_30 (by decide +kernel) ?_
  refine A_newa (M := MX3_init) (pc := 32) cx hK hP hD hS hA 0 (atype := .int) (N := 6) (z := (6, .inl (fun _ => 0))) rfl rfl (fun _ h => h) acI (fun _ => rfl) (by decide) (by decide +kernel) (Nat.le_of_ble_eq_true rfl) (Nat.le_of_ble_eq_true rfl) (Nat.le_of_ble_eq_true rfl) dX3_init_32 (fun q4 H hP hD hS => ?_)
  have hP : va_P D classes [(h0, .inr (2, [.ref q1, .ref q2, .ref q3, .null, .null, .null, .int 0, .int 0, .int 0, .int 0, .int 0, .int 0])), (q1, .inl (cy 0, 1596, .inl (fun _ => 0))), (q2, .inl (cy 0, 6, .inl (fun _ => 0))), (q3, .inl (cy 0, 6, .inl (fun _ => 0))), (q4, .inl (cy 0, 6, .inl (fun _ => 0)))] H := hP
  have hD : va_D A [(h0, .inr (2, [.ref q1, .ref q2, .ref q3, .null, .null, .null, .int 0, .int 0, .int 0, .int 0, .int 0, .int 0])), (q1, .inl (cy 0, 1596, .inl (fun _ => 0))), (q2, .inl (cy 0, 6, .inl (fun _ => 0))), (q3, .inl (cy 0, 6, .inl (fun _ => 0))), (q4, .inl (cy 0, 6, .inl (fun _ => 0)))] := hD
  refine W.widen (k := 4) (n := 1614) (by omega) (by omega) ?_
  refine A_putF (M := MX3_init) (pc := 34) cx hi hK hP hD hS 0 (k := 3) (v := .ref q4) ffX3_21 rfl rfl rfl (Nat.le_of_ble_eq_true rfl) dX3_init_34 (fun H locs hP hD hS => ?_)
  have hP : va_P D classes [(h0, .inr (2, [.ref q1, .ref q2, .ref q3, .ref q4, .null, .null, .int 0, .int 0, .int 0, .int 0, .int 0, .int 0])), (q1, .inl (cy 0, 1596, .inl (fun _ => 0))), (q2, .inl (cy 0, 6, .inl (fun _ => 0))), (q3, .inl (cy 0, 6, .inl (fun _ => 0))), (q4, .inl (cy 0, 6, .inl (fun _ => 0)))] H := hP
  have hD : va_D A [(h0, .inr (2, [.ref q1, .ref q2, .ref q3, .ref q4, .null, .null, .int 0, .int 0, .int 0, .int 0, .int 0, .int 0])), (q1, .inl (cy 0, 1596, .inl (fun _ => 0))), (q2, .inl (cy 0, 6, .inl (fun _ => 0))), (q3, .inl (cy 0, 6, .inl (fun _ => 0))), (q4, .inl (cy 0, 6, .inl (fun _ => 0)))] := hD
  refine lv_aload_n cx.1 cx.2.1 dX3_init_37 rfl (lv_at hl 0 rfl) ?_
  refine lv_bipush (v := 6) cx.1 cx.2.1 dX3_init_38 (by decide +kernel) ?_
  refine A_newa (M := MX3_init) (pc := 40) cx hK hP hD hS hA 0 (atype := .int) (N := 6) (z := (6, .inl (fun _ => 0))) rfl rfl (fun _ h => h) acI (fun _ => rfl) (by decide) (by decide +kernel) (Nat.le_of_ble_eq_true rfl) (Nat.le_of_ble_eq_true rfl) (Nat.le_of_ble_eq_true rfl) dX3_init_40 (fun q5 H hP hD hS => ?_)
  have hP : va_P D classes [(h0, .inr (2, [.ref q1, .ref q2, .ref q3, .ref q4, .null, .null, .int 0, .int 0, .int 0, .int 0, .int 0, .int 0])), (q1, .inl (cy 0, 1596, .inl (fun _ => 0))), (q2, .inl (cy 0, 6, .inl (fun _ => 0))), (q3, .inl (cy 0, 6, .inl (fun _ => 0))), (q4, .inl (cy 0, 6, .inl (fun _ => 0))), (q5, .inl (cy 0, 6, .inl (fun _ => 0)))] H := hP
  have hD : va_D A [(h0, .inr (2, [.ref q1, .ref q2, .ref q3, .ref q4, .null, .null, .int 0, .int 0, .int 0, .int 0, .int 0, .int 0])), (q1, .inl (cy 0, 1596, .inl (fun _ => 0))), (q2, .inl (cy 0, 6, .inl (fun _ => 0))), (q3, .inl (cy 0, 6, .inl (fun _ => 0))), (q4, .inl (cy 0, 6, .inl (fun _ => 0))), (q5, .inl (cy 0, 6, .inl (fun _ => 0)))] := hD
  refine W.widen (k := 5) (n := 1620) (by omega) (by omega) ?_
  refine A_putF (M := MX3_init) (pc := 42) cx hi hK hP hD hS 0 (k := 4) (v := .ref q5) ffX3_24 rfl rfl rfl (Nat.le_of_ble_eq_true rfl) dX3_init_42 (fun H locs hP hD hS => ?_)
  have hP : va_P D classes [(h0, .inr (2, [.ref q1, .ref q2, .ref q3, .ref q4, .ref q5, .null, .int 0, .int 0, .int 0, .int 0, .int 0, .int 0])), (q1, .inl (cy 0, 1596, .inl (fun _ => 0))), (q2, .inl (cy 0, 6, .inl (fun _ => 0))), (q3, .inl (cy 0, 6, .inl (fun _ => 0))), (q4, .inl (cy 0, 6, .inl (fun _ => 0))), (q5, .inl (cy 0, 6, .inl (fun _ => 0)))] H := hP
  have hD : va_D A [(h0, .inr (2, [.ref q1, .ref q2, .ref q3, .ref q4, .ref q5, .null, .int 0, .int 0, .int 0, .int 0, .int 0, .int 0])), (q1, .inl (cy 0, 1596, .inl (fun _ => 0))), (q2, .inl (cy 0, 6, .inl (fun _ => 0))), (q3, .inl (cy 0, 6, .inl (fun _ => 0))), (q4, .inl (cy 0, 6, .inl (fun _ => 0))), (q5, .inl (cy 0, 6, .inl (fun _ => 0)))] := hD
  refine lv_aload_n cx.1 cx.2.1 dX3_init_45 rfl (lv_at hl 0 rfl) ?_
  refine lv_iconst (v := 3) cx.1 cx.2.1 dX3_init_46 (by decide +kernel) ?_
  refine A_newa (M := MX3_init) (pc := 47) cx hK hP hD hS hA 2 (atype := .boolean) (N := 3) (z := (3, .inl (fun _ => 0))) rfl rfl (fun _ h => h) acZ (fun _ => rfl) (by decide) (by decide +kernel) (Nat.le_of_ble_eq_true rfl) (Nat.le_of_ble_eq_true rfl) (Nat.le_of_ble_eq_true rfl) dX3_init_47 (fun q6 H hP hD hS => ?_)
  have hP : va_P D classes [(h0, .inr (2, [.ref q1, .ref q2, .ref q3, .ref q4, .ref q5, .null, .int 0, .int 0, .int 0, .int 0, .int 0, .int 0])), (q1, .inl (cy 0, 1596, .inl (fun _ => 0))), (q2, .inl (cy 0, 6, .inl (fun _ => 0))), (q3, .inl (cy 0, 6, .inl (fun _ => 0))), (q4, .inl (cy 0, 6, .inl (fun _ => 0))), (q5, .inl (cy 0, 6, .inl (fun _ => 0))), (q6, .inl (cy 2, 3, .inl (fun _ => 0)))] H := hP
  have hD : va_D A [(h0, .inr (2, [.ref q1, .ref q2, .ref q3, .ref q4, .ref q5, .null, .int 0, .int 0, .int 0, .int 0, .int 0, .int 0])), (q1, .inl (cy 0, 1596, .inl (fun _ => 0))), (q2, .inl (cy 0, 6, .inl (fun _ => 0))), (q3, .inl (cy 0, 6, .inl (fun _ => 0))), (q4, .inl (cy 0, 6, .inl (fun _ => 0))), (q5, .inl (cy 0, 6, .inl (fun _ => 0))), (q6, .inl (cy 2, 3, .inl (fun _ => 0)))] := hD
  refine W.widen (k := 6) (n := 1623) (by omega) (by omega) ?_
  refine A_putF (M := MX3_init) (pc := 49) cx hi hK hP hD hS 0 (k := 5) (v := .ref q6) ffX3_27 rfl rfl rfl (Nat.le_of_ble_eq_true rfl) dX3_init_49 (fun H locs hP hD hS => ?_)
  have hP : va_P D classes [(h0, .inr (2, [.ref q1, .ref q2, .ref q3, .ref q4, .ref q5, .ref q6, .int 0, .int 0, .int 0, .int 0, .int 0, .int 0])), (q1, .inl (cy 0, 1596, .inl (fun _ => 0))), (q2, .inl (cy 0, 6, .inl (fun _ => 0))), (q3, .inl (cy 0, 6, .inl (fun _ => 0))), (q4, .inl (cy 0, 6, .inl (fun _ => 0))), (q5, .inl (cy 0, 6, .inl (fun _ => 0))), (q6, .inl (cy 2, 3, .inl (fun _ => 0)))] H := hP
  have hD : va_D A [(h0, .inr (2, [.ref q1, .ref q2, .ref q3, .ref q4, .ref q5, .ref q6, .int 0, .int 0, .int 0, .int 0, .int 0, .int 0])), (q1, .inl (cy 0, 1596, .inl (fun _ => 0))), (q2, .inl (cy 0, 6, .inl (fun _ => 0))), (q3, .inl (cy 0, 6, .inl (fun _ => 0))), (q4, .inl (cy 0, 6, .inl (fun _ => 0))), (q5, .inl (cy 0, 6, .inl (fun _ => 0))), (q6, .inl (cy 2, 3, .inl (fun _ => 0)))] := hD
  exact W.vret cx.1 cx.2.1 hr (fun t ht _ => QcI_mk (q1, q2, q3, q4, q5, q6) (by rw [ht]; exact hP) hD (hS.F ht)) hS.2.2 dX3_init_52
theorem ooX4 : OKobj RX4 1 := ⟨gw_1 158 (by decide +kernel) rfl, gwO1, gwO2⟩
theorem ffX4_9 : FPF RX4 9 3 0 (.array .long) := ⟨_, _, _, tyX4, rfl, by decide, uwX4, gw_1 159 (by decide +kernel) rfl, tyX4_ok, nmX4, rfl, rfl, rfl⟩
theorem ffX4_13 : FPF RX4 13 3 1 (.array .int) := ⟨_, _, _, tyX4, rfl, by decide, uwX4, gw_1 160 (by decide +kernel) rfl, tyX4_ok, nmX4, rfl, rfl, rfl⟩
theorem ffX4_17 : FPF RX4 17 3 2 (.array .int) := ⟨_, _, _, tyX4, rfl, by decide, uwX4, gw_1 161 (by decide +kernel) rfl, tyX4_ok, nmX4, rfl, rfl, rfl⟩
set_option maxHeartbeats 4000000 in
set_option maxRecDepth 100000 in
theorem ctX4 (l : Launch) (D : va_G) (cy : Nat → ClassId) (h0 sz : Nat) : Met l MX4_init.1 (wsM MX4_init) (rmI 1 3 168) (PcI D cy [(h0, .inr (3, [.null, .null, .null]))] h0 sz) (QcI D (fun u : Nat × Nat × Nat => [(h0, .inr (3, [.ref u.1, .ref u.2.1, .ref u.2.2])), (u.1, .inl (cy 3, 160, .inr (.inl (fun _ => 0)))), (u.2.1, .inl (cy 0, 4, .inl (upd (upd (upd (upd (fun _ => 0) 0 (-1)) 1 (-1)) 2 (-1)) 3 (-1)))), (u.2.2, .inl (cy 0, 4, .inl (fun _ => 0)))]) (va_A [(h0, .inr (3, [.null, .null, .null]))] sz)) 3 168 (va_A [(h0, .inr (3, [.null, .null, .null]))] sz) := by
  refine Met.ofW (cc := cX4_init) (maxL := 1) (ret := none) (by decide) rfl ?_
  intro p e s m args below meth c s₁ B hml hv
  obtain ⟨rfl, hsz, hP, hD0, c0⟩ := hv
  have hts := atoms_spec (ws := wsM MX4_init) B.pre
  have cx : Cx MX4_init 1 p (headSpec (wsM MX4_init) (rmI 1 3 168)).room s m #[.ref h0] c := ⟨B.exec, B.bytes, hml, findClass_of_methodNamed B.named, fun w hw => hts w (List.mem_cons_of_mem _ hw), Nat.le_refl _, Nat.le_refl _⟩
  have hr : meth.sig.returnType = none := B.returns
  have hlocks : meth.locks = false := B.notSynchronized
  have hi : meth.name = "<init>" := (name_of_methodNamed B.named B.method).1
  have hK := c0.1
  subst hsz
  have hD := hD0.self (sz := s.heap.size)
  generalize hAe : va_A [(h0, .inr (3, [.null, .null, .null]))] s.heap.size = A at hD ⊢
  have hA : ∀ q : Nat, s.heap.size ≤ q → A q := fun q h => by rw [← hAe]; exact Or.inr h
  have hS : va_S A s.heap s.heap [] := va_S.rf
  have hl := lv_entry ([.ref h0]) (n := 1) (Nat.le_of_ble_eq_true rfl)
  rw [lg_entry_eq]
  generalize (lg_sl ([.ref h0]) ++ List.replicate (1 - (lg_sl ([.ref h0])).length) Slot.unset).toArray = ls at hl ⊢
  have hl : lv_has ls 1 [(0, .ref h0)] := hl
  refine lv_aload_n cx.1 cx.2.1 dX4_init_0 rfl (lv_at hl 0 rfl) ?_
  refine A_obj (M := MX4_init) (pc := 1) cx hl.1 ooX4 (Nat.le_of_ble_eq_true rfl) dX4_init_1 ?_
  refine lv_aload_n cx.1 cx.2.1 dX4_init_4 rfl (lv_at hl 0 rfl) ?_
  refine lv_sipush (v := 160) cx.1 cx.2.1 dX4_init_5 (by decide +kernel) ?_
  refine A_newa (M := MX4_init) (pc := 8) cx hK hP hD hS hA 3 (atype := .long) (N := 160) (z := (160, .inr (.inl (fun _ => 0)))) rfl rfl (fun _ h => h) acJ (fun _ => rfl) (by decide) (by decide +kernel) (Nat.le_of_ble_eq_true rfl) (Nat.le_of_ble_eq_true rfl) (Nat.le_of_ble_eq_true rfl) dX4_init_8 (fun q1 H hP hD hS => ?_)
  have hP : va_P D classes [(h0, .inr (3, [.null, .null, .null])), (q1, .inl (cy 3, 160, .inr (.inl (fun _ => 0))))] H := hP
  have hD : va_D A [(h0, .inr (3, [.null, .null, .null])), (q1, .inl (cy 3, 160, .inr (.inl (fun _ => 0))))] := hD
  refine W.widen (k := 1) (n := 160) (by omega) (by omega) ?_
  refine A_putF (M := MX4_init) (pc := 10) cx hi hK hP hD hS 0 (k := 0) (v := .ref q1) ffX4_9 rfl rfl rfl (Nat.le_of_ble_eq_true rfl) dX4_init_10 (fun H locs hP hD hS => ?_)
  have hP : va_P D classes [(h0, .inr (3, [.ref q1, .null, .null])), (q1, .inl (cy 3, 160, .inr (.inl (fun _ => 0))))] H := hP
  have hD : va_D A [(h0, .inr (3, [.ref q1, .null, .null])), (q1, .inl (cy 3, 160, .inr (.inl (fun _ => 0))))] := hD
  refine lv_aload_n cx.1 cx.2.1 dX4_init_13 rfl (lv_at hl 0 rfl) ?_
  refine lv_iconst (v := 4) cx.1 cx.2.1 dX4_init_14 (by decide +kernel) ?_
  refine A_newa (M := MX4_init) (pc := 15) cx hK hP hD hS hA 0 (atype := .int) (N := 4) (z := (4, .inl (fun _ => 0))) rfl rfl (fun _ h => h) acI (fun _ => rfl) (by decide) (by decide +kernel) (Nat.le_of_ble_eq_true rfl) (Nat.le_of_ble_eq_true rfl) (Nat.le_of_ble_eq_true rfl) dX4_init_15 (fun q2 H hP hD hS => ?_)
  have hP : va_P D classes [(h0, .inr (3, [.ref q1, .null, .null])), (q1, .inl (cy 3, 160, .inr (.inl (fun _ => 0)))), (q2, .inl (cy 0, 4, .inl (fun _ => 0)))] H := hP
  have hD : va_D A [(h0, .inr (3, [.ref q1, .null, .null])), (q1, .inl (cy 3, 160, .inr (.inl (fun _ => 0)))), (q2, .inl (cy 0, 4, .inl (fun _ => 0)))] := hD
  refine W.widen (k := 2) (n := 164) (by omega) (by omega) ?_
  refine lv_dup cx.1 cx.2.1 dX4_init_17 rfl ?_
  refine lv_iconst (v := 0) cx.1 cx.2.1 dX4_init_18 (by decide +kernel) ?_
  refine lv_iconst (v := -1) cx.1 cx.2.1 dX4_init_19 (by decide +kernel) ?_
  refine A_iast (M := MX4_init) (pc := 20) cx hK hP hD hS 2 rfl (by unfold vp_in; decide +kernel) dX4_init_20 (fun H locs hP hD hS => ?_)
  have hP : va_P D classes [(h0, .inr (3, [.ref q1, .null, .null])), (q1, .inl (cy 3, 160, .inr (.inl (fun _ => 0)))), (q2, .inl (cy 0, 4, .inl (upd (fun _ => 0) 0 (-1))))] H := hP
  have hD : va_D A [(h0, .inr (3, [.ref q1, .null, .null])), (q1, .inl (cy 3, 160, .inr (.inl (fun _ => 0)))), (q2, .inl (cy 0, 4, .inl (upd (fun _ => 0) 0 (-1))))] := hD
  refine lv_dup cx.1 cx.2.1 dX4_init_21 rfl ?_
  refine lv_iconst (v := 1) cx.1 cx.2.1 dX4_init_22 (by decide +kernel) ?_
  refine lv_iconst (v := -1) cx.1 cx.2.1 dX4_init_23 (by decide +kernel) ?_
  refine A_iast (M := MX4_init) (pc := 24) cx hK hP hD hS 2 rfl (by unfold vp_in; decide +kernel) dX4_init_24 (fun H locs hP hD hS => ?_)
  have hP : va_P D classes [(h0, .inr (3, [.ref q1, .null, .null])), (q1, .inl (cy 3, 160, .inr (.inl (fun _ => 0)))), (q2, .inl (cy 0, 4, .inl (upd (upd (fun _ => 0) 0 (-1)) 1 (-1))))] H := hP
  have hD : va_D A [(h0, .inr (3, [.ref q1, .null, .null])), (q1, .inl (cy 3, 160, .inr (.inl (fun _ => 0)))), (q2, .inl (cy 0, 4, .inl (upd (upd (fun _ => 0) 0 (-1)) 1 (-1))))] := hD
  refine lv_dup cx.1 cx.2.1 dX4_init_25 rfl ?_
  refine lv_iconst (v := 2) cx.1 cx.2.1 dX4_init_26 (by decide +kernel) ?_
  refine lv_iconst (v := -1) cx.1 cx.2.1 dX4_init_27 (by decide +kernel) ?_
  refine A_iast (M := MX4_init) (pc := 28) cx hK hP hD hS 2 rfl (by unfold vp_in; decide +kernel) dX4_init_28 (fun H locs hP hD hS => ?_)
  have hP : va_P D classes [(h0, .inr (3, [.ref q1, .null, .null])), (q1, .inl (cy 3, 160, .inr (.inl (fun _ => 0)))), (q2, .inl (cy 0, 4, .inl (upd (upd (upd (fun _ => 0) 0 (-1)) 1 (-1)) 2 (-1))))] H := hP
  have hD : va_D A [(h0, .inr (3, [.ref q1, .null, .null])), (q1, .inl (cy 3, 160, .inr (.inl (fun _ => 0)))), (q2, .inl (cy 0, 4, .inl (upd (upd (upd (fun _ => 0) 0 (-1)) 1 (-1)) 2 (-1))))] := hD
  refine lv_dup cx.1 cx.2.1 dX4_init_29 rfl ?_
  refine lv_iconst (v := 3) cx.1 cx.2.1 dX4_init_30 (by decide +kernel) ?_
  refine lv_iconst (v := -1) cx.1 cx.2.1 dX4_init_31 (by decide +kernel) ?_
  refine A_iast (M := MX4_init) (pc := 32) cx hK hP hD hS 2 rfl (by unfold vp_in; decide +kernel) dX4_init_32 (fun H locs hP hD hS => ?_)
  have hP : va_P D classes [(h0, .inr (3, [.ref q1, .null, .null])), (q1, .inl (cy 3, 160, .inr (.inl (fun _ => 0)))), (q2, .inl (cy 0, 4, .inl (upd (upd (upd (upd (fun _ => 0) 0 (-1)) 1 (-1)) 2 (-1)) 3 (-1))))] H := hP
  have hD : va_D A [(h0, .inr (3, [.ref q1, .null, .null])), (q1, .inl (cy 3, 160, .inr (.inl (fun _ => 0)))), (q2, .inl (cy 0, 4, .inl (upd (upd (upd (upd (fun _ => 0) 0 (-1)) 1 (-1)) 2 (-1)) 3 (-1))))] := hD
  refine A_putF (M := MX4_init) (pc := 33) cx hi hK hP hD hS 0 (k := 1) (v := .ref q2) ffX4_13 rfl rfl rfl (Nat.le_of_ble_eq_true rfl) dX4_init_33 (fun H locs hP hD hS => ?_)
  have hP : va_P D classes [(h0, .inr (3, [.ref q1, .ref q2, .null])), (q1, .inl (cy 3, 160, .inr (.inl (fun _ => 0)))), (q2, .inl (cy 0, 4, .inl (upd (upd (upd (upd (fun _ => 0) 0 (-1)) 1 (-1)) 2 (-1)) 3 (-1))))] H := hP
  have hD : va_D A [(h0, .inr (3, [.ref q1, .ref q2, .null])), (q1, .inl (cy 3, 160, .inr (.inl (fun _ => 0)))), (q2, .inl (cy 0, 4, .inl (upd (upd (upd (upd (fun _ => 0) 0 (-1)) 1 (-1)) 2 (-1)) 3 (-1))))] := hD
  refine lv_aload_n cx.1 cx.2.1 dX4_init_36 rfl (lv_at hl 0 rfl) ?_
  refine lv_iconst (v := 4) cx.1 cx.2.1 dX4_init_37 (by decide +kernel) ?_
  refine A_newa (M := MX4_init) (pc := 38) cx hK hP hD hS hA 0 (atype := .int) (N := 4) (z := (4, .inl (fun _ => 0))) rfl rfl (fun _ h => h) acI (fun _ => rfl) (by decide) (by decide +kernel) (Nat.le_of_ble_eq_true rfl) (Nat.le_of_ble_eq_true rfl) (Nat.le_of_ble_eq_true rfl) dX4_init_38 (fun q3 H hP hD hS => ?_)
  have hP : va_P D classes [(h0, .inr (3, [.ref q1, .ref q2, .null])), (q1, .inl (cy 3, 160, .inr (.inl (fun _ => 0)))), (q2, .inl (cy 0, 4, .inl (upd (upd (upd (upd (fun _ => 0) 0 (-1)) 1 (-1)) 2 (-1)) 3 (-1)))), (q3, .inl (cy 0, 4, .inl (fun _ => 0)))] H := hP
  have hD : va_D A [(h0, .inr (3, [.ref q1, .ref q2, .null])), (q1, .inl (cy 3, 160, .inr (.inl (fun _ => 0)))), (q2, .inl (cy 0, 4, .inl (upd (upd (upd (upd (fun _ => 0) 0 (-1)) 1 (-1)) 2 (-1)) 3 (-1)))), (q3, .inl (cy 0, 4, .inl (fun _ => 0)))] := hD
  refine W.widen (k := 3) (n := 168) (by omega) (by omega) ?_
  refine A_putF (M := MX4_init) (pc := 40) cx hi hK hP hD hS 0 (k := 2) (v := .ref q3) ffX4_17 rfl rfl rfl (Nat.le_of_ble_eq_true rfl) dX4_init_40 (fun H locs hP hD hS => ?_)
  have hP : va_P D classes [(h0, .inr (3, [.ref q1, .ref q2, .ref q3])), (q1, .inl (cy 3, 160, .inr (.inl (fun _ => 0)))), (q2, .inl (cy 0, 4, .inl (upd (upd (upd (upd (fun _ => 0) 0 (-1)) 1 (-1)) 2 (-1)) 3 (-1)))), (q3, .inl (cy 0, 4, .inl (fun _ => 0)))] H := hP
  have hD : va_D A [(h0, .inr (3, [.ref q1, .ref q2, .ref q3])), (q1, .inl (cy 3, 160, .inr (.inl (fun _ => 0)))), (q2, .inl (cy 0, 4, .inl (upd (upd (upd (upd (fun _ => 0) 0 (-1)) 1 (-1)) 2 (-1)) 3 (-1)))), (q3, .inl (cy 0, 4, .inl (fun _ => 0)))] := hD
  exact W.vret cx.1 cx.2.1 hr (fun t ht _ => QcI_mk (q1, q2, q3) (by rw [ht]; exact hP) hD (hS.F ht)) hS.2.2 dX4_init_43
theorem ooX5 : OKobj RX5 3 := ⟨gw_1 100 (by decide +kernel) rfl, gwO1, gwO2⟩
theorem ffX5_11 : FPF RX5 11 4 0 (.array .byte) := ⟨_, _, _, tyX5, rfl, by decide, uwX5, gw_1 101 (by decide +kernel) rfl, tyX5_ok, nmX5, rfl, rfl, rfl⟩
set_option maxHeartbeats 4000000 in
set_option maxRecDepth 100000 in
theorem ctX5 (l : Launch) (D : va_G) (cy : Nat → ClassId) (h0 sz : Nat) : Met l MX5_init.1 (wsM MX5_init) (rmI 1 1 120) (PcI D cy [(h0, .inr (4, [.null, .int 0, .int 0, .int 0, .int 0, .int 0, .int 0, .int 0, .int 0, .int 0, .int 0, .int 0, .int 0, .int 0]))] h0 sz) (QcI D (fun u : Nat => [(h0, .inr (4, [.ref u, .int 0, .int 0, .int 0, .int 0, .int 0, .int 0, .int 0, .int 0, .int 0, .int 0, .int 0, .int 0, .int 0])), (u, .inl (cy 1, 120, .inl (fun _ => 0)))]) (va_A [(h0, .inr (4, [.null, .int 0, .int 0, .int 0, .int 0, .int 0, .int 0, .int 0, .int 0, .int 0, .int 0, .int 0, .int 0, .int 0]))] sz)) 1 120 (va_A [(h0, .inr (4, [.null, .int 0, .int 0, .int 0, .int 0, .int 0, .int 0, .int 0, .int 0, .int 0, .int 0, .int 0, .int 0, .int 0]))] sz) := by
  refine Met.ofW (cc := cX5_init) (maxL := 1) (ret := none) (by decide) rfl ?_
  intro p e s m args below meth c s₁ B hml hv
  obtain ⟨rfl, hsz, hP, hD0, c0⟩ := hv
  have hts := atoms_spec (ws := wsM MX5_init) B.pre
  have cx : Cx MX5_init 1 p (headSpec (wsM MX5_init) (rmI 1 1 120)).room s m #[.ref h0] c := ⟨B.exec, B.bytes, hml, findClass_of_methodNamed B.named, fun w hw => hts w (List.mem_cons_of_mem _ hw), Nat.le_refl _, Nat.le_refl _⟩
  have hr : meth.sig.returnType = none := B.returns
  have hlocks : meth.locks = false := B.notSynchronized
  have hi : meth.name = "<init>" := (name_of_methodNamed B.named B.method).1
  have hK := c0.1
  subst hsz
  have hD := hD0.self (sz := s.heap.size)
  generalize hAe : va_A [(h0, .inr (4, [.null, .int 0, .int 0, .int 0, .int 0, .int 0, .int 0, .int 0, .int 0, .int 0, .int 0, .int 0, .int 0, .int 0]))] s.heap.size = A at hD ⊢
  have hA : ∀ q : Nat, s.heap.size ≤ q → A q := fun q h => by rw [← hAe]; exact Or.inr h
  have hS : va_S A s.heap s.heap [] := va_S.rf
  have hl := lv_entry ([.ref h0]) (n := 1) (Nat.le_of_ble_eq_true rfl)
  rw [lg_entry_eq]
  generalize (lg_sl ([.ref h0]) ++ List.replicate (1 - (lg_sl ([.ref h0])).length) Slot.unset).toArray = ls at hl ⊢
  have hl : lv_has ls 1 [(0, .ref h0)] := hl
  refine lv_aload_n cx.1 cx.2.1 dX5_init_0 rfl (lv_at hl 0 rfl) ?_
  refine A_obj (M := MX5_init) (pc := 1) cx hl.1 ooX5 (Nat.le_of_ble_eq_true rfl) dX5_init_1 ?_
  refine lv_aload_n cx.1 cx.2.1 dX5_init_4 rfl (lv_at hl 0 rfl) ?_
  refine lv_bipush (v := 120) cx.1 cx.2.1 dX5_init_5 (by decide +kernel) ?_
  refine A_newa (M := MX5_init) (pc := 7) cx hK hP hD hS hA 1 (atype := .byte) (N := 120) (z := (120, .inl (fun _ => 0))) rfl rfl (fun _ h => h) acB (fun _ => rfl) (by decide) (by decide +kernel) (Nat.le_of_ble_eq_true rfl) (Nat.le_of_ble_eq_true rfl) (Nat.le_of_ble_eq_true rfl) dX5_init_7 (fun q1 H hP hD hS => ?_)
  have hP : va_P D classes [(h0, .inr (4, [.null, .int 0, .int 0, .int 0, .int 0, .int 0, .int 0, .int 0, .int 0, .int 0, .int 0, .int 0, .int 0, .int 0])), (q1, .inl (cy 1, 120, .inl (fun _ => 0)))] H := hP
  have hD : va_D A [(h0, .inr (4, [.null, .int 0, .int 0, .int 0, .int 0, .int 0, .int 0, .int 0, .int 0, .int 0, .int 0, .int 0, .int 0, .int 0])), (q1, .inl (cy 1, 120, .inl (fun _ => 0)))] := hD
  refine W.widen (k := 1) (n := 120) (by omega) (by omega) ?_
  refine A_putF (M := MX5_init) (pc := 9) cx hi hK hP hD hS 0 (k := 0) (v := .ref q1) ffX5_11 rfl rfl rfl (Nat.le_of_ble_eq_true rfl) dX5_init_9 (fun H locs hP hD hS => ?_)
  have hP : va_P D classes [(h0, .inr (4, [.ref q1, .int 0, .int 0, .int 0, .int 0, .int 0, .int 0, .int 0, .int 0, .int 0, .int 0, .int 0, .int 0, .int 0])), (q1, .inl (cy 1, 120, .inl (fun _ => 0)))] H := hP
  have hD : va_D A [(h0, .inr (4, [.ref q1, .int 0, .int 0, .int 0, .int 0, .int 0, .int 0, .int 0, .int 0, .int 0, .int 0, .int 0, .int 0, .int 0])), (q1, .inl (cy 1, 120, .inl (fun _ => 0)))] := hD
  exact W.vret cx.1 cx.2.1 hr (fun t ht _ => QcI_mk q1 (by rw [ht]; exact hP) hD (hS.F ht)) hS.2.2 dX5_init_12
theorem ooX0 : OKobj RX0 3 := ⟨gw_1 29 (by decide +kernel) rfl, gwO1, gwO2⟩
theorem ffX0_11 : FPF RX0 11 0 0 (.array .int) := ⟨_, _, _, tyX0, rfl, by decide, uwX0, gw_1 30 (by decide +kernel) rfl, tyX0_ok, nmX0, rfl, rfl, rfl⟩
theorem arrV_congr {cA : ClassId} {N : Nat} {f g : Nat → Value} (h : ∀ j, j < N → f j = g j) : arrV cA N f = arrV cA N g := by
  have e : (fun j : Fin N => f j.val) = (fun j : Fin N => g j.val) := funext fun j => h j.1 j.2
  unfold arrV
  rw [e]
theorem book_end {D : va_G} {cy : Nat → ClassId} {h0 q1 : Nat} {f : Nat → Int32} {H : Heap} (hf : ∀ j, f j = if 139 ≤ j ∧ j < 171 then -1 else 0) (hP : va_P D classes [(h0, .inr (0, [.ref q1])), (q1, .inl (cy 0, 171, .inl f))] H) : va_P D classes [(h0, .inr (0, [.ref q1])), (q1, .inl (cy 0, 171, .inl (fun j => if 139 ≤ j then -1 else 0)))] H := by
  have hc : vp_cell (cy 0) (171, .inl f) = vp_cell (cy 0) (171, .inl (fun j => if 139 ≤ j then -1 else 0)) := by
    rw [vp_cell_i, vp_cell_i]
    refine arrV_congr (fun j hj => ?_)
    rw [hf j]
    by_cases h : 139 ≤ j
    · rw [if_pos ⟨h, hj⟩, if_pos h]
    · rw [if_neg (fun q => h q.1), if_neg h]
  have h0' := hP 0 _ rfl
  have h1' : H[q1]? = some (vp_cell (cy 0) (171, .inl f)) := hP 1 _ rfl
  rw [hc] at h1'
  intro k q hk
  rcases k with _ | _ | k
  · cases hk; exact h0'
  · cases hk; exact h1'
  · simp at hk
theorem glX0_11 : Cond.fieldLink RX0 11 (TX0 0).1 (TX0 0).2.1 (TX0 0).2.2.1 ∈ gw := gw_1 30 (by decide +kernel) rfl
set_option maxHeartbeats 4000000 in
set_option maxRecDepth 100000 in
theorem ctX0 (l : Launch) (D : va_G) (cy : Nat → ClassId) (h0 sz : Nat) : Met l MX0_init.1 (wsM MX0_init) (rmI 1 1 171) (PcI D cy [(h0, .inr (0, [.null]))] h0 sz) (QcI D (fun u : Nat => [(h0, .inr (0, [.ref u])), (u, .inl (cy 0, 171, .inl (fun j => if 139 ≤ j then -1 else 0)))]) (va_A [(h0, .inr (0, [.null]))] sz)) 1 171 (va_A [(h0, .inr (0, [.null]))] sz) := by
  refine Met.ofW (cc := cX0_init) (maxL := 2) (ret := none) (by decide) rfl ?_
  intro p e s m args below meth c s₁ B hml hv
  obtain ⟨rfl, hsz, hP, hD0, c0⟩ := hv
  have hts := atoms_spec (ws := wsM MX0_init) B.pre
  have cx : Cx MX0_init 1 p (headSpec (wsM MX0_init) (rmI 1 1 171)).room s m #[.ref h0] c := ⟨B.exec, B.bytes, hml, findClass_of_methodNamed B.named, fun w hw => hts w (List.mem_cons_of_mem _ hw), Nat.le_refl _, Nat.le_refl _⟩
  have hr : meth.sig.returnType = none := B.returns
  have hlocks : meth.locks = false := B.notSynchronized
  have hi : meth.name = "<init>" := (name_of_methodNamed B.named B.method).1
  have hK := c0.1
  subst hsz
  have hD := hD0.self (sz := s.heap.size)
  generalize hAe : va_A [(h0, .inr (0, [.null]))] s.heap.size = A at hD ⊢
  have hA : ∀ q : Nat, s.heap.size ≤ q → A q := fun q h => by rw [← hAe]; exact Or.inr h
  have hS : va_S A s.heap s.heap [] := va_S.rf
  have hl := lv_entry ([.ref h0]) (n := 2) (Nat.le_of_ble_eq_true rfl)
  rw [lg_entry_eq]
  generalize (lg_sl ([.ref h0]) ++ List.replicate (2 - (lg_sl ([.ref h0])).length) Slot.unset).toArray = ls at hl ⊢
  have hl : lv_has ls 2 [(0, .ref h0)] := hl
  refine lv_aload_n cx.1 cx.2.1 dX0_init_0 rfl (lv_at hl 0 rfl) ?_
  refine A_obj (M := MX0_init) (pc := 1) cx hl.1 ooX0 (Nat.le_of_ble_eq_true rfl) dX0_init_1 ?_
  refine lv_aload_n cx.1 cx.2.1 dX0_init_4 rfl (lv_at hl 0 rfl) ?_
  refine lv_sipush (v := 171) cx.1 cx.2.1 dX0_init_5 (by decide +kernel) ?_
  refine A_newa (M := MX0_init) (pc := 8) cx hK hP hD hS hA 0 (atype := .int) (N := 171) (z := (171, .inl (fun _ => 0))) rfl rfl (fun _ h => h) acI (fun _ => rfl) (by decide) (by decide +kernel) (Nat.le_of_ble_eq_true rfl) (Nat.le_of_ble_eq_true rfl) (Nat.le_of_ble_eq_true rfl) dX0_init_8 (fun q1 H hP hD hS => ?_)
  have hP : va_P D classes [(h0, .inr (0, [.null])), (q1, .inl (cy 0, 171, .inl (fun _ => 0)))] H := hP
  have hD : va_D A [(h0, .inr (0, [.null])), (q1, .inl (cy 0, 171, .inl (fun _ => 0)))] := hD
  refine W.widen (k := 1) (n := 171) (by omega) (by omega) ?_
  refine A_putF (M := MX0_init) (pc := 10) cx hi hK hP hD hS 0 (k := 0) (v := .ref q1) ffX0_11 rfl rfl rfl (Nat.le_of_ble_eq_true rfl) dX0_init_10 (fun H locs hP hD hS => ?_)
  have hP : va_P D classes [(h0, .inr (0, [.ref q1])), (q1, .inl (cy 0, 171, .inl (fun _ => 0)))] H := hP
  have hD : va_D A [(h0, .inr (0, [.ref q1])), (q1, .inl (cy 0, 171, .inl (fun _ => 0)))] := hD
  refine lv_sipush (v := nI 139) cx.1 cx.2.1 dX0_init_13 (by decide +kernel) ?_
  have loop : ∀ (k i : Nat) (f : Nat → Int32) (H : Heap) (locs : List Loc) (ls : Array Slot), i + k = 171 → 139 ≤ i → (∀ j, f j = if 139 ≤ j ∧ j < i then -1 else 0) → va_P D classes [(h0, .inr (0, [.ref q1])), (q1, .inl (cy 0, 171, .inl f))] H → va_D A [(h0, .inr (0, [.ref q1])), (q1, .inl (cy 0, 171, .inl f))] → va_S A s.heap H locs → lv_has ls 2 [(1, .int (nI i)), (0, .ref h0)] →
      W p l e (headSpec (wsM MX0_init) (rmI 1 1 171)).room s m #[.ref h0] below meth c H locs 1 171 (MQ below (QcI D (fun u : Nat => [(h0, .inr (0, [.ref u])), (u, .inl (cy 0, 171, .inl (fun j => if 139 ≤ j then -1 else 0)))]) A) #[.ref h0] s 1 171 A) (F0 m 17 ls []) := by
    intro k
    induction k with
    | zero =>
      intro i f H locs ls hik h139 hf hP hD hS hl
      obtain rfl : i = 171 := by omega
      refine lv_iload_n cx.1 cx.2.1 dX0_init_17 rfl (lv_at hl 0 rfl) ?_
      refine lv_sipush (v := nI 171) cx.1 cx.2.1 dX0_init_18 (by decide +kernel) ?_
      refine lv_icmp_ge (tgt := 37) cx.1 cx.2.1 dX0_init_21 (by decide) (fun _ => ?_) (fun c9 => absurd (nI_le (Nat.le_refl _) (by omega)) c9)
      exact W.vret cx.1 cx.2.1 hr (fun t ht _ => QcI_mk q1 (by rw [ht]; exact book_end hf hP) (va_D.set (p := 1) hD rfl) (hS.F ht)) hS.2.2 dX0_init_37
    | succ k ih =>
      intro i f H locs ls hik h139 hf hP hD hS hl
      refine lv_iload_n cx.1 cx.2.1 dX0_init_17 rfl (lv_at hl 0 rfl) ?_
      refine lv_sipush (v := nI 171) cx.1 cx.2.1 dX0_init_18 (by decide +kernel) ?_
      refine lv_icmp_ge (tgt := 37) cx.1 cx.2.1 dX0_init_21 (by decide) (fun c9 => absurd c9 (nI_ge (by omega) (by omega))) (fun _ => ?_)
      refine lv_aload_n cx.1 cx.2.1 dX0_init_24 rfl (lv_at hl 1 rfl) ?_
      refine va_get (C := RX0) (T := TX0) (N := 1) cx.1 cx.2.1 cx.2.2.2.2.1 uwX0 cx.2.2.2.1 hK hP 0 rfl rfl 0 (by decide) (cx.2.2.2.2.1 _ glX0_11) (fun _ h9 => h9) (v := .ref q1) rfl dX0_init_25 ?_
      refine lv_iload_n cx.1 cx.2.1 dX0_init_28 rfl (lv_at hl 0 rfl) ?_
      refine lv_iconst (v := -1) cx.1 cx.2.1 dX0_init_29 (by decide +kernel) ?_
      refine A_iast (M := MX0_init) (pc := 30) cx hK hP hD hS 1 rfl (vp_in_nI (by omega) (by omega)) dX0_init_30 (fun H locs hP hD hS => ?_)
      rw [nI_clamp (by omega)] at hP hD
      refine lv_iinc (v := nI (i + 1)) (lv' := [(1, .int (nI (i + 1))), (0, .ref h0)]) cx.1 cx.2.1 dX0_init_31 hl (k := 0) rfl (by rw [nI_succ]; rfl) (by decide) rfl (fun ls hl => ?_)
      refine lv_goto (tgt := 17) cx.1 cx.2.1 dX0_init_34 (by decide) ?_
      refine ih (i + 1) (upd f i (-1)) H locs ls (by omega) (by omega) (fun j => ?_) hP hD hS hl
      by_cases e9 : j = i
      · subst e9; rw [pk_us, if_pos ⟨h139, by omega⟩]
      · rw [pk_un e9, hf j]
        by_cases h : 139 ≤ j ∧ j < i
        · rw [if_pos h, if_pos ⟨h.1, by omega⟩]
        · rw [if_neg h, if_neg (fun q => h ⟨q.1, by omega⟩)]
  refine lv_istore_n (lv' := [(1, .int (nI 139)), (0, .ref h0)]) cx.1 cx.2.1 dX0_init_16 rfl hl (by decide) rfl (fun ls hl => ?_)
  exact loop 32 139 (fun _ => 0) H _ ls rfl (Nat.le_refl _) (fun j => by rw [if_neg (fun q => by omega)]) hP hD hS hl
theorem ooX6 : OKobj RX6 1 := ⟨gw_1 21 (by decide +kernel) rfl, gwO1, gwO2⟩
theorem nwX6_7 : NW RX6 7 0 1 [.null] := ⟨_, _, tyX0, rfl, uwX0, tyX0_ok, gw_1 24 (by decide +kernel) rfl, gw_1 25 (by decide +kernel) rfl, gw_1 2 (by decide +kernel) rfl, by
  intro j hj
  rcases (show j = 0 by omega) with rfl <;> rfl⟩
theorem mlX6i_9 : Cond.methodLink RX6 9 MX0_init.1 ∈ gw := gw_1 26 (by decide +kernel) rfl
theorem ffX6_10 : FPF RX6 10 5 0 (.object "SectionOffice$Book") := ⟨_, _, _, tyX6, rfl, by decide, uwX6, gw_1 170 (by decide +kernel) rfl, tyX6_ok, nmX6, rfl, rfl, rfl⟩
theorem nwX6_16 : NW RX6 16 1 3 [.null, .int 0, .int 0] := ⟨_, _, tyX2, rfl, uwX2, tyX2_ok, gw_1 35 (by decide +kernel) rfl, gw_1 36 (by decide +kernel) rfl, gw_1 3 (by decide +kernel) rfl, by
  intro j hj
  rcases (show j = 0 ∨ j = 1 ∨ j = 2 by omega) with rfl | rfl | rfl <;> rfl⟩
theorem ffX6_19 : FPF RX6 19 5 1 (.object "SectionOffice$Past") := ⟨_, _, _, tyX6, rfl, by decide, uwX6, gw_1 171 (by decide +kernel) rfl, tyX6_ok, nmX6, rfl, rfl, rfl⟩
theorem nwX6_23 : NW RX6 23 2 12 [.null, .null, .null, .null, .null, .null, .int 0, .int 0, .int 0, .int 0, .int 0, .int 0] := ⟨_, _, tyX3, rfl, uwX3, tyX3_ok, gw_1 51 (by decide +kernel) rfl, gw_1 52 (by decide +kernel) rfl, gw_1 4 (by decide +kernel) rfl, by
  intro j hj
  rcases (show j = 0 ∨ j = 1 ∨ j = 2 ∨ j = 3 ∨ j = 4 ∨ j = 5 ∨ j = 6 ∨ j = 7 ∨ j = 8 ∨ j = 9 ∨ j = 10 ∨ j = 11 by omega) with rfl | rfl | rfl | rfl | rfl | rfl | rfl | rfl | rfl | rfl | rfl | rfl <;> rfl⟩
theorem ffX6_26 : FPF RX6 26 5 2 (.object "SectionOffice$Seating") := ⟨_, _, _, tyX6, rfl, by decide, uwX6, gw_1 172 (by decide +kernel) rfl, tyX6_ok, nmX6, rfl, rfl, rfl⟩
theorem nwX6_30 : NW RX6 30 4 14 [.null, .int 0, .int 0, .int 0, .int 0, .int 0, .int 0, .int 0, .int 0, .int 0, .int 0, .int 0, .int 0, .int 0] := ⟨_, _, tyX5, rfl, uwX5, tyX5_ok, gw_1 95 (by decide +kernel) rfl, gw_1 96 (by decide +kernel) rfl, gw_1 5 (by decide +kernel) rfl, by
  intro j hj
  rcases (show j = 0 ∨ j = 1 ∨ j = 2 ∨ j = 3 ∨ j = 4 ∨ j = 5 ∨ j = 6 ∨ j = 7 ∨ j = 8 ∨ j = 9 ∨ j = 10 ∨ j = 11 ∨ j = 12 ∨ j = 13 by omega) with rfl | rfl | rfl | rfl | rfl | rfl | rfl | rfl | rfl | rfl | rfl | rfl | rfl | rfl <;> rfl⟩
theorem ffX6_33 : FPF RX6 33 5 3 (.object "SectionOffice$Tape") := ⟨_, _, _, tyX6, rfl, by decide, uwX6, gw_1 173 (by decide +kernel) rfl, tyX6_ok, nmX6, rfl, rfl, rfl⟩
theorem nwX6_37 : NW RX6 37 3 3 [.null, .null, .null] := ⟨_, _, tyX4, rfl, uwX4, tyX4_ok, gw_1 153 (by decide +kernel) rfl, gw_1 154 (by decide +kernel) rfl, gw_1 6 (by decide +kernel) rfl, by
  intro j hj
  rcases (show j = 0 ∨ j = 1 ∨ j = 2 by omega) with rfl | rfl | rfl <;> rfl⟩
theorem ffX6_40 : FPF RX6 40 5 4 (.object "SectionOffice$Sheets") := ⟨_, _, _, tyX6, rfl, by decide, uwX6, gw_1 174 (by decide +kernel) rfl, tyX6_ok, nmX6, rfl, rfl, rfl⟩
theorem ffX6_44 : FPF RX6 44 5 5 (.array .int) := ⟨_, _, _, tyX6, rfl, by decide, uwX6, gw_1 175 (by decide +kernel) rfl, tyX6_ok, nmX6, rfl, rfl, rfl⟩
theorem fqX6_48 : FP RX6 48 5 6 .int := ⟨_, _, _, tyX6, rfl, by decide, uwX6, gw_1 176 (by decide +kernel) rfl, tyX6_ok, nmX6, rfl, rfl⟩
set_option maxHeartbeats 4000000 in
set_option maxRecDepth 100000 in
theorem ctX6 (l : Launch) (D : va_G) (cy : Nat → ClassId) (h0 sz : Nat) : Met l MX6_init.1 (wsM MX6_init) (rmI 2 18 7424) (PcI D cy [(h0, .inr (5, [.null, .null, .null, .null, .null, .null, .int 0]))] h0 sz) (QcI D (fun u : Nat × Nat × Nat × Nat × Nat × Nat × Nat × Nat × Nat × Nat × Nat × Nat × Nat × Nat × Nat × Nat × Nat × Nat => [(h0, .inr (5, [.ref u.1, .ref u.2.2.1, .ref u.2.2.2.2.1, .ref u.2.2.2.2.2.2.2.2.2.2.2.1, .ref u.2.2.2.2.2.2.2.2.2.2.2.2.2.1, .ref u.2.2.2.2.2.2.2.2.2.2.2.2.2.2.2.2.2, .int (1)])), (u.1, .inr (0, [.ref u.2.1])), (u.2.1, .inl (cy 0, 171, .inl (fun j => if 139 ≤ j then -1 else 0))), (u.2.2.1, .inr (1, [.ref u.2.2.2.1, .int 0, .int 0])), (u.2.2.2.1, .inl (cy 0, 5301, .inl (fun _ => 0))), (u.2.2.2.2.1, .inr (2, [.ref u.2.2.2.2.2.1, .ref u.2.2.2.2.2.2.1, .ref u.2.2.2.2.2.2.2.1, .ref u.2.2.2.2.2.2.2.2.1, .ref u.2.2.2.2.2.2.2.2.2.1, .ref u.2.2.2.2.2.2.2.2.2.2.1, .int 0, .int 0, .int 0, .int 0, .int 0, .int 0])), (u.2.2.2.2.2.1, .inl (cy 0, 1596, .inl (fun _ => 0))), (u.2.2.2.2.2.2.1, .inl (cy 0, 6, .inl (fun _ => 0))), (u.2.2.2.2.2.2.2.1, .inl (cy 0, 6, .inl (fun _ => 0))), (u.2.2.2.2.2.2.2.2.1, .inl (cy 0, 6, .inl (fun _ => 0))), (u.2.2.2.2.2.2.2.2.2.1, .inl (cy 0, 6, .inl (fun _ => 0))), (u.2.2.2.2.2.2.2.2.2.2.1, .inl (cy 2, 3, .inl (fun _ => 0))), (u.2.2.2.2.2.2.2.2.2.2.2.1, .inr (4, [.ref u.2.2.2.2.2.2.2.2.2.2.2.2.1, .int 0, .int 0, .int 0, .int 0, .int 0, .int 0, .int 0, .int 0, .int 0, .int 0, .int 0, .int 0, .int 0])), (u.2.2.2.2.2.2.2.2.2.2.2.2.1, .inl (cy 1, 120, .inl (fun _ => 0))), (u.2.2.2.2.2.2.2.2.2.2.2.2.2.1, .inr (3, [.ref u.2.2.2.2.2.2.2.2.2.2.2.2.2.2.1, .ref u.2.2.2.2.2.2.2.2.2.2.2.2.2.2.2.1, .ref u.2.2.2.2.2.2.2.2.2.2.2.2.2.2.2.2.1])), (u.2.2.2.2.2.2.2.2.2.2.2.2.2.2.1, .inl (cy 3, 160, .inr (.inl (fun _ => 0)))), (u.2.2.2.2.2.2.2.2.2.2.2.2.2.2.2.1, .inl (cy 0, 4, .inl (upd (upd (upd (upd (fun _ => 0) 0 (-1)) 1 (-1)) 2 (-1)) 3 (-1)))), (u.2.2.2.2.2.2.2.2.2.2.2.2.2.2.2.2.1, .inl (cy 0, 4, .inl (fun _ => 0))), (u.2.2.2.2.2.2.2.2.2.2.2.2.2.2.2.2.2, .inl (cy 0, 8, .inl (fun _ => 0)))]) (va_A [(h0, .inr (5, [.null, .null, .null, .null, .null, .null, .int 0]))] sz)) 18 7424 (va_A [(h0, .inr (5, [.null, .null, .null, .null, .null, .null, .int 0]))] sz) := by
  refine Met.ofW (cc := cX6_init) (maxL := 1) (ret := none) (by decide) rfl ?_
  intro p e s m args below meth c s₁ B hml hv
  obtain ⟨rfl, hsz, hP, hD0, c0⟩ := hv
  have hts := atoms_spec (ws := wsM MX6_init) B.pre
  have cx : Cx MX6_init 2 p (headSpec (wsM MX6_init) (rmI 2 18 7424)).room s m #[.ref h0] c := ⟨B.exec, B.bytes, hml, findClass_of_methodNamed B.named, fun w hw => hts w (List.mem_cons_of_mem _ hw), Nat.le_refl _, Nat.le_refl _⟩
  have hr : meth.sig.returnType = none := B.returns
  have hlocks : meth.locks = false := B.notSynchronized
  have hi : meth.name = "<init>" := (name_of_methodNamed B.named B.method).1
  have hK := c0.1
  subst hsz
  have hD := hD0.self (sz := s.heap.size)
  generalize hAe : va_A [(h0, .inr (5, [.null, .null, .null, .null, .null, .null, .int 0]))] s.heap.size = A at hD ⊢
  have hA : ∀ q : Nat, s.heap.size ≤ q → A q := fun q h => by rw [← hAe]; exact Or.inr h
  have hS : va_S A s.heap s.heap [] := va_S.rf
  have hl := lv_entry ([.ref h0]) (n := 1) (Nat.le_of_ble_eq_true rfl)
  rw [lg_entry_eq]
  generalize (lg_sl ([.ref h0]) ++ List.replicate (1 - (lg_sl ([.ref h0])).length) Slot.unset).toArray = ls at hl ⊢
  have hl : lv_has ls 1 [(0, .ref h0)] := hl
  refine lv_aload_n cx.1 cx.2.1 dX6_init_0 rfl (lv_at hl 0 rfl) ?_
  refine A_obj (M := MX6_init) (pc := 1) cx hl.1 ooX6 (Nat.le_of_ble_eq_true rfl) dX6_init_1 ?_
  refine lv_aload_n cx.1 cx.2.1 dX6_init_4 rfl (lv_at hl 0 rfl) ?_
  refine A_new (M := MX6_init) (pc := 5) cx hK hP hD hS hA nwX6_7 (Nat.le_of_ble_eq_true rfl) (Nat.le_of_ble_eq_true rfl) dX6_init_5 (fun q1 H hP hD hS => ?_)
  have hP : va_P D classes [(h0, .inr (5, [.null, .null, .null, .null, .null, .null, .int 0])), (q1, .inr (0, [.null]))] H := hP
  have hD : va_D A [(h0, .inr (5, [.null, .null, .null, .null, .null, .null, .int 0])), (q1, .inr (0, [.null]))] := hD
  refine W.widen (k := 1) (n := 1) (by omega) (by omega) ?_
  refine lv_dup cx.1 cx.2.1 dX6_init_8 rfl ?_
  refine A_call (idx := 0) (M := MX6_init) (M' := MX0_init) (pc := 9) (rest := [.ref q1, .ref h0]) (wc := [(q1, .inr (0, [.null]))]) (ws' := [(h0, .inr (5, [.null, .null, .null, .null, .null, .null, .int 0]))]) cx c0 hl.1 hP hD hS hA [1] [0] rfl rfl (by decide) (by decide) (by decide) (ctX0 l D cy q1 H.size) (fun hp => va_runI (As := []) (rest := [.ref q1, .ref h0]) ⟨cx.1, cx.2.1, cx.2.2.1, cx.2.2.2.1, cx.2.2.2.2.1⟩ (ctX0 l D cy q1 H.size) (A_cwI cx okX0_init mlX6i_9 oiX0_init rfl rfl) hp rfl rfl hl.1 rfl (lv_room (Nat.le_of_ble_eq_true rfl)) dX6_init_9 ⟨Nat.le_of_ble_eq_true rfl, Nat.le_of_ble_eq_true rfl⟩) (fun u H locs hP hD hS => ?_)
  obtain ⟨q2, rfl⟩ : ∃ z, z = u := ⟨_, rfl⟩
  have hP : va_P D classes [(h0, .inr (5, [.null, .null, .null, .null, .null, .null, .int 0])), (q1, .inr (0, [.ref q2])), (q2, .inl (cy 0, 171, .inl (fun j => if 139 ≤ j then -1 else 0)))] H := hP
  have hD : va_D A [(h0, .inr (5, [.null, .null, .null, .null, .null, .null, .int 0])), (q1, .inr (0, [.ref q2])), (q2, .inl (cy 0, 171, .inl (fun j => if 139 ≤ j then -1 else 0)))] := hD
  refine W.widen (k := 2) (n := 172) (by omega) (by omega) ?_
  refine A_putF (M := MX6_init) (pc := 12) cx hi hK hP hD hS 0 (k := 0) (v := .ref q1) ffX6_10 rfl rfl rfl (Nat.le_of_ble_eq_true rfl) dX6_init_12 (fun H locs hP hD hS => ?_)
  have hP : va_P D classes [(h0, .inr (5, [.ref q1, .null, .null, .null, .null, .null, .int 0])), (q1, .inr (0, [.ref q2])), (q2, .inl (cy 0, 171, .inl (fun j => if 139 ≤ j then -1 else 0)))] H := hP
  have hD : va_D A [(h0, .inr (5, [.ref q1, .null, .null, .null, .null, .null, .int 0])), (q1, .inr (0, [.ref q2])), (q2, .inl (cy 0, 171, .inl (fun j => if 139 ≤ j then -1 else 0)))] := hD
  refine lv_aload_n cx.1 cx.2.1 dX6_init_15 rfl (lv_at hl 0 rfl) ?_
  refine A_new (M := MX6_init) (pc := 16) cx hK hP hD hS hA nwX6_16 (Nat.le_of_ble_eq_true rfl) (Nat.le_of_ble_eq_true rfl) dX6_init_16 (fun q3 H hP hD hS => ?_)
  have hP : va_P D classes [(h0, .inr (5, [.ref q1, .null, .null, .null, .null, .null, .int 0])), (q1, .inr (0, [.ref q2])), (q2, .inl (cy 0, 171, .inl (fun j => if 139 ≤ j then -1 else 0))), (q3, .inr (1, [.null, .int 0, .int 0]))] H := hP
  have hD : va_D A [(h0, .inr (5, [.ref q1, .null, .null, .null, .null, .null, .int 0])), (q1, .inr (0, [.ref q2])), (q2, .inl (cy 0, 171, .inl (fun j => if 139 ≤ j then -1 else 0))), (q3, .inr (1, [.null, .int 0, .int 0]))] := hD
  refine W.widen (k := 3) (n := 175) (by omega) (by omega) ?_
  refine lv_dup cx.1 cx.2.1 dX6_init_19 rfl ?_
  refine A_call (idx := 0) (M := MX6_init) (M' := MX2_init) (pc := 20) (rest := [.ref q3, .ref h0]) (wc := [(q3, .inr (1, [.null, .int 0, .int 0]))]) (ws' := [(h0, .inr (5, [.ref q1, .null, .null, .null, .null, .null, .int 0])), (q1, .inr (0, [.ref q2])), (q2, .inl (cy 0, 171, .inl (fun j => if 139 ≤ j then -1 else 0)))]) cx c0 hl.1 hP hD hS hA [3] [0, 1, 2] rfl rfl (by decide) (by decide) (by decide) (ctX2 l D cy q3 H.size) (fun hp => va_runIN (As := []) (rest := [.ref q3, .ref h0]) ⟨cx.1, cx.2.1, cx.2.2.1, cx.2.2.2.1, cx.2.2.2.2.1⟩ (ctX2 l D cy q3 H.size) (A_cwN (host := RX6) cx okX2_init (c0.2.2.2 _ (by decide +kernel)) oiX2_init rfl rfl) hp rfl rfl hl.1 rfl (lv_room (Nat.le_of_ble_eq_true rfl)) dX6_init_20 ⟨Nat.le_of_ble_eq_true rfl, Nat.le_of_ble_eq_true rfl⟩) (fun u H locs hP hD hS => ?_)
  obtain ⟨q4, rfl⟩ : ∃ z, z = u := ⟨_, rfl⟩
  have hP : va_P D classes [(h0, .inr (5, [.ref q1, .null, .null, .null, .null, .null, .int 0])), (q1, .inr (0, [.ref q2])), (q2, .inl (cy 0, 171, .inl (fun j => if 139 ≤ j then -1 else 0))), (q3, .inr (1, [.ref q4, .int 0, .int 0])), (q4, .inl (cy 0, 5301, .inl (fun _ => 0)))] H := hP
  have hD : va_D A [(h0, .inr (5, [.ref q1, .null, .null, .null, .null, .null, .int 0])), (q1, .inr (0, [.ref q2])), (q2, .inl (cy 0, 171, .inl (fun j => if 139 ≤ j then -1 else 0))), (q3, .inr (1, [.ref q4, .int 0, .int 0])), (q4, .inl (cy 0, 5301, .inl (fun _ => 0)))] := hD
  refine W.widen (k := 4) (n := 5476) (by omega) (by omega) ?_
  refine A_putF (M := MX6_init) (pc := 23) cx hi hK hP hD hS 0 (k := 1) (v := .ref q3) ffX6_19 rfl rfl rfl (Nat.le_of_ble_eq_true rfl) dX6_init_23 (fun H locs hP hD hS => ?_)
  have hP : va_P D classes [(h0, .inr (5, [.ref q1, .ref q3, .null, .null, .null, .null, .int 0])), (q1, .inr (0, [.ref q2])), (q2, .inl (cy 0, 171, .inl (fun j => if 139 ≤ j then -1 else 0))), (q3, .inr (1, [.ref q4, .int 0, .int 0])), (q4, .inl (cy 0, 5301, .inl (fun _ => 0)))] H := hP
  have hD : va_D A [(h0, .inr (5, [.ref q1, .ref q3, .null, .null, .null, .null, .int 0])), (q1, .inr (0, [.ref q2])), (q2, .inl (cy 0, 171, .inl (fun j => if 139 ≤ j then -1 else 0))), (q3, .inr (1, [.ref q4, .int 0, .int 0])), (q4, .inl (cy 0, 5301, .inl (fun _ => 0)))] := hD
  refine lv_aload_n cx.1 cx.2.1 dX6_init_26 rfl (lv_at hl 0 rfl) ?_
  refine A_new (M := MX6_init) (pc := 27) cx hK hP hD hS hA nwX6_23 (Nat.le_of_ble_eq_true rfl) (Nat.le_of_ble_eq_true rfl) dX6_init_27 (fun q5 H hP hD hS => ?_)
  have hP : va_P D classes [(h0, .inr (5, [.ref q1, .ref q3, .null, .null, .null, .null, .int 0])), (q1, .inr (0, [.ref q2])), (q2, .inl (cy 0, 171, .inl (fun j => if 139 ≤ j then -1 else 0))), (q3, .inr (1, [.ref q4, .int 0, .int 0])), (q4, .inl (cy 0, 5301, .inl (fun _ => 0))), (q5, .inr (2, [.null, .null, .null, .null, .null, .null, .int 0, .int 0, .int 0, .int 0, .int 0, .int 0]))] H := hP
  have hD : va_D A [(h0, .inr (5, [.ref q1, .ref q3, .null, .null, .null, .null, .int 0])), (q1, .inr (0, [.ref q2])), (q2, .inl (cy 0, 171, .inl (fun j => if 139 ≤ j then -1 else 0))), (q3, .inr (1, [.ref q4, .int 0, .int 0])), (q4, .inl (cy 0, 5301, .inl (fun _ => 0))), (q5, .inr (2, [.null, .null, .null, .null, .null, .null, .int 0, .int 0, .int 0, .int 0, .int 0, .int 0]))] := hD
  refine W.widen (k := 5) (n := 5488) (by omega) (by omega) ?_
  refine lv_dup cx.1 cx.2.1 dX6_init_30 rfl ?_
  refine A_call (idx := 0) (M := MX6_init) (M' := MX3_init) (pc := 31) (rest := [.ref q5, .ref h0]) (wc := [(q5, .inr (2, [.null, .null, .null, .null, .null, .null, .int 0, .int 0, .int 0, .int 0, .int 0, .int 0]))]) (ws' := [(h0, .inr (5, [.ref q1, .ref q3, .null, .null, .null, .null, .int 0])), (q1, .inr (0, [.ref q2])), (q2, .inl (cy 0, 171, .inl (fun j => if 139 ≤ j then -1 else 0))), (q3, .inr (1, [.ref q4, .int 0, .int 0])), (q4, .inl (cy 0, 5301, .inl (fun _ => 0)))]) cx c0 hl.1 hP hD hS hA [5] [0, 1, 2, 3, 4] rfl rfl (by decide) (by decide) (by decide) (ctX3 l D cy q5 H.size) (fun hp => va_runIN (As := []) (rest := [.ref q5, .ref h0]) ⟨cx.1, cx.2.1, cx.2.2.1, cx.2.2.2.1, cx.2.2.2.2.1⟩ (ctX3 l D cy q5 H.size) (A_cwN (host := RX6) cx okX3_init (c0.2.2.2 _ (by decide +kernel)) oiX3_init rfl rfl) hp rfl rfl hl.1 rfl (lv_room (Nat.le_of_ble_eq_true rfl)) dX6_init_31 ⟨Nat.le_of_ble_eq_true rfl, Nat.le_of_ble_eq_true rfl⟩) (fun u H locs hP hD hS => ?_)
  obtain ⟨q6, q7, q8, q9, q10, q11⟩ := u
  have hP : va_P D classes [(h0, .inr (5, [.ref q1, .ref q3, .null, .null, .null, .null, .int 0])), (q1, .inr (0, [.ref q2])), (q2, .inl (cy 0, 171, .inl (fun j => if 139 ≤ j then -1 else 0))), (q3, .inr (1, [.ref q4, .int 0, .int 0])), (q4, .inl (cy 0, 5301, .inl (fun _ => 0))), (q5, .inr (2, [.ref q6, .ref q7, .ref q8, .ref q9, .ref q10, .ref q11, .int 0, .int 0, .int 0, .int 0, .int 0, .int 0])), (q6, .inl (cy 0, 1596, .inl (fun _ => 0))), (q7, .inl (cy 0, 6, .inl (fun _ => 0))), (q8, .inl (cy 0, 6, .inl (fun _ => 0))), (q9, .inl (cy 0, 6, .inl (fun _ => 0))), (q10, .inl (cy 0, 6, .inl (fun _ => 0))), (q11, .inl (cy 2, 3, .inl (fun _ => 0)))] H := hP
  have hD : va_D A [(h0, .inr (5, [.ref q1, .ref q3, .null, .null, .null, .null, .int 0])), (q1, .inr (0, [.ref q2])), (q2, .inl (cy 0, 171, .inl (fun j => if 139 ≤ j then -1 else 0))), (q3, .inr (1, [.ref q4, .int 0, .int 0])), (q4, .inl (cy 0, 5301, .inl (fun _ => 0))), (q5, .inr (2, [.ref q6, .ref q7, .ref q8, .ref q9, .ref q10, .ref q11, .int 0, .int 0, .int 0, .int 0, .int 0, .int 0])), (q6, .inl (cy 0, 1596, .inl (fun _ => 0))), (q7, .inl (cy 0, 6, .inl (fun _ => 0))), (q8, .inl (cy 0, 6, .inl (fun _ => 0))), (q9, .inl (cy 0, 6, .inl (fun _ => 0))), (q10, .inl (cy 0, 6, .inl (fun _ => 0))), (q11, .inl (cy 2, 3, .inl (fun _ => 0)))] := hD
  refine W.widen (k := 11) (n := 7111) (by omega) (by omega) ?_
  refine A_putF (M := MX6_init) (pc := 34) cx hi hK hP hD hS 0 (k := 2) (v := .ref q5) ffX6_26 rfl rfl rfl (Nat.le_of_ble_eq_true rfl) dX6_init_34 (fun H locs hP hD hS => ?_)
  have hP : va_P D classes [(h0, .inr (5, [.ref q1, .ref q3, .ref q5, .null, .null, .null, .int 0])), (q1, .inr (0, [.ref q2])), (q2, .inl (cy 0, 171, .inl (fun j => if 139 ≤ j then -1 else 0))), (q3, .inr (1, [.ref q4, .int 0, .int 0])), (q4, .inl (cy 0, 5301, .inl (fun _ => 0))), (q5, .inr (2, [.ref q6, .ref q7, .ref q8, .ref q9, .ref q10, .ref q11, .int 0, .int 0, .int 0, .int 0, .int 0, .int 0])), (q6, .inl (cy 0, 1596, .inl (fun _ => 0))), (q7, .inl (cy 0, 6, .inl (fun _ => 0))), (q8, .inl (cy 0, 6, .inl (fun _ => 0))), (q9, .inl (cy 0, 6, .inl (fun _ => 0))), (q10, .inl (cy 0, 6, .inl (fun _ => 0))), (q11, .inl (cy 2, 3, .inl (fun _ => 0)))] H := hP
  have hD : va_D A [(h0, .inr (5, [.ref q1, .ref q3, .ref q5, .null, .null, .null, .int 0])), (q1, .inr (0, [.ref q2])), (q2, .inl (cy 0, 171, .inl (fun j => if 139 ≤ j then -1 else 0))), (q3, .inr (1, [.ref q4, .int 0, .int 0])), (q4, .inl (cy 0, 5301, .inl (fun _ => 0))), (q5, .inr (2, [.ref q6, .ref q7, .ref q8, .ref q9, .ref q10, .ref q11, .int 0, .int 0, .int 0, .int 0, .int 0, .int 0])), (q6, .inl (cy 0, 1596, .inl (fun _ => 0))), (q7, .inl (cy 0, 6, .inl (fun _ => 0))), (q8, .inl (cy 0, 6, .inl (fun _ => 0))), (q9, .inl (cy 0, 6, .inl (fun _ => 0))), (q10, .inl (cy 0, 6, .inl (fun _ => 0))), (q11, .inl (cy 2, 3, .inl (fun _ => 0)))] := hD
  refine lv_aload_n cx.1 cx.2.1 dX6_init_37 rfl (lv_at hl 0 rfl) ?_
  refine A_new (M := MX6_init) (pc := 38) cx hK hP hD hS hA nwX6_30 (Nat.le_of_ble_eq_true rfl) (Nat.le_of_ble_eq_true rfl) dX6_init_38 (fun q12 H hP hD hS => ?_)
  have hP : va_P D classes [(h0, .inr (5, [.ref q1, .ref q3, .ref q5, .null, .null, .null, .int 0])), (q1, .inr (0, [.ref q2])), (q2, .inl (cy 0, 171, .inl (fun j => if 139 ≤ j then -1 else 0))), (q3, .inr (1, [.ref q4, .int 0, .int 0])), (q4, .inl (cy 0, 5301, .inl (fun _ => 0))), (q5, .inr (2, [.ref q6, .ref q7, .ref q8, .ref q9, .ref q10, .ref q11, .int 0, .int 0, .int 0, .int 0, .int 0, .int 0])), (q6, .inl (cy 0, 1596, .inl (fun _ => 0))), (q7, .inl (cy 0, 6, .inl (fun _ => 0))), (q8, .inl (cy 0, 6, .inl (fun _ => 0))), (q9, .inl (cy 0, 6, .inl (fun _ => 0))), (q10, .inl (cy 0, 6, .inl (fun _ => 0))), (q11, .inl (cy 2, 3, .inl (fun _ => 0))), (q12, .inr (4, [.null, .int 0, .int 0, .int 0, .int 0, .int 0, .int 0, .int 0, .int 0, .int 0, .int 0, .int 0, .int 0, .int 0]))] H := hP
  have hD : va_D A [(h0, .inr (5, [.ref q1, .ref q3, .ref q5, .null, .null, .null, .int 0])), (q1, .inr (0, [.ref q2])), (q2, .inl (cy 0, 171, .inl (fun j => if 139 ≤ j then -1 else 0))), (q3, .inr (1, [.ref q4, .int 0, .int 0])), (q4, .inl (cy 0, 5301, .inl (fun _ => 0))), (q5, .inr (2, [.ref q6, .ref q7, .ref q8, .ref q9, .ref q10, .ref q11, .int 0, .int 0, .int 0, .int 0, .int 0, .int 0])), (q6, .inl (cy 0, 1596, .inl (fun _ => 0))), (q7, .inl (cy 0, 6, .inl (fun _ => 0))), (q8, .inl (cy 0, 6, .inl (fun _ => 0))), (q9, .inl (cy 0, 6, .inl (fun _ => 0))), (q10, .inl (cy 0, 6, .inl (fun _ => 0))), (q11, .inl (cy 2, 3, .inl (fun _ => 0))), (q12, .inr (4, [.null, .int 0, .int 0, .int 0, .int 0, .int 0, .int 0, .int 0, .int 0, .int 0, .int 0, .int 0, .int 0, .int 0]))] := hD
  refine W.widen (k := 12) (n := 7125) (by omega) (by omega) ?_
  refine lv_dup cx.1 cx.2.1 dX6_init_41 rfl ?_
  refine A_call (idx := 0) (M := MX6_init) (M' := MX5_init) (pc := 42) (rest := [.ref q12, .ref h0]) (wc := [(q12, .inr (4, [.null, .int 0, .int 0, .int 0, .int 0, .int 0, .int 0, .int 0, .int 0, .int 0, .int 0, .int 0, .int 0, .int 0]))]) (ws' := [(h0, .inr (5, [.ref q1, .ref q3, .ref q5, .null, .null, .null, .int 0])), (q1, .inr (0, [.ref q2])), (q2, .inl (cy 0, 171, .inl (fun j => if 139 ≤ j then -1 else 0))), (q3, .inr (1, [.ref q4, .int 0, .int 0])), (q4, .inl (cy 0, 5301, .inl (fun _ => 0))), (q5, .inr (2, [.ref q6, .ref q7, .ref q8, .ref q9, .ref q10, .ref q11, .int 0, .int 0, .int 0, .int 0, .int 0, .int 0])), (q6, .inl (cy 0, 1596, .inl (fun _ => 0))), (q7, .inl (cy 0, 6, .inl (fun _ => 0))), (q8, .inl (cy 0, 6, .inl (fun _ => 0))), (q9, .inl (cy 0, 6, .inl (fun _ => 0))), (q10, .inl (cy 0, 6, .inl (fun _ => 0))), (q11, .inl (cy 2, 3, .inl (fun _ => 0)))]) cx c0 hl.1 hP hD hS hA [12] [0, 1, 2, 3, 4, 5, 6, 7, 8, 9, 10, 11] rfl rfl (by decide) (by decide) (by decide) (ctX5 l D cy q12 H.size) (fun hp => va_runIN (As := []) (rest := [.ref q12, .ref h0]) ⟨cx.1, cx.2.1, cx.2.2.1, cx.2.2.2.1, cx.2.2.2.2.1⟩ (ctX5 l D cy q12 H.size) (A_cwN (host := RX6) cx okX5_init (c0.2.2.2 _ (by decide +kernel)) oiX5_init rfl rfl) hp rfl rfl hl.1 rfl (lv_room (Nat.le_of_ble_eq_true rfl)) dX6_init_42 ⟨Nat.le_of_ble_eq_true rfl, Nat.le_of_ble_eq_true rfl⟩) (fun u H locs hP hD hS => ?_)
  obtain ⟨q13, rfl⟩ : ∃ z, z = u := ⟨_, rfl⟩
  have hP : va_P D classes [(h0, .inr (5, [.ref q1, .ref q3, .ref q5, .null, .null, .null, .int 0])), (q1, .inr (0, [.ref q2])), (q2, .inl (cy 0, 171, .inl (fun j => if 139 ≤ j then -1 else 0))), (q3, .inr (1, [.ref q4, .int 0, .int 0])), (q4, .inl (cy 0, 5301, .inl (fun _ => 0))), (q5, .inr (2, [.ref q6, .ref q7, .ref q8, .ref q9, .ref q10, .ref q11, .int 0, .int 0, .int 0, .int 0, .int 0, .int 0])), (q6, .inl (cy 0, 1596, .inl (fun _ => 0))), (q7, .inl (cy 0, 6, .inl (fun _ => 0))), (q8, .inl (cy 0, 6, .inl (fun _ => 0))), (q9, .inl (cy 0, 6, .inl (fun _ => 0))), (q10, .inl (cy 0, 6, .inl (fun _ => 0))), (q11, .inl (cy 2, 3, .inl (fun _ => 0))), (q12, .inr (4, [.ref q13, .int 0, .int 0, .int 0, .int 0, .int 0, .int 0, .int 0, .int 0, .int 0, .int 0, .int 0, .int 0, .int 0])), (q13, .inl (cy 1, 120, .inl (fun _ => 0)))] H := hP
  have hD : va_D A [(h0, .inr (5, [.ref q1, .ref q3, .ref q5, .null, .null, .null, .int 0])), (q1, .inr (0, [.ref q2])), (q2, .inl (cy 0, 171, .inl (fun j => if 139 ≤ j then -1 else 0))), (q3, .inr (1, [.ref q4, .int 0, .int 0])), (q4, .inl (cy 0, 5301, .inl (fun _ => 0))), (q5, .inr (2, [.ref q6, .ref q7, .ref q8, .ref q9, .ref q10, .ref q11, .int 0, .int 0, .int 0, .int 0, .int 0, .int 0])), (q6, .inl (cy 0, 1596, .inl (fun _ => 0))), (q7, .inl (cy 0, 6, .inl (fun _ => 0))), (q8, .inl (cy 0, 6, .inl (fun _ => 0))), (q9, .inl (cy 0, 6, .inl (fun _ => 0))), (q10, .inl (cy 0, 6, .inl (fun _ => 0))), (q11, .inl (cy 2, 3, .inl (fun _ => 0))), (q12, .inr (4, [.ref q13, .int 0, .int 0, .int 0, .int 0, .int 0, .int 0, .int 0, .int 0, .int 0, .int 0, .int 0, .int 0, .int 0])), (q13, .inl (cy 1, 120, .inl (fun _ => 0)))] := hD
  refine W.widen (k := 13) (n := 7245) (by omega) (by omega) ?_
  refine A_putF (M := MX6_init) (pc := 45) cx hi hK hP hD hS 0 (k := 3) (v := .ref q12) ffX6_33 rfl rfl rfl (Nat.le_of_ble_eq_true rfl) dX6_init_45 (fun H locs hP hD hS => ?_)
  have hP : va_P D classes [(h0, .inr (5, [.ref q1, .ref q3, .ref q5, .ref q12, .null, .null, .int 0])), (q1, .inr (0, [.ref q2])), (q2, .inl (cy 0, 171, .inl (fun j => if 139 ≤ j then -1 else 0))), (q3, .inr (1, [.ref q4, .int 0, .int 0])), (q4, .inl (cy 0, 5301, .inl (fun _ => 0))), (q5, .inr (2, [.ref q6, .ref q7, .ref q8, .ref q9, .ref q10, .ref q11, .int 0, .int 0, .int 0, .int 0, .int 0, .int 0])), (q6, .inl (cy 0, 1596, .inl (fun _ => 0))), (q7, .inl (cy 0, 6, .inl (fun _ => 0))), (q8, .inl (cy 0, 6, .inl (fun _ => 0))), (q9, .inl (cy 0, 6, .inl (fun _ => 0))), (q10, .inl (cy 0, 6, .inl (fun _ => 0))), (q11, .inl (cy 2, 3, .inl (fun _ => 0))), (q12, .inr (4, [.ref q13, .int 0, .int 0, .int 0, .int 0, .int 0, .int 0, .int 0, .int 0, .int 0, .int 0, .int 0, .int 0, .int 0])), (q13, .inl (cy 1, 120, .inl (fun _ => 0)))] H := hP
  have hD : va_D A [(h0, .inr (5, [.ref q1, .ref q3, .ref q5, .ref q12, .null, .null, .int 0])), (q1, .inr (0, [.ref q2])), (q2, .inl (cy 0, 171, .inl (fun j => if 139 ≤ j then -1 else 0))), (q3, .inr (1, [.ref q4, .int 0, .int 0])), (q4, .inl (cy 0, 5301, .inl (fun _ => 0))), (q5, .inr (2, [.ref q6, .ref q7, .ref q8, .ref q9, .ref q10, .ref q11, .int 0, .int 0, .int 0, .int 0, .int 0, .int 0])), (q6, .inl (cy 0, 1596, .inl (fun _ => 0))), (q7, .inl (cy 0, 6, .inl (fun _ => 0))), (q8, .inl (cy 0, 6, .inl (fun _ => 0))), (q9, .inl (cy 0, 6, .inl (fun _ => 0))), (q10, .inl (cy 0, 6, .inl (fun _ => 0))), (q11, .inl (cy 2, 3, .inl (fun _ => 0))), (q12, .inr (4, [.ref q13, .int 0, .int 0, .int 0, .int 0, .int 0, .int 0, .int 0, .int 0, .int 0, .int 0, .int 0, .int 0, .int 0])), (q13, .inl (cy 1, 120, .inl (fun _ => 0)))] := hD
  refine lv_aload_n cx.1 cx.2.1 dX6_init_48 rfl (lv_at hl 0 rfl) ?_
  refine A_new (M := MX6_init) (pc := 49) cx hK hP hD hS hA nwX6_37 (Nat.le_of_ble_eq_true rfl) (Nat.le_of_ble_eq_true rfl) dX6_init_49 (fun q14 H hP hD hS => ?_)
  have hP : va_P D classes [(h0, .inr (5, [.ref q1, .ref q3, .ref q5, .ref q12, .null, .null, .int 0])), (q1, .inr (0, [.ref q2])), (q2, .inl (cy 0, 171, .inl (fun j => if 139 ≤ j then -1 else 0))), (q3, .inr (1, [.ref q4, .int 0, .int 0])), (q4, .inl (cy 0, 5301, .inl (fun _ => 0))), (q5, .inr (2, [.ref q6, .ref q7, .ref q8, .ref q9, .ref q10, .ref q11, .int 0, .int 0, .int 0, .int 0, .int 0, .int 0])), (q6, .inl (cy 0, 1596, .inl (fun _ => 0))), (q7, .inl (cy 0, 6, .inl (fun _ => 0))), (q8, .inl (cy 0, 6, .inl (fun _ => 0))), (q9, .inl (cy 0, 6, .inl (fun _ => 0))), (q10, .inl (cy 0, 6, .inl (fun _ => 0))), (q11, .inl (cy 2, 3, .inl (fun _ => 0))), (q12, .inr (4, [.ref q13, .int 0, .int 0, .int 0, .int 0, .int 0, .int 0, .int 0, .int 0, .int 0, .int 0, .int 0, .int 0, .int 0])), (q13, .inl (cy 1, 120, .inl (fun _ => 0))), (q14, .inr (3, [.null, .null, .null]))] H := hP
  have hD : va_D A [(h0, .inr (5, [.ref q1, .ref q3, .ref q5, .ref q12, .null, .null, .int 0])), (q1, .inr (0, [.ref q2])), (q2, .inl (cy 0, 171, .inl (fun j => if 139 ≤ j then -1 else 0))), (q3, .inr (1, [.ref q4, .int 0, .int 0])), (q4, .inl (cy 0, 5301, .inl (fun _ => 0))), (q5, .inr (2, [.ref q6, .ref q7, .ref q8, .ref q9, .ref q10, .ref q11, .int 0, .int 0, .int 0, .int 0, .int 0, .int 0])), (q6, .inl (cy 0, 1596, .inl (fun _ => 0))), (q7, .inl (cy 0, 6, .inl (fun _ => 0))), (q8, .inl (cy 0, 6, .inl (fun _ => 0))), (q9, .inl (cy 0, 6, .inl (fun _ => 0))), (q10, .inl (cy 0, 6, .inl (fun _ => 0))), (q11, .inl (cy 2, 3, .inl (fun _ => 0))), (q12, .inr (4, [.ref q13, .int 0, .int 0, .int 0, .int 0, .int 0, .int 0, .int 0, .int 0, .int 0, .int 0, .int 0, .int 0, .int 0])), (q13, .inl (cy 1, 120, .inl (fun _ => 0))), (q14, .inr (3, [.null, .null, .null]))] := hD
  refine W.widen (k := 14) (n := 7248) (by omega) (by omega) ?_
  refine lv_dup cx.1 cx.2.1 dX6_init_52 rfl ?_
  refine A_call (idx := 0) (M := MX6_init) (M' := MX4_init) (pc := 53) (rest := [.ref q14, .ref h0]) (wc := [(q14, .inr (3, [.null, .null, .null]))]) (ws' := [(h0, .inr (5, [.ref q1, .ref q3, .ref q5, .ref q12, .null, .null, .int 0])), (q1, .inr (0, [.ref q2])), (q2, .inl (cy 0, 171, .inl (fun j => if 139 ≤ j then -1 else 0))), (q3, .inr (1, [.ref q4, .int 0, .int 0])), (q4, .inl (cy 0, 5301, .inl (fun _ => 0))), (q5, .inr (2, [.ref q6, .ref q7, .ref q8, .ref q9, .ref q10, .ref q11, .int 0, .int 0, .int 0, .int 0, .int 0, .int 0])), (q6, .inl (cy 0, 1596, .inl (fun _ => 0))), (q7, .inl (cy 0, 6, .inl (fun _ => 0))), (q8, .inl (cy 0, 6, .inl (fun _ => 0))), (q9, .inl (cy 0, 6, .inl (fun _ => 0))), (q10, .inl (cy 0, 6, .inl (fun _ => 0))), (q11, .inl (cy 2, 3, .inl (fun _ => 0))), (q12, .inr (4, [.ref q13, .int 0, .int 0, .int 0, .int 0, .int 0, .int 0, .int 0, .int 0, .int 0, .int 0, .int 0, .int 0, .int 0])), (q13, .inl (cy 1, 120, .inl (fun _ => 0)))]) cx c0 hl.1 hP hD hS hA [14] [0, 1, 2, 3, 4, 5, 6, 7, 8, 9, 10, 11, 12, 13] rfl rfl (by decide) (by decide) (by decide) (ctX4 l D cy q14 H.size) (fun hp => va_runIN (As := []) (rest := [.ref q14, .ref h0]) ⟨cx.1, cx.2.1, cx.2.2.1, cx.2.2.2.1, cx.2.2.2.2.1⟩ (ctX4 l D cy q14 H.size) (A_cwN (host := RX6) cx okX4_init (c0.2.2.2 _ (by decide +kernel)) oiX4_init rfl rfl) hp rfl rfl hl.1 rfl (lv_room (Nat.le_of_ble_eq_true rfl)) dX6_init_53 ⟨Nat.le_of_ble_eq_true rfl, Nat.le_of_ble_eq_true rfl⟩) (fun u H locs hP hD hS => ?_)
  obtain ⟨q15, q16, q17⟩ := u
  have hP : va_P D classes [(h0, .inr (5, [.ref q1, .ref q3, .ref q5, .ref q12, .null, .null, .int 0])), (q1, .inr (0, [.ref q2])), (q2, .inl (cy 0, 171, .inl (fun j => if 139 ≤ j then -1 else 0))), (q3, .inr (1, [.ref q4, .int 0, .int 0])), (q4, .inl (cy 0, 5301, .inl (fun _ => 0))), (q5, .inr (2, [.ref q6, .ref q7, .ref q8, .ref q9, .ref q10, .ref q11, .int 0, .int 0, .int 0, .int 0, .int 0, .int 0])), (q6, .inl (cy 0, 1596, .inl (fun _ => 0))), (q7, .inl (cy 0, 6, .inl (fun _ => 0))), (q8, .inl (cy 0, 6, .inl (fun _ => 0))), (q9, .inl (cy 0, 6, .inl (fun _ => 0))), (q10, .inl (cy 0, 6, .inl (fun _ => 0))), (q11, .inl (cy 2, 3, .inl (fun _ => 0))), (q12, .inr (4, [.ref q13, .int 0, .int 0, .int 0, .int 0, .int 0, .int 0, .int 0, .int 0, .int 0, .int 0, .int 0, .int 0, .int 0])), (q13, .inl (cy 1, 120, .inl (fun _ => 0))), (q14, .inr (3, [.ref q15, .ref q16, .ref q17])), (q15, .inl (cy 3, 160, .inr (.inl (fun _ => 0)))), (q16, .inl (cy 0, 4, .inl (upd (upd (upd (upd (fun _ => 0) 0 (-1)) 1 (-1)) 2 (-1)) 3 (-1)))), (q17, .inl (cy 0, 4, .inl (fun _ => 0)))] H := hP
  have hD : va_D A [(h0, .inr (5, [.ref q1, .ref q3, .ref q5, .ref q12, .null, .null, .int 0])), (q1, .inr (0, [.ref q2])), (q2, .inl (cy 0, 171, .inl (fun j => if 139 ≤ j then -1 else 0))), (q3, .inr (1, [.ref q4, .int 0, .int 0])), (q4, .inl (cy 0, 5301, .inl (fun _ => 0))), (q5, .inr (2, [.ref q6, .ref q7, .ref q8, .ref q9, .ref q10, .ref q11, .int 0, .int 0, .int 0, .int 0, .int 0, .int 0])), (q6, .inl (cy 0, 1596, .inl (fun _ => 0))), (q7, .inl (cy 0, 6, .inl (fun _ => 0))), (q8, .inl (cy 0, 6, .inl (fun _ => 0))), (q9, .inl (cy 0, 6, .inl (fun _ => 0))), (q10, .inl (cy 0, 6, .inl (fun _ => 0))), (q11, .inl (cy 2, 3, .inl (fun _ => 0))), (q12, .inr (4, [.ref q13, .int 0, .int 0, .int 0, .int 0, .int 0, .int 0, .int 0, .int 0, .int 0, .int 0, .int 0, .int 0, .int 0])), (q13, .inl (cy 1, 120, .inl (fun _ => 0))), (q14, .inr (3, [.ref q15, .ref q16, .ref q17])), (q15, .inl (cy 3, 160, .inr (.inl (fun _ => 0)))), (q16, .inl (cy 0, 4, .inl (upd (upd (upd (upd (fun _ => 0) 0 (-1)) 1 (-1)) 2 (-1)) 3 (-1)))), (q17, .inl (cy 0, 4, .inl (fun _ => 0)))] := hD
  refine W.widen (k := 17) (n := 7416) (by omega) (by omega) ?_
  refine A_putF (M := MX6_init) (pc := 56) cx hi hK hP hD hS 0 (k := 4) (v := .ref q14) ffX6_40 rfl rfl rfl (Nat.le_of_ble_eq_true rfl) dX6_init_56 (fun H locs hP hD hS => ?_)
  have hP : va_P D classes [(h0, .inr (5, [.ref q1, .ref q3, .ref q5, .ref q12, .ref q14, .null, .int 0])), (q1, .inr (0, [.ref q2])), (q2, .inl (cy 0, 171, .inl (fun j => if 139 ≤ j then -1 else 0))), (q3, .inr (1, [.ref q4, .int 0, .int 0])), (q4, .inl (cy 0, 5301, .inl (fun _ => 0))), (q5, .inr (2, [.ref q6, .ref q7, .ref q8, .ref q9, .ref q10, .ref q11, .int 0, .int 0, .int 0, .int 0, .int 0, .int 0])), (q6, .inl (cy 0, 1596, .inl (fun _ => 0))), (q7, .inl (cy 0, 6, .inl (fun _ => 0))), (q8, .inl (cy 0, 6, .inl (fun _ => 0))), (q9, .inl (cy 0, 6, .inl (fun _ => 0))), (q10, .inl (cy 0, 6, .inl (fun _ => 0))), (q11, .inl (cy 2, 3, .inl (fun _ => 0))), (q12, .inr (4, [.ref q13, .int 0, .int 0, .int 0, .int 0, .int 0, .int 0, .int 0, .int 0, .int 0, .int 0, .int 0, .int 0, .int 0])), (q13, .inl (cy 1, 120, .inl (fun _ => 0))), (q14, .inr (3, [.ref q15, .ref q16, .ref q17])), (q15, .inl (cy 3, 160, .inr (.inl (fun _ => 0)))), (q16, .inl (cy 0, 4, .inl (upd (upd (upd (upd (fun _ => 0) 0 (-1)) 1 (-1)) 2 (-1)) 3 (-1)))), (q17, .inl (cy 0, 4, .inl (fun _ => 0)))] H := hP
  have hD : va_D A [(h0, .inr (5, [.ref q1, .ref q3, .ref q5, .ref q12, .ref q14, .null, .int 0])), (q1, .inr (0, [.ref q2])), (q2, .inl (cy 0, 171, .inl (fun j => if 139 ≤ j then -1 else 0))), (q3, .inr (1, [.ref q4, .int 0, .int 0])), (q4, .inl (cy 0, 5301, .inl (fun _ => 0))), (q5, .inr (2, [.ref q6, .ref q7, .ref q8, .ref q9, .ref q10, .ref q11, .int 0, .int 0, .int 0, .int 0, .int 0, .int 0])), (q6, .inl (cy 0, 1596, .inl (fun _ => 0))), (q7, .inl (cy 0, 6, .inl (fun _ => 0))), (q8, .inl (cy 0, 6, .inl (fun _ => 0))), (q9, .inl (cy 0, 6, .inl (fun _ => 0))), (q10, .inl (cy 0, 6, .inl (fun _ => 0))), (q11, .inl (cy 2, 3, .inl (fun _ => 0))), (q12, .inr (4, [.ref q13, .int 0, .int 0, .int 0, .int 0, .int 0, .int 0, .int 0, .int 0, .int 0, .int 0, .int 0, .int 0, .int 0])), (q13, .inl (cy 1, 120, .inl (fun _ => 0))), (q14, .inr (3, [.ref q15, .ref q16, .ref q17])), (q15, .inl (cy 3, 160, .inr (.inl (fun _ => 0)))), (q16, .inl (cy 0, 4, .inl (upd (upd (upd (upd (fun _ => 0) 0 (-1)) 1 (-1)) 2 (-1)) 3 (-1)))), (q17, .inl (cy 0, 4, .inl (fun _ => 0)))] := hD
  refine lv_aload_n cx.1 cx.2.1 dX6_init_59 rfl (lv_at hl 0 rfl) ?_
  refine lv_bipush (v := 8) cx.1 cx.2.1 dX6_init_60 (by decide +kernel) ?_
  refine A_newa (M := MX6_init) (pc := 62) cx hK hP hD hS hA 0 (atype := .int) (N := 8) (z := (8, .inl (fun _ => 0))) rfl rfl (fun _ h => h) acI (fun _ => rfl) (by decide) (by decide +kernel) (Nat.le_of_ble_eq_true rfl) (Nat.le_of_ble_eq_true rfl) (Nat.le_of_ble_eq_true rfl) dX6_init_62 (fun q18 H hP hD hS => ?_)
  have hP : va_P D classes [(h0, .inr (5, [.ref q1, .ref q3, .ref q5, .ref q12, .ref q14, .null, .int 0])), (q1, .inr (0, [.ref q2])), (q2, .inl (cy 0, 171, .inl (fun j => if 139 ≤ j then -1 else 0))), (q3, .inr (1, [.ref q4, .int 0, .int 0])), (q4, .inl (cy 0, 5301, .inl (fun _ => 0))), (q5, .inr (2, [.ref q6, .ref q7, .ref q8, .ref q9, .ref q10, .ref q11, .int 0, .int 0, .int 0, .int 0, .int 0, .int 0])), (q6, .inl (cy 0, 1596, .inl (fun _ => 0))), (q7, .inl (cy 0, 6, .inl (fun _ => 0))), (q8, .inl (cy 0, 6, .inl (fun _ => 0))), (q9, .inl (cy 0, 6, .inl (fun _ => 0))), (q10, .inl (cy 0, 6, .inl (fun _ => 0))), (q11, .inl (cy 2, 3, .inl (fun _ => 0))), (q12, .inr (4, [.ref q13, .int 0, .int 0, .int 0, .int 0, .int 0, .int 0, .int 0, .int 0, .int 0, .int 0, .int 0, .int 0, .int 0])), (q13, .inl (cy 1, 120, .inl (fun _ => 0))), (q14, .inr (3, [.ref q15, .ref q16, .ref q17])), (q15, .inl (cy 3, 160, .inr (.inl (fun _ => 0)))), (q16, .inl (cy 0, 4, .inl (upd (upd (upd (upd (fun _ => 0) 0 (-1)) 1 (-1)) 2 (-1)) 3 (-1)))), (q17, .inl (cy 0, 4, .inl (fun _ => 0))), (q18, .inl (cy 0, 8, .inl (fun _ => 0)))] H := hP
  have hD : va_D A [(h0, .inr (5, [.ref q1, .ref q3, .ref q5, .ref q12, .ref q14, .null, .int 0])), (q1, .inr (0, [.ref q2])), (q2, .inl (cy 0, 171, .inl (fun j => if 139 ≤ j then -1 else 0))), (q3, .inr (1, [.ref q4, .int 0, .int 0])), (q4, .inl (cy 0, 5301, .inl (fun _ => 0))), (q5, .inr (2, [.ref q6, .ref q7, .ref q8, .ref q9, .ref q10, .ref q11, .int 0, .int 0, .int 0, .int 0, .int 0, .int 0])), (q6, .inl (cy 0, 1596, .inl (fun _ => 0))), (q7, .inl (cy 0, 6, .inl (fun _ => 0))), (q8, .inl (cy 0, 6, .inl (fun _ => 0))), (q9, .inl (cy 0, 6, .inl (fun _ => 0))), (q10, .inl (cy 0, 6, .inl (fun _ => 0))), (q11, .inl (cy 2, 3, .inl (fun _ => 0))), (q12, .inr (4, [.ref q13, .int 0, .int 0, .int 0, .int 0, .int 0, .int 0, .int 0, .int 0, .int 0, .int 0, .int 0, .int 0, .int 0])), (q13, .inl (cy 1, 120, .inl (fun _ => 0))), (q14, .inr (3, [.ref q15, .ref q16, .ref q17])), (q15, .inl (cy 3, 160, .inr (.inl (fun _ => 0)))), (q16, .inl (cy 0, 4, .inl (upd (upd (upd (upd (fun _ => 0) 0 (-1)) 1 (-1)) 2 (-1)) 3 (-1)))), (q17, .inl (cy 0, 4, .inl (fun _ => 0))), (q18, .inl (cy 0, 8, .inl (fun _ => 0)))] := hD
  refine W.widen (k := 18) (n := 7424) (by omega) (by omega) ?_
  refine A_putF (M := MX6_init) (pc := 64) cx hi hK hP hD hS 0 (k := 5) (v := .ref q18) ffX6_44 rfl rfl rfl (Nat.le_of_ble_eq_true rfl) dX6_init_64 (fun H locs hP hD hS => ?_)
  have hP : va_P D classes [(h0, .inr (5, [.ref q1, .ref q3, .ref q5, .ref q12, .ref q14, .ref q18, .int 0])), (q1, .inr (0, [.ref q2])), (q2, .inl (cy 0, 171, .inl (fun j => if 139 ≤ j then -1 else 0))), (q3, .inr (1, [.ref q4, .int 0, .int 0])), (q4, .inl (cy 0, 5301, .inl (fun _ => 0))), (q5, .inr (2, [.ref q6, .ref q7, .ref q8, .ref q9, .ref q10, .ref q11, .int 0, .int 0, .int 0, .int 0, .int 0, .int 0])), (q6, .inl (cy 0, 1596, .inl (fun _ => 0))), (q7, .inl (cy 0, 6, .inl (fun _ => 0))), (q8, .inl (cy 0, 6, .inl (fun _ => 0))), (q9, .inl (cy 0, 6, .inl (fun _ => 0))), (q10, .inl (cy 0, 6, .inl (fun _ => 0))), (q11, .inl (cy 2, 3, .inl (fun _ => 0))), (q12, .inr (4, [.ref q13, .int 0, .int 0, .int 0, .int 0, .int 0, .int 0, .int 0, .int 0, .int 0, .int 0, .int 0, .int 0, .int 0])), (q13, .inl (cy 1, 120, .inl (fun _ => 0))), (q14, .inr (3, [.ref q15, .ref q16, .ref q17])), (q15, .inl (cy 3, 160, .inr (.inl (fun _ => 0)))), (q16, .inl (cy 0, 4, .inl (upd (upd (upd (upd (fun _ => 0) 0 (-1)) 1 (-1)) 2 (-1)) 3 (-1)))), (q17, .inl (cy 0, 4, .inl (fun _ => 0))), (q18, .inl (cy 0, 8, .inl (fun _ => 0)))] H := hP
  have hD : va_D A [(h0, .inr (5, [.ref q1, .ref q3, .ref q5, .ref q12, .ref q14, .ref q18, .int 0])), (q1, .inr (0, [.ref q2])), (q2, .inl (cy 0, 171, .inl (fun j => if 139 ≤ j then -1 else 0))), (q3, .inr (1, [.ref q4, .int 0, .int 0])), (q4, .inl (cy 0, 5301, .inl (fun _ => 0))), (q5, .inr (2, [.ref q6, .ref q7, .ref q8, .ref q9, .ref q10, .ref q11, .int 0, .int 0, .int 0, .int 0, .int 0, .int 0])), (q6, .inl (cy 0, 1596, .inl (fun _ => 0))), (q7, .inl (cy 0, 6, .inl (fun _ => 0))), (q8, .inl (cy 0, 6, .inl (fun _ => 0))), (q9, .inl (cy 0, 6, .inl (fun _ => 0))), (q10, .inl (cy 0, 6, .inl (fun _ => 0))), (q11, .inl (cy 2, 3, .inl (fun _ => 0))), (q12, .inr (4, [.ref q13, .int 0, .int 0, .int 0, .int 0, .int 0, .int 0, .int 0, .int 0, .int 0, .int 0, .int 0, .int 0, .int 0])), (q13, .inl (cy 1, 120, .inl (fun _ => 0))), (q14, .inr (3, [.ref q15, .ref q16, .ref q17])), (q15, .inl (cy 3, 160, .inr (.inl (fun _ => 0)))), (q16, .inl (cy 0, 4, .inl (upd (upd (upd (upd (fun _ => 0) 0 (-1)) 1 (-1)) 2 (-1)) 3 (-1)))), (q17, .inl (cy 0, 4, .inl (fun _ => 0))), (q18, .inl (cy 0, 8, .inl (fun _ => 0)))] := hD
  refine lv_aload_n cx.1 cx.2.1 dX6_init_67 rfl (lv_at hl 0 rfl) ?_
  refine lv_iconst (v := 1) cx.1 cx.2.1 dX6_init_68 (by decide +kernel) ?_
  refine A_put (M := MX6_init) (pc := 69) cx hK hP hD hS 0 (k := 6) (v := .int (1)) fqX6_48 rfl rfl rfl (Nat.le_of_ble_eq_true rfl) dX6_init_69 (fun H locs hP hD hS => ?_)
  have hP : va_P D classes [(h0, .inr (5, [.ref q1, .ref q3, .ref q5, .ref q12, .ref q14, .ref q18, .int (1)])), (q1, .inr (0, [.ref q2])), (q2, .inl (cy 0, 171, .inl (fun j => if 139 ≤ j then -1 else 0))), (q3, .inr (1, [.ref q4, .int 0, .int 0])), (q4, .inl (cy 0, 5301, .inl (fun _ => 0))), (q5, .inr (2, [.ref q6, .ref q7, .ref q8, .ref q9, .ref q10, .ref q11, .int 0, .int 0, .int 0, .int 0, .int 0, .int 0])), (q6, .inl (cy 0, 1596, .inl (fun _ => 0))), (q7, .inl (cy 0, 6, .inl (fun _ => 0))), (q8, .inl (cy 0, 6, .inl (fun _ => 0))), (q9, .inl (cy 0, 6, .inl (fun _ => 0))), (q10, .inl (cy 0, 6, .inl (fun _ => 0))), (q11, .inl (cy 2, 3, .inl (fun _ => 0))), (q12, .inr (4, [.ref q13, .int 0, .int 0, .int 0, .int 0, .int 0, .int 0, .int 0, .int 0, .int 0, .int 0, .int 0, .int 0, .int 0])), (q13, .inl (cy 1, 120, .inl (fun _ => 0))), (q14, .inr (3, [.ref q15, .ref q16, .ref q17])), (q15, .inl (cy 3, 160, .inr (.inl (fun _ => 0)))), (q16, .inl (cy 0, 4, .inl (upd (upd (upd (upd (fun _ => 0) 0 (-1)) 1 (-1)) 2 (-1)) 3 (-1)))), (q17, .inl (cy 0, 4, .inl (fun _ => 0))), (q18, .inl (cy 0, 8, .inl (fun _ => 0)))] H := hP
  have hD : va_D A [(h0, .inr (5, [.ref q1, .ref q3, .ref q5, .ref q12, .ref q14, .ref q18, .int (1)])), (q1, .inr (0, [.ref q2])), (q2, .inl (cy 0, 171, .inl (fun j => if 139 ≤ j then -1 else 0))), (q3, .inr (1, [.ref q4, .int 0, .int 0])), (q4, .inl (cy 0, 5301, .inl (fun _ => 0))), (q5, .inr (2, [.ref q6, .ref q7, .ref q8, .ref q9, .ref q10, .ref q11, .int 0, .int 0, .int 0, .int 0, .int 0, .int 0])), (q6, .inl (cy 0, 1596, .inl (fun _ => 0))), (q7, .inl (cy 0, 6, .inl (fun _ => 0))), (q8, .inl (cy 0, 6, .inl (fun _ => 0))), (q9, .inl (cy 0, 6, .inl (fun _ => 0))), (q10, .inl (cy 0, 6, .inl (fun _ => 0))), (q11, .inl (cy 2, 3, .inl (fun _ => 0))), (q12, .inr (4, [.ref q13, .int 0, .int 0, .int 0, .int 0, .int 0, .int 0, .int 0, .int 0, .int 0, .int 0, .int 0, .int 0, .int 0])), (q13, .inl (cy 1, 120, .inl (fun _ => 0))), (q14, .inr (3, [.ref q15, .ref q16, .ref q17])), (q15, .inl (cy 3, 160, .inr (.inl (fun _ => 0)))), (q16, .inl (cy 0, 4, .inl (upd (upd (upd (upd (fun _ => 0) 0 (-1)) 1 (-1)) 2 (-1)) 3 (-1)))), (q17, .inl (cy 0, 4, .inl (fun _ => 0))), (q18, .inl (cy 0, 8, .inl (fun _ => 0)))] := hD
  exact W.vret cx.1 cx.2.1 hr (fun t ht _ => QcI_mk (q1, q2, q3, q4, q5, q6, q7, q8, q9, q10, q11, q12, q13, q14, q15, q16, q17, q18) (by rw [ht]; exact hP) hD (hS.F ht)) hS.2.2 dX6_init_72
theorem ooX7 : OKobj RX7 1 := ⟨gw_4 207 (by decide +kernel) rfl, gwO1, gwO2⟩
theorem ffX7_9 : FPF RX7 9 6 0 (.array .int) := ⟨_, _, _, tyX7, rfl, by decide, uwX7, gw_4 212 (by decide +kernel) rfl, tyX7_ok, nmX7, rfl, rfl, rfl⟩
theorem clX7_13 : Cond.classLink RX7 13 ("[" ++ (FieldType.array .int).toString) ∈ gw := gw_4 208 (by decide +kernel) rfl
theorem ffX7_15 : FPF RX7 15 6 1 (.array (.array .int)) := ⟨_, _, _, tyX7, rfl, by decide, uwX7, gw_4 213 (by decide +kernel) rfl, tyX7_ok, nmX7, rfl, rfl, rfl⟩
theorem fqX7_18 : FP RX7 18 6 4 .int := ⟨_, _, _, tyX7, rfl, by decide, uwX7, gw_4 216 (by decide +kernel) rfl, tyX7_ok, nmX7, rfl, rfl⟩
theorem ffX7_22 : FPF RX7 22 6 5 (.array .int) := ⟨_, _, _, tyX7, rfl, by decide, uwX7, gw_4 217 (by decide +kernel) rfl, tyX7_ok, nmX7, rfl, rfl, rfl⟩
theorem ffX7_25 : FPF RX7 25 6 6 (.array .int) := ⟨_, _, _, tyX7, rfl, by decide, uwX7, gw_4 218 (by decide +kernel) rfl, tyX7_ok, nmX7, rfl, rfl, rfl⟩
theorem ffX7_28 : FPF RX7 28 6 7 (.array .int) := ⟨_, _, _, tyX7, rfl, by decide, uwX7, gw_4 219 (by decide +kernel) rfl, tyX7_ok, nmX7, rfl, rfl, rfl⟩
theorem ffX7_31 : FPF RX7 31 6 8 (.array .int) := ⟨_, _, _, tyX7, rfl, by decide, uwX7, gw_4 220 (by decide +kernel) rfl, tyX7_ok, nmX7, rfl, rfl, rfl⟩
theorem ffX7_34 : FPF RX7 34 6 9 (.array .int) := ⟨_, _, _, tyX7, rfl, by decide, uwX7, gw_4 221 (by decide +kernel) rfl, tyX7_ok, nmX7, rfl, rfl, rfl⟩
theorem ffX7_37 : FPF RX7 37 6 10 (.array .int) := ⟨_, _, _, tyX7, rfl, by decide, uwX7, gw_4 222 (by decide +kernel) rfl, tyX7_ok, nmX7, rfl, rfl, rfl⟩
theorem ffX7_40 : FPF RX7 40 6 18 (.array .int) := ⟨_, _, _, tyX7, rfl, by decide, uwX7, gw_4 230 (by decide +kernel) rfl, tyX7_ok, nmX7, rfl, rfl, rfl⟩
theorem ffX7_43 : FPF RX7 43 6 25 (.array .int) := ⟨_, _, _, tyX7, rfl, by decide, uwX7, gw_4 237 (by decide +kernel) rfl, tyX7_ok, nmX7, rfl, rfl, rfl⟩
theorem ffX7_46 : FPF RX7 46 6 26 (.array .int) := ⟨_, _, _, tyX7, rfl, by decide, uwX7, gw_4 238 (by decide +kernel) rfl, tyX7_ok, nmX7, rfl, rfl, rfl⟩
theorem clX7_49 : Cond.classLink RX7 49 ("[" ++ (FieldType.array .long).toString) ∈ gw := gw_4 210 (by decide +kernel) rfl
theorem ffX7_51 : FPF RX7 51 6 27 (.array (.array .long)) := ⟨_, _, _, tyX7, rfl, by decide, uwX7, gw_4 239 (by decide +kernel) rfl, tyX7_ok, nmX7, rfl, rfl, rfl⟩
theorem ffX7_54 : FPF RX7 54 6 28 (.array .long) := ⟨_, _, _, tyX7, rfl, by decide, uwX7, gw_5 0 (by decide +kernel) rfl, tyX7_ok, nmX7, rfl, rfl, rfl⟩
set_option maxHeartbeats 4000000 in
set_option maxRecDepth 100000 in
theorem ctX7 (l : Launch) (D : va_G) (cy : Nat → ClassId) (h0 sz : Nat) : Met l MX7_init.1 (wsM MX7_init) (rmI 1 47 4842) (PcI D cy [(h0, .inr (6, [.null, .null, .int 0, .int 0, .int 0, .null, .null, .null, .null, .null, .null, .long 0, .int 0, .int 0, .int 0, .int 0, .int 0, .int 0, .null, .int 0, .int 0, .int 0, .int 0, .int 0, .int 0, .null, .null, .null, .null]))] h0 sz) (QcI D (fun u : Nat × Nat × (Nat → Nat) × Nat × Nat × Nat × Nat × Nat × Nat × Nat × Nat × Nat × Nat × (Nat → Nat) × Nat => ([(h0, .inr (6, [.ref u.1, .ref u.2.1, .int 0, .int 0, .int (1), .ref u.2.2.2.1, .ref u.2.2.2.2.1, .ref u.2.2.2.2.2.1, .ref u.2.2.2.2.2.2.1, .ref u.2.2.2.2.2.2.2.1, .ref u.2.2.2.2.2.2.2.2.1, .long 0, .int 0, .int 0, .int 0, .int 0, .int 0, .int 0, .ref u.2.2.2.2.2.2.2.2.2.1, .int 0, .int 0, .int 0, .int 0, .int 0, .int 0, .ref u.2.2.2.2.2.2.2.2.2.2.1, .ref u.2.2.2.2.2.2.2.2.2.2.2.1, .ref u.2.2.2.2.2.2.2.2.2.2.2.2.1, .ref u.2.2.2.2.2.2.2.2.2.2.2.2.2.2])), (u.1, .inl (cy 0, 139, .inl (fun _ => 0))), (u.2.1, .inl (cy 4, 30, .inr (.inr (.inr (.inr (fun i => if i < 30 then some (u.2.2.1 i) else none)))))), (u.2.2.2.1, .inl (cy 0, 8, .inl (fun _ => 0))), (u.2.2.2.2.1, .inl (cy 0, 139, .inl (fun _ => 0))), (u.2.2.2.2.2.1, .inl (cy 0, 6, .inl (fun _ => 0))), (u.2.2.2.2.2.2.1, .inl (cy 0, 6, .inl (fun _ => 0))), (u.2.2.2.2.2.2.2.1, .inl (cy 0, 6, .inl (fun _ => 0))), (u.2.2.2.2.2.2.2.2.1, .inl (cy 0, 6, .inl (fun _ => 0))), (u.2.2.2.2.2.2.2.2.2.1, .inl (cy 0, 120, .inl (fun _ => 0))), (u.2.2.2.2.2.2.2.2.2.2.1, .inl (cy 0, 4, .inl (upd (upd (upd (upd (fun _ => 0) 0 (-1)) 1 (-1)) 2 (-1)) 3 (-1)))), (u.2.2.2.2.2.2.2.2.2.2.2.1, .inl (cy 0, 4, .inl (fun _ => 0))), (u.2.2.2.2.2.2.2.2.2.2.2.2.1, .inl (cy 5, 4, .inr (.inr (.inr (.inr (fun i => if i < 4 then some (u.2.2.2.2.2.2.2.2.2.2.2.2.2.1 i) else none)))))), (u.2.2.2.2.2.2.2.2.2.2.2.2.2.2, .inl (cy 3, 40, .inr (.inl (fun _ => 0))))] ++ va_pl (([] ++ (List.range 30).map u.2.2.1) ++ (List.range 4).map u.2.2.2.2.2.2.2.2.2.2.2.2.2.1) (vr_up (vr_up (fun _ => .inl (0, 0, .inl (fun _ => 0))) ((List.range 30).map u.2.2.1) (.inl (cy 0, 139, .inl (fun _ => 0)))) ((List.range 4).map u.2.2.2.2.2.2.2.2.2.2.2.2.2.1) (.inl (cy 3, 40, .inr (.inl (fun _ => 0))))))) (va_A [(h0, .inr (6, [.null, .null, .int 0, .int 0, .int 0, .null, .null, .null, .null, .null, .null, .long 0, .int 0, .int 0, .int 0, .int 0, .int 0, .int 0, .null, .int 0, .int 0, .int 0, .int 0, .int 0, .int 0, .null, .null, .null, .null]))] sz)) 47 4842 (va_A [(h0, .inr (6, [.null, .null, .int 0, .int 0, .int 0, .null, .null, .null, .null, .null, .null, .long 0, .int 0, .int 0, .int 0, .int 0, .int 0, .int 0, .null, .int 0, .int 0, .int 0, .int 0, .int 0, .int 0, .null, .null, .null, .null]))] sz) := by
  refine Met.ofW (cc := cX7_init) (maxL := 1) (ret := none) (by decide) rfl ?_
  intro p e s m args below meth c s₁ B hml hv
  obtain ⟨rfl, hsz, hP, hD0, c0⟩ := hv
  have hts := atoms_spec (ws := wsM MX7_init) B.pre
  have cx : Cx MX7_init 1 p (headSpec (wsM MX7_init) (rmI 1 47 4842)).room s m #[.ref h0] c := ⟨B.exec, B.bytes, hml, findClass_of_methodNamed B.named, fun w hw => hts w (List.mem_cons_of_mem _ hw), Nat.le_refl _, Nat.le_refl _⟩
  have hr : meth.sig.returnType = none := B.returns
  have hlocks : meth.locks = false := B.notSynchronized
  have hi : meth.name = "<init>" := (name_of_methodNamed B.named B.method).1
  have hK := c0.1
  subst hsz
  have hD := hD0.self (sz := s.heap.size)
  generalize hAe : va_A [(h0, .inr (6, [.null, .null, .int 0, .int 0, .int 0, .null, .null, .null, .null, .null, .null, .long 0, .int 0, .int 0, .int 0, .int 0, .int 0, .int 0, .null, .int 0, .int 0, .int 0, .int 0, .int 0, .int 0, .null, .null, .null, .null]))] s.heap.size = A at hD ⊢
  have hA : ∀ q : Nat, s.heap.size ≤ q → A q := fun q h => by rw [← hAe]; exact Or.inr h
  have hS : va_S A s.heap s.heap [] := va_S.rf
  have hl := lv_entry ([.ref h0]) (n := 1) (Nat.le_of_ble_eq_true rfl)
  rw [lg_entry_eq]
  generalize (lg_sl ([.ref h0]) ++ List.replicate (1 - (lg_sl ([.ref h0])).length) Slot.unset).toArray = ls at hl ⊢
  have hl : lv_has ls 1 [(0, .ref h0)] := hl
  refine lv_aload_n cx.1 cx.2.1 dX7_init_0 rfl (lv_at hl 0 rfl) ?_
  refine A_obj (M := MX7_init) (pc := 1) cx hl.1 ooX7 (Nat.le_of_ble_eq_true rfl) dX7_init_1 ?_
  refine lv_aload_n cx.1 cx.2.1 dX7_init_4 rfl (lv_at hl 0 rfl) ?_
  refine lv_sipush (v := 139) cx.1 cx.2.1 dX7_init_5 (by decide +kernel) ?_
  refine A_newa (M := MX7_init) (pc := 8) cx hK hP hD hS hA 0 (atype := .int) (N := 139) (z := (139, .inl (fun _ => 0))) rfl rfl (fun _ h => h) acI (fun _ => rfl) (by decide) (by decide +kernel) (Nat.le_of_ble_eq_true rfl) (Nat.le_of_ble_eq_true rfl) (Nat.le_of_ble_eq_true rfl) dX7_init_8 (fun q1 H hP hD hS => ?_)
  have hP : va_P D classes [(h0, .inr (6, [.null, .null, .int 0, .int 0, .int 0, .null, .null, .null, .null, .null, .null, .long 0, .int 0, .int 0, .int 0, .int 0, .int 0, .int 0, .null, .int 0, .int 0, .int 0, .int 0, .int 0, .int 0, .null, .null, .null, .null])), (q1, .inl (cy 0, 139, .inl (fun _ => 0)))] H := hP
  have hD : va_D A [(h0, .inr (6, [.null, .null, .int 0, .int 0, .int 0, .null, .null, .null, .null, .null, .null, .long 0, .int 0, .int 0, .int 0, .int 0, .int 0, .int 0, .null, .int 0, .int 0, .int 0, .int 0, .int 0, .int 0, .null, .null, .null, .null])), (q1, .inl (cy 0, 139, .inl (fun _ => 0)))] := hD
  refine W.widen (k := 1) (n := 139) (by omega) (by omega) ?_
  refine A_putF (M := MX7_init) (pc := 10) cx hi hK hP hD hS 0 (k := 0) (v := .ref q1) ffX7_9 rfl rfl rfl (Nat.le_of_ble_eq_true rfl) dX7_init_10 (fun H locs hP hD hS => ?_)
  have hP : va_P D classes [(h0, .inr (6, [.ref q1, .null, .int 0, .int 0, .int 0, .null, .null, .null, .null, .null, .null, .long 0, .int 0, .int 0, .int 0, .int 0, .int 0, .int 0, .null, .int 0, .int 0, .int 0, .int 0, .int 0, .int 0, .null, .null, .null, .null])), (q1, .inl (cy 0, 139, .inl (fun _ => 0)))] H := hP
  have hD : va_D A [(h0, .inr (6, [.ref q1, .null, .int 0, .int 0, .int 0, .null, .null, .null, .null, .null, .null, .long 0, .int 0, .int 0, .int 0, .int 0, .int 0, .int 0, .null, .int 0, .int 0, .int 0, .int 0, .int 0, .int 0, .null, .null, .null, .null])), (q1, .inl (cy 0, 139, .inl (fun _ => 0)))] := hD
  refine lv_aload_n cx.1 cx.2.1 dX7_init_13 rfl (lv_at hl 0 rfl) ?_
  refine lv_bipush (v := 30) cx.1 cx.2.1 dX7_init_14 (by decide +kernel) ?_
  refine lv_sipush (v := 139) cx.1 cx.2.1 dX7_init_16 (by decide +kernel) ?_
  have hP : va_P D classes ([(h0, .inr (6, [.ref q1, .null, .int 0, .int 0, .int 0, .null, .null, .null, .null, .null, .null, .long 0, .int 0, .int 0, .int 0, .int 0, .int 0, .int 0, .null, .int 0, .int 0, .int 0, .int 0, .int 0, .int 0, .null, .null, .null, .null])), (q1, .inl (cy 0, 139, .inl (fun _ => 0)))] ++ va_pl [] (fun _ => .inl (0, 0, .inl (fun _ => 0)))) H := hP
  have hD : va_D A ([(h0, .inr (6, [.ref q1, .null, .int 0, .int 0, .int 0, .null, .null, .null, .null, .null, .null, .long 0, .int 0, .int 0, .int 0, .int 0, .int 0, .int 0, .null, .int 0, .int 0, .int 0, .int 0, .int 0, .int 0, .null, .null, .null, .null])), (q1, .inl (cy 0, 139, .inl (fun _ => 0)))] ++ va_pl [] (fun _ => .inl (0, 0, .inl (fun _ => 0)))) := hD
  refine va_mna (ty := .int) (cy := cy 0) cx.1 cx.2.1 cx.2.2.2.1 (cx.2.2.2.2.1 _ clX7_13) c0.2.1 (cx.2.2.2.2.1 _ acI) (hK.2 0 _ rfl).2 hK hP hD hS hA (N' := 30) (K' := 139) (z := (139, .inl (fun _ => 0))) (by decide) (by decide) (by decide +kernel) (by decide +kernel) (Nat.le_of_ble_eq_true rfl) (Nat.le_of_ble_eq_true rfl) (Nat.le_of_ble_eq_true rfl) rfl rfl (Nat.le_of_ble_eq_true rfl) (Nat.le_of_ble_eq_true rfl) (fun cB => ?_) dX7_init_19 (fun q2 r2 cA H hrr2 hnr2 hK1 hP hD hS => ?_)
  · exact inI cB 139
  obtain rfl : cA = cy 4 := Option.some.inj ((hK1.2 6 _ rfl).2.symm.trans (hK.2 4 _ rfl).2)
  have hP : va_P D classes ([(h0, .inr (6, [.ref q1, .null, .int 0, .int 0, .int 0, .null, .null, .null, .null, .null, .null, .long 0, .int 0, .int 0, .int 0, .int 0, .int 0, .int 0, .null, .int 0, .int 0, .int 0, .int 0, .int 0, .int 0, .null, .null, .null, .null])), (q1, .inl (cy 0, 139, .inl (fun _ => 0))), (q2, .inl (cy 4, 30, .inr (.inr (.inr (.inr (fun i => if i < 30 then some (r2 i) else none))))))] ++ va_pl ([] ++ (List.range 30).map r2) (vr_up (fun _ => .inl (0, 0, .inl (fun _ => 0))) ((List.range 30).map r2) (.inl (cy 0, 139, .inl (fun _ => 0))))) H := hP
  have hD : va_D A ([(h0, .inr (6, [.ref q1, .null, .int 0, .int 0, .int 0, .null, .null, .null, .null, .null, .null, .long 0, .int 0, .int 0, .int 0, .int 0, .int 0, .int 0, .null, .int 0, .int 0, .int 0, .int 0, .int 0, .int 0, .null, .null, .null, .null])), (q1, .inl (cy 0, 139, .inl (fun _ => 0))), (q2, .inl (cy 4, 30, .inr (.inr (.inr (.inr (fun i => if i < 30 then some (r2 i) else none))))))] ++ va_pl ([] ++ (List.range 30).map r2) (vr_up (fun _ => .inl (0, 0, .inl (fun _ => 0))) ((List.range 30).map r2) (.inl (cy 0, 139, .inl (fun _ => 0))))) := hD
  refine W.widen (k := 32) (n := 4339) (by omega) (by omega) ?_
  refine A_putF (M := MX7_init) (pc := 23) cx hi hK hP hD hS 0 (k := 1) (v := .ref q2) ffX7_15 rfl rfl rfl (Nat.le_of_ble_eq_true rfl) dX7_init_23 (fun H locs hP hD hS => ?_)
  have hP : va_P D classes ([(h0, .inr (6, [.ref q1, .ref q2, .int 0, .int 0, .int 0, .null, .null, .null, .null, .null, .null, .long 0, .int 0, .int 0, .int 0, .int 0, .int 0, .int 0, .null, .int 0, .int 0, .int 0, .int 0, .int 0, .int 0, .null, .null, .null, .null])), (q1, .inl (cy 0, 139, .inl (fun _ => 0))), (q2, .inl (cy 4, 30, .inr (.inr (.inr (.inr (fun i => if i < 30 then some (r2 i) else none))))))] ++ va_pl ([] ++ (List.range 30).map r2) (vr_up (fun _ => .inl (0, 0, .inl (fun _ => 0))) ((List.range 30).map r2) (.inl (cy 0, 139, .inl (fun _ => 0))))) H := hP
  have hD : va_D A ([(h0, .inr (6, [.ref q1, .ref q2, .int 0, .int 0, .int 0, .null, .null, .null, .null, .null, .null, .long 0, .int 0, .int 0, .int 0, .int 0, .int 0, .int 0, .null, .int 0, .int 0, .int 0, .int 0, .int 0, .int 0, .null, .null, .null, .null])), (q1, .inl (cy 0, 139, .inl (fun _ => 0))), (q2, .inl (cy 4, 30, .inr (.inr (.inr (.inr (fun i => if i < 30 then some (r2 i) else none))))))] ++ va_pl ([] ++ (List.range 30).map r2) (vr_up (fun _ => .inl (0, 0, .inl (fun _ => 0))) ((List.range 30).map r2) (.inl (cy 0, 139, .inl (fun _ => 0))))) := hD
  refine lv_aload_n cx.1 cx.2.1 dX7_init_26 rfl (lv_at hl 0 rfl) ?_
  refine lv_iconst (v := 1) cx.1 cx.2.1 dX7_init_27 (by decide +kernel) ?_
  refine A_put (M := MX7_init) (pc := 28) cx hK hP hD hS 0 (k := 4) (v := .int (1)) fqX7_18 rfl rfl rfl (Nat.le_of_ble_eq_true rfl) dX7_init_28 (fun H locs hP hD hS => ?_)
  have hP : va_P D classes ([(h0, .inr (6, [.ref q1, .ref q2, .int 0, .int 0, .int (1), .null, .null, .null, .null, .null, .null, .long 0, .int 0, .int 0, .int 0, .int 0, .int 0, .int 0, .null, .int 0, .int 0, .int 0, .int 0, .int 0, .int 0, .null, .null, .null, .null])), (q1, .inl (cy 0, 139, .inl (fun _ => 0))), (q2, .inl (cy 4, 30, .inr (.inr (.inr (.inr (fun i => if i < 30 then some (r2 i) else none))))))] ++ va_pl ([] ++ (List.range 30).map r2) (vr_up (fun _ => .inl (0, 0, .inl (fun _ => 0))) ((List.range 30).map r2) (.inl (cy 0, 139, .inl (fun _ => 0))))) H := hP
  have hD : va_D A ([(h0, .inr (6, [.ref q1, .ref q2, .int 0, .int 0, .int (1), .null, .null, .null, .null, .null, .null, .long 0, .int 0, .int 0, .int 0, .int 0, .int 0, .int 0, .null, .int 0, .int 0, .int 0, .int 0, .int 0, .int 0, .null, .null, .null, .null])), (q1, .inl (cy 0, 139, .inl (fun _ => 0))), (q2, .inl (cy 4, 30, .inr (.inr (.inr (.inr (fun i => if i < 30 then some (r2 i) else none))))))] ++ va_pl ([] ++ (List.range 30).map r2) (vr_up (fun _ => .inl (0, 0, .inl (fun _ => 0))) ((List.range 30).map r2) (.inl (cy 0, 139, .inl (fun _ => 0))))) := hD
  refine lv_aload_n cx.1 cx.2.1 dX7_init_31 rfl (lv_at hl 0 rfl) ?_
  refine lv_bipush (v := 8) cx.1 cx.2.1 dX7_init_32 (by decide +kernel) ?_
  refine A_newa (M := MX7_init) (pc := 34) cx hK hP hD hS hA 0 (atype := .int) (N := 8) (z := (8, .inl (fun _ => 0))) rfl rfl (fun _ h => h) acI (fun _ => rfl) (by decide) (by decide +kernel) (Nat.le_of_ble_eq_true rfl) (Nat.le_of_ble_eq_true rfl) (Nat.le_of_ble_eq_true rfl) dX7_init_34 (fun q3 H hP hD hS => ?_)
  replace hP := va_P.swap hP
  replace hD := va_D.swap hD
  have hP : va_P D classes ([(h0, .inr (6, [.ref q1, .ref q2, .int 0, .int 0, .int (1), .null, .null, .null, .null, .null, .null, .long 0, .int 0, .int 0, .int 0, .int 0, .int 0, .int 0, .null, .int 0, .int 0, .int 0, .int 0, .int 0, .int 0, .null, .null, .null, .null])), (q1, .inl (cy 0, 139, .inl (fun _ => 0))), (q2, .inl (cy 4, 30, .inr (.inr (.inr (.inr (fun i => if i < 30 then some (r2 i) else none)))))), (q3, .inl (cy 0, 8, .inl (fun _ => 0)))] ++ va_pl ([] ++ (List.range 30).map r2) (vr_up (fun _ => .inl (0, 0, .inl (fun _ => 0))) ((List.range 30).map r2) (.inl (cy 0, 139, .inl (fun _ => 0))))) H := hP
  have hD : va_D A ([(h0, .inr (6, [.ref q1, .ref q2, .int 0, .int 0, .int (1), .null, .null, .null, .null, .null, .null, .long 0, .int 0, .int 0, .int 0, .int 0, .int 0, .int 0, .null, .int 0, .int 0, .int 0, .int 0, .int 0, .int 0, .null, .null, .null, .null])), (q1, .inl (cy 0, 139, .inl (fun _ => 0))), (q2, .inl (cy 4, 30, .inr (.inr (.inr (.inr (fun i => if i < 30 then some (r2 i) else none)))))), (q3, .inl (cy 0, 8, .inl (fun _ => 0)))] ++ va_pl ([] ++ (List.range 30).map r2) (vr_up (fun _ => .inl (0, 0, .inl (fun _ => 0))) ((List.range 30).map r2) (.inl (cy 0, 139, .inl (fun _ => 0))))) := hD
  refine W.widen (k := 33) (n := 4347) (by omega) (by omega) ?_
  refine A_putF (M := MX7_init) (pc := 36) cx hi hK hP hD hS 0 (k := 5) (v := .ref q3) ffX7_22 rfl rfl rfl (Nat.le_of_ble_eq_true rfl) dX7_init_36 (fun H locs hP hD hS => ?_)
  have hP : va_P D classes ([(h0, .inr (6, [.ref q1, .ref q2, .int 0, .int 0, .int (1), .ref q3, .null, .null, .null, .null, .null, .long 0, .int 0, .int 0, .int 0, .int 0, .int 0, .int 0, .null, .int 0, .int 0, .int 0, .int 0, .int 0, .int 0, .null, .null, .null, .null])), (q1, .inl (cy 0, 139, .inl (fun _ => 0))), (q2, .inl (cy 4, 30, .inr (.inr (.inr (.inr (fun i => if i < 30 then some (r2 i) else none)))))), (q3, .inl (cy 0, 8, .inl (fun _ => 0)))] ++ va_pl ([] ++ (List.range 30).map r2) (vr_up (fun _ => .inl (0, 0, .inl (fun _ => 0))) ((List.range 30).map r2) (.inl (cy 0, 139, .inl (fun _ => 0))))) H := hP
  have hD : va_D A ([(h0, .inr (6, [.ref q1, .ref q2, .int 0, .int 0, .int (1), .ref q3, .null, .null, .null, .null, .null, .long 0, .int 0, .int 0, .int 0, .int 0, .int 0, .int 0, .null, .int 0, .int 0, .int 0, .int 0, .int 0, .int 0, .null, .null, .null, .null])), (q1, .inl (cy 0, 139, .inl (fun _ => 0))), (q2, .inl (cy 4, 30, .inr (.inr (.inr (.inr (fun i => if i < 30 then some (r2 i) else none)))))), (q3, .inl (cy 0, 8, .inl (fun _ => 0)))] ++ va_pl ([] ++ (List.range 30).map r2) (vr_up (fun _ => .inl (0, 0, .inl (fun _ => 0))) ((List.range 30).map r2) (.inl (cy 0, 139, .inl (fun _ => 0))))) := hD
  refine lv_aload_n cx.1 cx.2.1 dX7_init_39 rfl (lv_at hl 0 rfl) ?_
  refine lv_sipush (v := 139) cx.1 cx.2.1 dX7_init_40 (by decide +kernel) ?_
  refine A_newa (M := MX7_init) (pc := 43) cx hK hP hD hS hA 0 (atype := .int) (N := 139) (z := (139, .inl (fun _ => 0))) rfl rfl (fun _ h => h) acI (fun _ => rfl) (by decide) (by decide +kernel) (Nat.le_of_ble_eq_true rfl) (Nat.le_of_ble_eq_true rfl) (Nat.le_of_ble_eq_true rfl) dX7_init_43 (fun q4 H hP hD hS => ?_)
  replace hP := va_P.swap hP
  replace hD := va_D.swap hD
  have hP : va_P D classes ([(h0, .inr (6, [.ref q1, .ref q2, .int 0, .int 0, .int (1), .ref q3, .null, .null, .null, .null, .null, .long 0, .int 0, .int 0, .int 0, .int 0, .int 0, .int 0, .null, .int 0, .int 0, .int 0, .int 0, .int 0, .int 0, .null, .null, .null, .null])), (q1, .inl (cy 0, 139, .inl (fun _ => 0))), (q2, .inl (cy 4, 30, .inr (.inr (.inr (.inr (fun i => if i < 30 then some (r2 i) else none)))))), (q3, .inl (cy 0, 8, .inl (fun _ => 0))), (q4, .inl (cy 0, 139, .inl (fun _ => 0)))] ++ va_pl ([] ++ (List.range 30).map r2) (vr_up (fun _ => .inl (0, 0, .inl (fun _ => 0))) ((List.range 30).map r2) (.inl (cy 0, 139, .inl (fun _ => 0))))) H := hP
  have hD : va_D A ([(h0, .inr (6, [.ref q1, .ref q2, .int 0, .int 0, .int (1), .ref q3, .null, .null, .null, .null, .null, .long 0, .int 0, .int 0, .int 0, .int 0, .int 0, .int 0, .null, .int 0, .int 0, .int 0, .int 0, .int 0, .int 0, .null, .null, .null, .null])), (q1, .inl (cy 0, 139, .inl (fun _ => 0))), (q2, .inl (cy 4, 30, .inr (.inr (.inr (.inr (fun i => if i < 30 then some (r2 i) else none)))))), (q3, .inl (cy 0, 8, .inl (fun _ => 0))), (q4, .inl (cy 0, 139, .inl (fun _ => 0)))] ++ va_pl ([] ++ (List.range 30).map r2) (vr_up (fun _ => .inl (0, 0, .inl (fun _ => 0))) ((List.range 30).map r2) (.inl (cy 0, 139, .inl (fun _ => 0))))) := hD
  refine W.widen (k := 34) (n := 4486) (by omega) (by omega) ?_
  refine A_putF (M := MX7_init) (pc := 45) cx hi hK hP hD hS 0 (k := 6) (v := .ref q4) ffX7_25 rfl rfl rfl (Nat.le_of_ble_eq_true rfl) dX7_init_45 (fun H locs hP hD hS => ?_)
  have hP : va_P D classes ([(h0, .inr (6, [.ref q1, .ref q2, .int 0, .int 0, .int (1), .ref q3, .ref q4, .null, .null, .null, .null, .long 0, .int 0, .int 0, .int 0, .int 0, .int 0, .int 0, .null, .int 0, .int 0, .int 0, .int 0, .int 0, .int 0, .null, .null, .null, .null])), (q1, .inl (cy 0, 139, .inl (fun _ => 0))), (q2, .inl (cy 4, 30, .inr (.inr (.inr (.inr (fun i => if i < 30 then some (r2 i) else none)))))), (q3, .inl (cy 0, 8, .inl (fun _ => 0))), (q4, .inl (cy 0, 139, .inl (fun _ => 0)))] ++ va_pl ([] ++ (List.range 30).map r2) (vr_up (fun _ => .inl (0, 0, .inl (fun _ => 0))) ((List.range 30).map r2) (.inl (cy 0, 139, .inl (fun _ => 0))))) H := hP
  have hD : va_D A ([(h0, .inr (6, [.ref q1, .ref q2, .int 0, .int 0, .int (1), .ref q3, .ref q4, .null, .null, .null, .null, .long 0, .int 0, .int 0, .int 0, .int 0, .int 0, .int 0, .null, .int 0, .int 0, .int 0, .int 0, .int 0, .int 0, .null, .null, .null, .null])), (q1, .inl (cy 0, 139, .inl (fun _ => 0))), (q2, .inl (cy 4, 30, .inr (.inr (.inr (.inr (fun i => if i < 30 then some (r2 i) else none)))))), (q3, .inl (cy 0, 8, .inl (fun _ => 0))), (q4, .inl (cy 0, 139, .inl (fun _ => 0)))] ++ va_pl ([] ++ (List.range 30).map r2) (vr_up (fun _ => .inl (0, 0, .inl (fun _ => 0))) ((List.range 30).map r2) (.inl (cy 0, 139, .inl (fun _ => 0))))) := hD
  refine lv_aload_n cx.1 cx.2.1 dX7_init_48 rfl (lv_at hl 0 rfl) ?_
  refine lv_bipush (v := 6) cx.1 cx.2.1 dX7_init_49 (by decide +kernel) ?_
  refine A_newa (M := MX7_init) (pc := 51) cx hK hP hD hS hA 0 (atype := .int) (N := 6) (z := (6, .inl (fun _ => 0))) rfl rfl (fun _ h => h) acI (fun _ => rfl) (by decide) (by decide +kernel) (Nat.le_of_ble_eq_true rfl) (Nat.le_of_ble_eq_true rfl) (Nat.le_of_ble_eq_true rfl) dX7_init_51 (fun q5 H hP hD hS => ?_)
  replace hP := va_P.swap hP
  replace hD := va_D.swap hD
  have hP : va_P D classes ([(h0, .inr (6, [.ref q1, .ref q2, .int 0, .int 0, .int (1), .ref q3, .ref q4, .null, .null, .null, .null, .long 0, .int 0, .int 0, .int 0, .int 0, .int 0, .int 0, .null, .int 0, .int 0, .int 0, .int 0, .int 0, .int 0, .null, .null, .null, .null])), (q1, .inl (cy 0, 139, .inl (fun _ => 0))), (q2, .inl (cy 4, 30, .inr (.inr (.inr (.inr (fun i => if i < 30 then some (r2 i) else none)))))), (q3, .inl (cy 0, 8, .inl (fun _ => 0))), (q4, .inl (cy 0, 139, .inl (fun _ => 0))), (q5, .inl (cy 0, 6, .inl (fun _ => 0)))] ++ va_pl ([] ++ (List.range 30).map r2) (vr_up (fun _ => .inl (0, 0, .inl (fun _ => 0))) ((List.range 30).map r2) (.inl (cy 0, 139, .inl (fun _ => 0))))) H := hP
  have hD : va_D A ([(h0, .inr (6, [.ref q1, .ref q2, .int 0, .int 0, .int (1), .ref q3, .ref q4, .null, .null, .null, .null, .long 0, .int 0, .int 0, .int 0, .int 0, .int 0, .int 0, .null, .int 0, .int 0, .int 0, .int 0, .int 0, .int 0, .null, .null, .null, .null])), (q1, .inl (cy 0, 139, .inl (fun _ => 0))), (q2, .inl (cy 4, 30, .inr (.inr (.inr (.inr (fun i => if i < 30 then some (r2 i) else none)))))), (q3, .inl (cy 0, 8, .inl (fun _ => 0))), (q4, .inl (cy 0, 139, .inl (fun _ => 0))), (q5, .inl (cy 0, 6, .inl (fun _ => 0)))] ++ va_pl ([] ++ (List.range 30).map r2) (vr_up (fun _ => .inl (0, 0, .inl (fun _ => 0))) ((List.range 30).map r2) (.inl (cy 0, 139, .inl (fun _ => 0))))) := hD
  refine W.widen (k := 35) (n := 4492) (by omega) (by omega) ?_
  refine A_putF (M := MX7_init) (pc := 53) cx hi hK hP hD hS 0 (k := 7) (v := .ref q5) ffX7_28 rfl rfl rfl (Nat.le_of_ble_eq_true rfl) dX7_init_53 (fun H locs hP hD hS => ?_)
  have hP : va_P D classes ([(h0, .inr (6, [.ref q1, .ref q2, .int 0, .int 0, .int (1), .ref q3, .ref q4, .ref q5, .null, .null, .null, .long 0, .int 0, .int 0, .int 0, .int 0, .int 0, .int 0, .null, .int 0, .int 0, .int 0, .int 0, .int 0, .int 0, .null, .null, .null, .null])), (q1, .inl (cy 0, 139, .inl (fun _ => 0))), (q2, .inl (cy 4, 30, .inr (.inr (.inr (.inr (fun i => if i < 30 then some (r2 i) else none)))))), (q3, .inl (cy 0, 8, .inl (fun _ => 0))), (q4, .inl (cy 0, 139, .inl (fun _ => 0))), (q5, .inl (cy 0, 6, .inl (fun _ => 0)))] ++ va_pl ([] ++ (List.range 30).map r2) (vr_up (fun _ => .inl (0, 0, .inl (fun _ => 0))) ((List.range 30).map r2) (.inl (cy 0, 139, .inl (fun _ => 0))))) H := hP
  have hD : va_D A ([(h0, .inr (6, [.ref q1, .ref q2, .int 0, .int 0, .int (1), .ref q3, .ref q4, .ref q5, .null, .null, .null, .long 0, .int 0, .int 0, .int 0, .int 0, .int 0, .int 0, .null, .int 0, .int 0, .int 0, .int 0, .int 0, .int 0, .null, .null, .null, .null])), (q1, .inl (cy 0, 139, .inl (fun _ => 0))), (q2, .inl (cy 4, 30, .inr (.inr (.inr (.inr (fun i => if i < 30 then some (r2 i) else none)))))), (q3, .inl (cy 0, 8, .inl (fun _ => 0))), (q4, .inl (cy 0, 139, .inl (fun _ => 0))), (q5, .inl (cy 0, 6, .inl (fun _ => 0)))] ++ va_pl ([] ++ (List.range 30).map r2) (vr_up (fun _ => .inl (0, 0, .inl (fun _ => 0))) ((List.range 30).map r2) (.inl (cy 0, 139, .inl (fun _ => 0))))) := hD
  refine lv_aload_n cx.1 cx.2.1 dX7_init_56 rfl (lv_at hl 0 rfl) ?_
  refine lv_bipush (v := 6) cx.1 cx.2.1 dX7_init_57 (by decide +kernel) ?_
  refine A_newa (M := MX7_init) (pc := 59) cx hK hP hD hS hA 0 (atype := .int) (N := 6) (z := (6, .inl (fun _ => 0))) rfl rfl (fun _ h => h) acI (fun _ => rfl) (by decide) (by decide +kernel) (Nat.le_of_ble_eq_true rfl) (Nat.le_of_ble_eq_true rfl) (Nat.le_of_ble_eq_true rfl) dX7_init_59 (fun q6 H hP hD hS => ?_)
  replace hP := va_P.swap hP
  replace hD := va_D.swap hD
  have hP : va_P D classes ([(h0, .inr (6, [.ref q1, .ref q2, .int 0, .int 0, .int (1), .ref q3, .ref q4, .ref q5, .null, .null, .null, .long 0, .int 0, .int 0, .int 0, .int 0, .int 0, .int 0, .null, .int 0, .int 0, .int 0, .int 0, .int 0, .int 0, .null, .null, .null, .null])), (q1, .inl (cy 0, 139, .inl (fun _ => 0))), (q2, .inl (cy 4, 30, .inr (.inr (.inr (.inr (fun i => if i < 30 then some (r2 i) else none)))))), (q3, .inl (cy 0, 8, .inl (fun _ => 0))), (q4, .inl (cy 0, 139, .inl (fun _ => 0))), (q5, .inl (cy 0, 6, .inl (fun _ => 0))), (q6, .inl (cy 0, 6, .inl (fun _ => 0)))] ++ va_pl ([] ++ (List.range 30).map r2) (vr_up (fun _ => .inl (0, 0, .inl (fun _ => 0))) ((List.range 30).map r2) (.inl (cy 0, 139, .inl (fun _ => 0))))) H := hP
  have hD : va_D A ([(h0, .inr (6, [.ref q1, .ref q2, .int 0, .int 0, .int (1), .ref q3, .ref q4, .ref q5, .null, .null, .null, .long 0, .int 0, .int 0, .int 0, .int 0, .int 0, .int 0, .null, .int 0, .int 0, .int 0, .int 0, .int 0, .int 0, .null, .null, .null, .null])), (q1, .inl (cy 0, 139, .inl (fun _ => 0))), (q2, .inl (cy 4, 30, .inr (.inr (.inr (.inr (fun i => if i < 30 then some (r2 i) else none)))))), (q3, .inl (cy 0, 8, .inl (fun _ => 0))), (q4, .inl (cy 0, 139, .inl (fun _ => 0))), (q5, .inl (cy 0, 6, .inl (fun _ => 0))), (q6, .inl (cy 0, 6, .inl (fun _ => 0)))] ++ va_pl ([] ++ (List.range 30).map r2) (vr_up (fun _ => .inl (0, 0, .inl (fun _ => 0))) ((List.range 30).map r2) (.inl (cy 0, 139, .inl (fun _ => 0))))) := hD
  refine W.widen (k := 36) (n := 4498) (by omega) (by omega) ?_
  refine A_putF (M := MX7_init) (pc := 61) cx hi hK hP hD hS 0 (k := 8) (v := .ref q6) ffX7_31 rfl rfl rfl (Nat.le_of_ble_eq_true rfl) dX7_init_61 (fun H locs hP hD hS => ?_)
  have hP : va_P D classes ([(h0, .inr (6, [.ref q1, .ref q2, .int 0, .int 0, .int (1), .ref q3, .ref q4, .ref q5, .ref q6, .null, .null, .long 0, .int 0, .int 0, .int 0, .int 0, .int 0, .int 0, .null, .int 0, .int 0, .int 0, .int 0, .int 0, .int 0, .null, .null, .null, .null])), (q1, .inl (cy 0, 139, .inl (fun _ => 0))), (q2, .inl (cy 4, 30, .inr (.inr (.inr (.inr (fun i => if i < 30 then some (r2 i) else none)))))), (q3, .inl (cy 0, 8, .inl (fun _ => 0))), (q4, .inl (cy 0, 139, .inl (fun _ => 0))), (q5, .inl (cy 0, 6, .inl (fun _ => 0))), (q6, .inl (cy 0, 6, .inl (fun _ => 0)))] ++ va_pl ([] ++ (List.range 30).map r2) (vr_up (fun _ => .inl (0, 0, .inl (fun _ => 0))) ((List.range 30).map r2) (.inl (cy 0, 139, .inl (fun _ => 0))))) H := hP
  have hD : va_D A ([(h0, .inr (6, [.ref q1, .ref q2, .int 0, .int 0, .int (1), .ref q3, .ref q4, .ref q5, .ref q6, .null, .null, .long 0, .int 0, .int 0, .int 0, .int 0, .int 0, .int 0, .null, .int 0, .int 0, .int 0, .int 0, .int 0, .int 0, .null, .null, .null, .null])), (q1, .inl (cy 0, 139, .inl (fun _ => 0))), (q2, .inl (cy 4, 30, .inr (.inr (.inr (.inr (fun i => if i < 30 then some (r2 i) else none)))))), (q3, .inl (cy 0, 8, .inl (fun _ => 0))), (q4, .inl (cy 0, 139, .inl (fun _ => 0))), (q5, .inl (cy 0, 6, .inl (fun _ => 0))), (q6, .inl (cy 0, 6, .inl (fun _ => 0)))] ++ va_pl ([] ++ (List.range 30).map r2) (vr_up (fun _ => .inl (0, 0, .inl (fun _ => 0))) ((List.range 30).map r2) (.inl (cy 0, 139, .inl (fun _ => 0))))) := hD
  refine lv_aload_n cx.1 cx.2.1 dX7_init_64 rfl (lv_at hl 0 rfl) ?_
  refine lv_bipush (v := 6) cx.1 cx.2.1 dX7_init_65 (by decide +kernel) ?_
  refine A_newa (M := MX7_init) (pc := 67) cx hK hP hD hS hA 0 (atype := .int) (N := 6) (z := (6, .inl (fun _ => 0))) rfl rfl (fun _ h => h) acI (fun _ => rfl) (by decide) (by decide +kernel) (Nat.le_of_ble_eq_true rfl) (Nat.le_of_ble_eq_true rfl) (Nat.le_of_ble_eq_true rfl) dX7_init_67 (fun q7 H hP hD hS => ?_)
  replace hP := va_P.swap hP
  replace hD := va_D.swap hD
  have hP : va_P D classes ([(h0, .inr (6, [.ref q1, .ref q2, .int 0, .int 0, .int (1), .ref q3, .ref q4, .ref q5, .ref q6, .null, .null, .long 0, .int 0, .int 0, .int 0, .int 0, .int 0, .int 0, .null, .int 0, .int 0, .int 0, .int 0, .int 0, .int 0, .null, .null, .null, .null])), (q1, .inl (cy 0, 139, .inl (fun _ => 0))), (q2, .inl (cy 4, 30, .inr (.inr (.inr (.inr (fun i => if i < 30 then some (r2 i) else none)))))), (q3, .inl (cy 0, 8, .inl (fun _ => 0))), (q4, .inl (cy 0, 139, .inl (fun _ => 0))), (q5, .inl (cy 0, 6, .inl (fun _ => 0))), (q6, .inl (cy 0, 6, .inl (fun _ => 0))), (q7, .inl (cy 0, 6, .inl (fun _ => 0)))] ++ va_pl ([] ++ (List.range 30).map r2) (vr_up (fun _ => .inl (0, 0, .inl (fun _ => 0))) ((List.range 30).map r2) (.inl (cy 0, 139, .inl (fun _ => 0))))) H := hP
  have hD : va_D A ([(h0, .inr (6, [.ref q1, .ref q2, .int 0, .int 0, .int (1), .ref q3, .ref q4, .ref q5, .ref q6, .null, .null, .long 0, .int 0, .int 0, .int 0, .int 0, .int 0, .int 0, .null, .int 0, .int 0, .int 0, .int 0, .int 0, .int 0, .null, .null, .null, .null])), (q1, .inl (cy 0, 139, .inl (fun _ => 0))), (q2, .inl (cy 4, 30, .inr (.inr (.inr (.inr (fun i => if i < 30 then some (r2 i) else none)))))), (q3, .inl (cy 0, 8, .inl (fun _ => 0))), (q4, .inl (cy 0, 139, .inl (fun _ => 0))), (q5, .inl (cy 0, 6, .inl (fun _ => 0))), (q6, .inl (cy 0, 6, .inl (fun _ => 0))), (q7, .inl (cy 0, 6, .inl (fun _ => 0)))] ++ va_pl ([] ++ (List.range 30).map r2) (vr_up (fun _ => .inl (0, 0, .inl (fun _ => 0))) ((List.range 30).map r2) (.inl (cy 0, 139, .inl (fun _ => 0))))) := hD
  refine W.widen (k := 37) (n := 4504) (by omega) (by omega) ?_
  refine A_putF (M := MX7_init) (pc := 69) cx hi hK hP hD hS 0 (k := 9) (v := .ref q7) ffX7_34 rfl rfl rfl (Nat.le_of_ble_eq_true rfl) dX7_init_69 (fun H locs hP hD hS => ?_)
  have hP : va_P D classes ([(h0, .inr (6, [.ref q1, .ref q2, .int 0, .int 0, .int (1), .ref q3, .ref q4, .ref q5, .ref q6, .ref q7, .null, .long 0, .int 0, .int 0, .int 0, .int 0, .int 0, .int 0, .null, .int 0, .int 0, .int 0, .int 0, .int 0, .int 0, .null, .null, .null, .null])), (q1, .inl (cy 0, 139, .inl (fun _ => 0))), (q2, .inl (cy 4, 30, .inr (.inr (.inr (.inr (fun i => if i < 30 then some (r2 i) else none)))))), (q3, .inl (cy 0, 8, .inl (fun _ => 0))), (q4, .inl (cy 0, 139, .inl (fun _ => 0))), (q5, .inl (cy 0, 6, .inl (fun _ => 0))), (q6, .inl (cy 0, 6, .inl (fun _ => 0))), (q7, .inl (cy 0, 6, .inl (fun _ => 0)))] ++ va_pl ([] ++ (List.range 30).map r2) (vr_up (fun _ => .inl (0, 0, .inl (fun _ => 0))) ((List.range 30).map r2) (.inl (cy 0, 139, .inl (fun _ => 0))))) H := hP
  have hD : va_D A ([(h0, .inr (6, [.ref q1, .ref q2, .int 0, .int 0, .int (1), .ref q3, .ref q4, .ref q5, .ref q6, .ref q7, .null, .long 0, .int 0, .int 0, .int 0, .int 0, .int 0, .int 0, .null, .int 0, .int 0, .int 0, .int 0, .int 0, .int 0, .null, .null, .null, .null])), (q1, .inl (cy 0, 139, .inl (fun _ => 0))), (q2, .inl (cy 4, 30, .inr (.inr (.inr (.inr (fun i => if i < 30 then some (r2 i) else none)))))), (q3, .inl (cy 0, 8, .inl (fun _ => 0))), (q4, .inl (cy 0, 139, .inl (fun _ => 0))), (q5, .inl (cy 0, 6, .inl (fun _ => 0))), (q6, .inl (cy 0, 6, .inl (fun _ => 0))), (q7, .inl (cy 0, 6, .inl (fun _ => 0)))] ++ va_pl ([] ++ (List.range 30).map r2) (vr_up (fun _ => .inl (0, 0, .inl (fun _ => 0))) ((List.range 30).map r2) (.inl (cy 0, 139, .inl (fun _ => 0))))) := hD
  refine lv_aload_n cx.1 cx.2.1 dX7_init_72 rfl (lv_at hl 0 rfl) ?_
  refine lv_bipush (v := 6) cx.1 cx.2.1 dX7_init_73 (by decide +kernel) ?_
  refine A_newa (M := MX7_init) (pc := 75) cx hK hP hD hS hA 0 (atype := .int) (N := 6) (z := (6, .inl (fun _ => 0))) rfl rfl (fun _ h => h) acI (fun _ => rfl) (by decide) (by decide +kernel) (Nat.le_of_ble_eq_true rfl) (Nat.le_of_ble_eq_true rfl) (Nat.le_of_ble_eq_true rfl) dX7_init_75 (fun q8 H hP hD hS => ?_)
  replace hP := va_P.swap hP
  replace hD := va_D.swap hD
  have hP : va_P D classes ([(h0, .inr (6, [.ref q1, .ref q2, .int 0, .int 0, .int (1), .ref q3, .ref q4, .ref q5, .ref q6, .ref q7, .null, .long 0, .int 0, .int 0, .int 0, .int 0, .int 0, .int 0, .null, .int 0, .int 0, .int 0, .int 0, .int 0, .int 0, .null, .null, .null, .null])), (q1, .inl (cy 0, 139, .inl (fun _ => 0))), (q2, .inl (cy 4, 30, .inr (.inr (.inr (.inr (fun i => if i < 30 then some (r2 i) else none)))))), (q3, .inl (cy 0, 8, .inl (fun _ => 0))), (q4, .inl (cy 0, 139, .inl (fun _ => 0))), (q5, .inl (cy 0, 6, .inl (fun _ => 0))), (q6, .inl (cy 0, 6, .inl (fun _ => 0))), (q7, .inl (cy 0, 6, .inl (fun _ => 0))), (q8, .inl (cy 0, 6, .inl (fun _ => 0)))] ++ va_pl ([] ++ (List.range 30).map r2) (vr_up (fun _ => .inl (0, 0, .inl (fun _ => 0))) ((List.range 30).map r2) (.inl (cy 0, 139, .inl (fun _ => 0))))) H := hP
  have hD : va_D A ([(h0, .inr (6, [.ref q1, .ref q2, .int 0, .int 0, .int (1), .ref q3, .ref q4, .ref q5, .ref q6, .ref q7, .null, .long 0, .int 0, .int 0, .int 0, .int 0, .int 0, .int 0, .null, .int 0, .int 0, .int 0, .int 0, .int 0, .int 0, .null, .null, .null, .null])), (q1, .inl (cy 0, 139, .inl (fun _ => 0))), (q2, .inl (cy 4, 30, .inr (.inr (.inr (.inr (fun i => if i < 30 then some (r2 i) else none)))))), (q3, .inl (cy 0, 8, .inl (fun _ => 0))), (q4, .inl (cy 0, 139, .inl (fun _ => 0))), (q5, .inl (cy 0, 6, .inl (fun _ => 0))), (q6, .inl (cy 0, 6, .inl (fun _ => 0))), (q7, .inl (cy 0, 6, .inl (fun _ => 0))), (q8, .inl (cy 0, 6, .inl (fun _ => 0)))] ++ va_pl ([] ++ (List.range 30).map r2) (vr_up (fun _ => .inl (0, 0, .inl (fun _ => 0))) ((List.range 30).map r2) (.inl (cy 0, 139, .inl (fun _ => 0))))) := hD
  refine W.widen (k := 38) (n := 4510) (by omega) (by omega) ?_
  refine A_putF (M := MX7_init) (pc := 77) cx hi hK hP hD hS 0 (k := 10) (v := .ref q8) ffX7_37 rfl rfl rfl (Nat.le_of_ble_eq_true rfl) dX7_init_77 (fun H locs hP hD hS => ?_)
  have hP : va_P D classes ([(h0, .inr (6, [.ref q1, .ref q2, .int 0, .int 0, .int (1), .ref q3, .ref q4, .ref q5, .ref q6, .ref q7, .ref q8, .long 0, .int 0, .int 0, .int 0, .int 0, .int 0, .int 0, .null, .int 0, .int 0, .int 0, .int 0, .int 0, .int 0, .null, .null, .null, .null])), (q1, .inl (cy 0, 139, .inl (fun _ => 0))), (q2, .inl (cy 4, 30, .inr (.inr (.inr (.inr (fun i => if i < 30 then some (r2 i) else none)))))), (q3, .inl (cy 0, 8, .inl (fun _ => 0))), (q4, .inl (cy 0, 139, .inl (fun _ => 0))), (q5, .inl (cy 0, 6, .inl (fun _ => 0))), (q6, .inl (cy 0, 6, .inl (fun _ => 0))), (q7, .inl (cy 0, 6, .inl (fun _ => 0))), (q8, .inl (cy 0, 6, .inl (fun _ => 0)))] ++ va_pl ([] ++ (List.range 30).map r2) (vr_up (fun _ => .inl (0, 0, .inl (fun _ => 0))) ((List.range 30).map r2) (.inl (cy 0, 139, .inl (fun _ => 0))))) H := hP
  have hD : va_D A ([(h0, .inr (6, [.ref q1, .ref q2, .int 0, .int 0, .int (1), .ref q3, .ref q4, .ref q5, .ref q6, .ref q7, .ref q8, .long 0, .int 0, .int 0, .int 0, .int 0, .int 0, .int 0, .null, .int 0, .int 0, .int 0, .int 0, .int 0, .int 0, .null, .null, .null, .null])), (q1, .inl (cy 0, 139, .inl (fun _ => 0))), (q2, .inl (cy 4, 30, .inr (.inr (.inr (.inr (fun i => if i < 30 then some (r2 i) else none)))))), (q3, .inl (cy 0, 8, .inl (fun _ => 0))), (q4, .inl (cy 0, 139, .inl (fun _ => 0))), (q5, .inl (cy 0, 6, .inl (fun _ => 0))), (q6, .inl (cy 0, 6, .inl (fun _ => 0))), (q7, .inl (cy 0, 6, .inl (fun _ => 0))), (q8, .inl (cy 0, 6, .inl (fun _ => 0)))] ++ va_pl ([] ++ (List.range 30).map r2) (vr_up (fun _ => .inl (0, 0, .inl (fun _ => 0))) ((List.range 30).map r2) (.inl (cy 0, 139, .inl (fun _ => 0))))) := hD
  refine lv_aload_n cx.1 cx.2.1 dX7_init_80 rfl (lv_at hl 0 rfl) ?_
  refine lv_bipush (v := 120) cx.1 cx.2.1 dX7_init_81 (by decide +kernel) ?_
  refine A_newa (M := MX7_init) (pc := 83) cx hK hP hD hS hA 0 (atype := .int) (N := 120) (z := (120, .inl (fun _ => 0))) rfl rfl (fun _ h => h) acI (fun _ => rfl) (by decide) (by decide +kernel) (Nat.le_of_ble_eq_true rfl) (Nat.le_of_ble_eq_true rfl) (Nat.le_of_ble_eq_true rfl) dX7_init_83 (fun q9 H hP hD hS => ?_)
  replace hP := va_P.swap hP
  replace hD := va_D.swap hD
  have hP : va_P D classes ([(h0, .inr (6, [.ref q1, .ref q2, .int 0, .int 0, .int (1), .ref q3, .ref q4, .ref q5, .ref q6, .ref q7, .ref q8, .long 0, .int 0, .int 0, .int 0, .int 0, .int 0, .int 0, .null, .int 0, .int 0, .int 0, .int 0, .int 0, .int 0, .null, .null, .null, .null])), (q1, .inl (cy 0, 139, .inl (fun _ => 0))), (q2, .inl (cy 4, 30, .inr (.inr (.inr (.inr (fun i => if i < 30 then some (r2 i) else none)))))), (q3, .inl (cy 0, 8, .inl (fun _ => 0))), (q4, .inl (cy 0, 139, .inl (fun _ => 0))), (q5, .inl (cy 0, 6, .inl (fun _ => 0))), (q6, .inl (cy 0, 6, .inl (fun _ => 0))), (q7, .inl (cy 0, 6, .inl (fun _ => 0))), (q8, .inl (cy 0, 6, .inl (fun _ => 0))), (q9, .inl (cy 0, 120, .inl (fun _ => 0)))] ++ va_pl ([] ++ (List.range 30).map r2) (vr_up (fun _ => .inl (0, 0, .inl (fun _ => 0))) ((List.range 30).map r2) (.inl (cy 0, 139, .inl (fun _ => 0))))) H := hP
  have hD : va_D A ([(h0, .inr (6, [.ref q1, .ref q2, .int 0, .int 0, .int (1), .ref q3, .ref q4, .ref q5, .ref q6, .ref q7, .ref q8, .long 0, .int 0, .int 0, .int 0, .int 0, .int 0, .int 0, .null, .int 0, .int 0, .int 0, .int 0, .int 0, .int 0, .null, .null, .null, .null])), (q1, .inl (cy 0, 139, .inl (fun _ => 0))), (q2, .inl (cy 4, 30, .inr (.inr (.inr (.inr (fun i => if i < 30 then some (r2 i) else none)))))), (q3, .inl (cy 0, 8, .inl (fun _ => 0))), (q4, .inl (cy 0, 139, .inl (fun _ => 0))), (q5, .inl (cy 0, 6, .inl (fun _ => 0))), (q6, .inl (cy 0, 6, .inl (fun _ => 0))), (q7, .inl (cy 0, 6, .inl (fun _ => 0))), (q8, .inl (cy 0, 6, .inl (fun _ => 0))), (q9, .inl (cy 0, 120, .inl (fun _ => 0)))] ++ va_pl ([] ++ (List.range 30).map r2) (vr_up (fun _ => .inl (0, 0, .inl (fun _ => 0))) ((List.range 30).map r2) (.inl (cy 0, 139, .inl (fun _ => 0))))) := hD
  refine W.widen (k := 39) (n := 4630) (by omega) (by omega) ?_
  refine A_putF (M := MX7_init) (pc := 85) cx hi hK hP hD hS 0 (k := 18) (v := .ref q9) ffX7_40 rfl rfl rfl (Nat.le_of_ble_eq_true rfl) dX7_init_85 (fun H locs hP hD hS => ?_)
  have hP : va_P D classes ([(h0, .inr (6, [.ref q1, .ref q2, .int 0, .int 0, .int (1), .ref q3, .ref q4, .ref q5, .ref q6, .ref q7, .ref q8, .long 0, .int 0, .int 0, .int 0, .int 0, .int 0, .int 0, .ref q9, .int 0, .int 0, .int 0, .int 0, .int 0, .int 0, .null, .null, .null, .null])), (q1, .inl (cy 0, 139, .inl (fun _ => 0))), (q2, .inl (cy 4, 30, .inr (.inr (.inr (.inr (fun i => if i < 30 then some (r2 i) else none)))))), (q3, .inl (cy 0, 8, .inl (fun _ => 0))), (q4, .inl (cy 0, 139, .inl (fun _ => 0))), (q5, .inl (cy 0, 6, .inl (fun _ => 0))), (q6, .inl (cy 0, 6, .inl (fun _ => 0))), (q7, .inl (cy 0, 6, .inl (fun _ => 0))), (q8, .inl (cy 0, 6, .inl (fun _ => 0))), (q9, .inl (cy 0, 120, .inl (fun _ => 0)))] ++ va_pl ([] ++ (List.range 30).map r2) (vr_up (fun _ => .inl (0, 0, .inl (fun _ => 0))) ((List.range 30).map r2) (.inl (cy 0, 139, .inl (fun _ => 0))))) H := hP
  have hD : va_D A ([(h0, .inr (6, [.ref q1, .ref q2, .int 0, .int 0, .int (1), .ref q3, .ref q4, .ref q5, .ref q6, .ref q7, .ref q8, .long 0, .int 0, .int 0, .int 0, .int 0, .int 0, .int 0, .ref q9, .int 0, .int 0, .int 0, .int 0, .int 0, .int 0, .null, .null, .null, .null])), (q1, .inl (cy 0, 139, .inl (fun _ => 0))), (q2, .inl (cy 4, 30, .inr (.inr (.inr (.inr (fun i => if i < 30 then some (r2 i) else none)))))), (q3, .inl (cy 0, 8, .inl (fun _ => 0))), (q4, .inl (cy 0, 139, .inl (fun _ => 0))), (q5, .inl (cy 0, 6, .inl (fun _ => 0))), (q6, .inl (cy 0, 6, .inl (fun _ => 0))), (q7, .inl (cy 0, 6, .inl (fun _ => 0))), (q8, .inl (cy 0, 6, .inl (fun _ => 0))), (q9, .inl (cy 0, 120, .inl (fun _ => 0)))] ++ va_pl ([] ++ (List.range 30).map r2) (vr_up (fun _ => .inl (0, 0, .inl (fun _ => 0))) ((List.range 30).map r2) (.inl (cy 0, 139, .inl (fun _ => 0))))) := hD
  refine lv_aload_n cx.1 cx.2.1 dX7_init_88 rfl (lv_at hl 0 rfl) ?_
  refine lv_iconst (v := 4) cx.1 cx.2.1 dX7_init_89 (by decide +kernel) ?_
  refine A_newa (M := MX7_init) (pc := 90) cx hK hP hD hS hA 0 (atype := .int) (N := 4) (z := (4, .inl (fun _ => 0))) rfl rfl (fun _ h => h) acI (fun _ => rfl) (by decide) (by decide +kernel) (Nat.le_of_ble_eq_true rfl) (Nat.le_of_ble_eq_true rfl) (Nat.le_of_ble_eq_true rfl) dX7_init_90 (fun q10 H hP hD hS => ?_)
  replace hP := va_P.swap hP
  replace hD := va_D.swap hD
  have hP : va_P D classes ([(h0, .inr (6, [.ref q1, .ref q2, .int 0, .int 0, .int (1), .ref q3, .ref q4, .ref q5, .ref q6, .ref q7, .ref q8, .long 0, .int 0, .int 0, .int 0, .int 0, .int 0, .int 0, .ref q9, .int 0, .int 0, .int 0, .int 0, .int 0, .int 0, .null, .null, .null, .null])), (q1, .inl (cy 0, 139, .inl (fun _ => 0))), (q2, .inl (cy 4, 30, .inr (.inr (.inr (.inr (fun i => if i < 30 then some (r2 i) else none)))))), (q3, .inl (cy 0, 8, .inl (fun _ => 0))), (q4, .inl (cy 0, 139, .inl (fun _ => 0))), (q5, .inl (cy 0, 6, .inl (fun _ => 0))), (q6, .inl (cy 0, 6, .inl (fun _ => 0))), (q7, .inl (cy 0, 6, .inl (fun _ => 0))), (q8, .inl (cy 0, 6, .inl (fun _ => 0))), (q9, .inl (cy 0, 120, .inl (fun _ => 0))), (q10, .inl (cy 0, 4, .inl (fun _ => 0)))] ++ va_pl ([] ++ (List.range 30).map r2) (vr_up (fun _ => .inl (0, 0, .inl (fun _ => 0))) ((List.range 30).map r2) (.inl (cy 0, 139, .inl (fun _ => 0))))) H := hP
  have hD : va_D A ([(h0, .inr (6, [.ref q1, .ref q2, .int 0, .int 0, .int (1), .ref q3, .ref q4, .ref q5, .ref q6, .ref q7, .ref q8, .long 0, .int 0, .int 0, .int 0, .int 0, .int 0, .int 0, .ref q9, .int 0, .int 0, .int 0, .int 0, .int 0, .int 0, .null, .null, .null, .null])), (q1, .inl (cy 0, 139, .inl (fun _ => 0))), (q2, .inl (cy 4, 30, .inr (.inr (.inr (.inr (fun i => if i < 30 then some (r2 i) else none)))))), (q3, .inl (cy 0, 8, .inl (fun _ => 0))), (q4, .inl (cy 0, 139, .inl (fun _ => 0))), (q5, .inl (cy 0, 6, .inl (fun _ => 0))), (q6, .inl (cy 0, 6, .inl (fun _ => 0))), (q7, .inl (cy 0, 6, .inl (fun _ => 0))), (q8, .inl (cy 0, 6, .inl (fun _ => 0))), (q9, .inl (cy 0, 120, .inl (fun _ => 0))), (q10, .inl (cy 0, 4, .inl (fun _ => 0)))] ++ va_pl ([] ++ (List.range 30).map r2) (vr_up (fun _ => .inl (0, 0, .inl (fun _ => 0))) ((List.range 30).map r2) (.inl (cy 0, 139, .inl (fun _ => 0))))) := hD
  refine W.widen (k := 40) (n := 4634) (by omega) (by omega) ?_
  refine lv_dup cx.1 cx.2.1 dX7_init_92 rfl ?_
  refine lv_iconst (v := 0) cx.1 cx.2.1 dX7_init_93 (by decide +kernel) ?_
  refine lv_iconst (v := -1) cx.1 cx.2.1 dX7_init_94 (by decide +kernel) ?_
  refine A_iast (M := MX7_init) (pc := 95) cx hK hP hD hS 10 rfl (by unfold vp_in; decide +kernel) dX7_init_95 (fun H locs hP hD hS => ?_)
  have hP : va_P D classes ([(h0, .inr (6, [.ref q1, .ref q2, .int 0, .int 0, .int (1), .ref q3, .ref q4, .ref q5, .ref q6, .ref q7, .ref q8, .long 0, .int 0, .int 0, .int 0, .int 0, .int 0, .int 0, .ref q9, .int 0, .int 0, .int 0, .int 0, .int 0, .int 0, .null, .null, .null, .null])), (q1, .inl (cy 0, 139, .inl (fun _ => 0))), (q2, .inl (cy 4, 30, .inr (.inr (.inr (.inr (fun i => if i < 30 then some (r2 i) else none)))))), (q3, .inl (cy 0, 8, .inl (fun _ => 0))), (q4, .inl (cy 0, 139, .inl (fun _ => 0))), (q5, .inl (cy 0, 6, .inl (fun _ => 0))), (q6, .inl (cy 0, 6, .inl (fun _ => 0))), (q7, .inl (cy 0, 6, .inl (fun _ => 0))), (q8, .inl (cy 0, 6, .inl (fun _ => 0))), (q9, .inl (cy 0, 120, .inl (fun _ => 0))), (q10, .inl (cy 0, 4, .inl (upd (fun _ => 0) 0 (-1))))] ++ va_pl ([] ++ (List.range 30).map r2) (vr_up (fun _ => .inl (0, 0, .inl (fun _ => 0))) ((List.range 30).map r2) (.inl (cy 0, 139, .inl (fun _ => 0))))) H := hP
  have hD : va_D A ([(h0, .inr (6, [.ref q1, .ref q2, .int 0, .int 0, .int (1), .ref q3, .ref q4, .ref q5, .ref q6, .ref q7, .ref q8, .long 0, .int 0, .int 0, .int 0, .int 0, .int 0, .int 0, .ref q9, .int 0, .int 0, .int 0, .int 0, .int 0, .int 0, .null, .null, .null, .null])), (q1, .inl (cy 0, 139, .inl (fun _ => 0))), (q2, .inl (cy 4, 30, .inr (.inr (.inr (.inr (fun i => if i < 30 then some (r2 i) else none)))))), (q3, .inl (cy 0, 8, .inl (fun _ => 0))), (q4, .inl (cy 0, 139, .inl (fun _ => 0))), (q5, .inl (cy 0, 6, .inl (fun _ => 0))), (q6, .inl (cy 0, 6, .inl (fun _ => 0))), (q7, .inl (cy 0, 6, .inl (fun _ => 0))), (q8, .inl (cy 0, 6, .inl (fun _ => 0))), (q9, .inl (cy 0, 120, .inl (fun _ => 0))), (q10, .inl (cy 0, 4, .inl (upd (fun _ => 0) 0 (-1))))] ++ va_pl ([] ++ (List.range 30).map r2) (vr_up (fun _ => .inl (0, 0, .inl (fun _ => 0))) ((List.range 30).map r2) (.inl (cy 0, 139, .inl (fun _ => 0))))) := hD
  refine lv_dup cx.1 cx.2.1 dX7_init_96 rfl ?_
  refine lv_iconst (v := 1) cx.1 cx.2.1 dX7_init_97 (by decide +kernel) ?_
  refine lv_iconst (v := -1) cx.1 cx.2.1 dX7_init_98 (by decide +kernel) ?_
  refine A_iast (M := MX7_init) (pc := 99) cx hK hP hD hS 10 rfl (by unfold vp_in; decide +kernel) dX7_init_99 (fun H locs hP hD hS => ?_)
  have hP : va_P D classes ([(h0, .inr (6, [.ref q1, .ref q2, .int 0, .int 0, .int (1), .ref q3, .ref q4, .ref q5, .ref q6, .ref q7, .ref q8, .long 0, .int 0, .int 0, .int 0, .int 0, .int 0, .int 0, .ref q9, .int 0, .int 0, .int 0, .int 0, .int 0, .int 0, .null, .null, .null, .null])), (q1, .inl (cy 0, 139, .inl (fun _ => 0))), (q2, .inl (cy 4, 30, .inr (.inr (.inr (.inr (fun i => if i < 30 then some (r2 i) else none)))))), (q3, .inl (cy 0, 8, .inl (fun _ => 0))), (q4, .inl (cy 0, 139, .inl (fun _ => 0))), (q5, .inl (cy 0, 6, .inl (fun _ => 0))), (q6, .inl (cy 0, 6, .inl (fun _ => 0))), (q7, .inl (cy 0, 6, .inl (fun _ => 0))), (q8, .inl (cy 0, 6, .inl (fun _ => 0))), (q9, .inl (cy 0, 120, .inl (fun _ => 0))), (q10, .inl (cy 0, 4, .inl (upd (upd (fun _ => 0) 0 (-1)) 1 (-1))))] ++ va_pl ([] ++ (List.range 30).map r2) (vr_up (fun _ => .inl (0, 0, .inl (fun _ => 0))) ((List.range 30).map r2) (.inl (cy 0, 139, .inl (fun _ => 0))))) H := hP
  have hD : va_D A ([(h0, .inr (6, [.ref q1, .ref q2, .int 0, .int 0, .int (1), .ref q3, .ref q4, .ref q5, .ref q6, .ref q7, .ref q8, .long 0, .int 0, .int 0, .int 0, .int 0, .int 0, .int 0, .ref q9, .int 0, .int 0, .int 0, .int 0, .int 0, .int 0, .null, .null, .null, .null])), (q1, .inl (cy 0, 139, .inl (fun _ => 0))), (q2, .inl (cy 4, 30, .inr (.inr (.inr (.inr (fun i => if i < 30 then some (r2 i) else none)))))), (q3, .inl (cy 0, 8, .inl (fun _ => 0))), (q4, .inl (cy 0, 139, .inl (fun _ => 0))), (q5, .inl (cy 0, 6, .inl (fun _ => 0))), (q6, .inl (cy 0, 6, .inl (fun _ => 0))), (q7, .inl (cy 0, 6, .inl (fun _ => 0))), (q8, .inl (cy 0, 6, .inl (fun _ => 0))), (q9, .inl (cy 0, 120, .inl (fun _ => 0))), (q10, .inl (cy 0, 4, .inl (upd (upd (fun _ => 0) 0 (-1)) 1 (-1))))] ++ va_pl ([] ++ (List.range 30).map r2) (vr_up (fun _ => .inl (0, 0, .inl (fun _ => 0))) ((List.range 30).map r2) (.inl (cy 0, 139, .inl (fun _ => 0))))) := hD
  refine lv_dup cx.1 cx.2.1 dX7_init_100 rfl ?_
  refine lv_iconst (v := 2) cx.1 cx.2.1 dX7_init_101 (by decide +kernel) ?_
  refine lv_iconst (v := -1) cx.1 cx.2.1 dX7_init_102 (by decide +kernel) ?_
  refine A_iast (M := MX7_init) (pc := 103) cx hK hP hD hS 10 rfl (by unfold vp_in; decide +kernel) dX7_init_103 (fun H locs hP hD hS => ?_)
  have hP : va_P D classes ([(h0, .inr (6, [.ref q1, .ref q2, .int 0, .int 0, .int (1), .ref q3, .ref q4, .ref q5, .ref q6, .ref q7, .ref q8, .long 0, .int 0, .int 0, .int 0, .int 0, .int 0, .int 0, .ref q9, .int 0, .int 0, .int 0, .int 0, .int 0, .int 0, .null, .null, .null, .null])), (q1, .inl (cy 0, 139, .inl (fun _ => 0))), (q2, .inl (cy 4, 30, .inr (.inr (.inr (.inr (fun i => if i < 30 then some (r2 i) else none)))))), (q3, .inl (cy 0, 8, .inl (fun _ => 0))), (q4, .inl (cy 0, 139, .inl (fun _ => 0))), (q5, .inl (cy 0, 6, .inl (fun _ => 0))), (q6, .inl (cy 0, 6, .inl (fun _ => 0))), (q7, .inl (cy 0, 6, .inl (fun _ => 0))), (q8, .inl (cy 0, 6, .inl (fun _ => 0))), (q9, .inl (cy 0, 120, .inl (fun _ => 0))), (q10, .inl (cy 0, 4, .inl (upd (upd (upd (fun _ => 0) 0 (-1)) 1 (-1)) 2 (-1))))] ++ va_pl ([] ++ (List.range 30).map r2) (vr_up (fun _ => .inl (0, 0, .inl (fun _ => 0))) ((List.range 30).map r2) (.inl (cy 0, 139, .inl (fun _ => 0))))) H := hP
  have hD : va_D A ([(h0, .inr (6, [.ref q1, .ref q2, .int 0, .int 0, .int (1), .ref q3, .ref q4, .ref q5, .ref q6, .ref q7, .ref q8, .long 0, .int 0, .int 0, .int 0, .int 0, .int 0, .int 0, .ref q9, .int 0, .int 0, .int 0, .int 0, .int 0, .int 0, .null, .null, .null, .null])), (q1, .inl (cy 0, 139, .inl (fun _ => 0))), (q2, .inl (cy 4, 30, .inr (.inr (.inr (.inr (fun i => if i < 30 then some (r2 i) else none)))))), (q3, .inl (cy 0, 8, .inl (fun _ => 0))), (q4, .inl (cy 0, 139, .inl (fun _ => 0))), (q5, .inl (cy 0, 6, .inl (fun _ => 0))), (q6, .inl (cy 0, 6, .inl (fun _ => 0))), (q7, .inl (cy 0, 6, .inl (fun _ => 0))), (q8, .inl (cy 0, 6, .inl (fun _ => 0))), (q9, .inl (cy 0, 120, .inl (fun _ => 0))), (q10, .inl (cy 0, 4, .inl (upd (upd (upd (fun _ => 0) 0 (-1)) 1 (-1)) 2 (-1))))] ++ va_pl ([] ++ (List.range 30).map r2) (vr_up (fun _ => .inl (0, 0, .inl (fun _ => 0))) ((List.range 30).map r2) (.inl (cy 0, 139, .inl (fun _ => 0))))) := hD
  refine lv_dup cx.1 cx.2.1 dX7_init_104 rfl ?_
  refine lv_iconst (v := 3) cx.1 cx.2.1 dX7_init_105 (by decide +kernel) ?_
  refine lv_iconst (v := -1) cx.1 cx.2.1 dX7_init_106 (by decide +kernel) ?_
  refine A_iast (M := MX7_init) (pc := 107) cx hK hP hD hS 10 rfl (by unfold vp_in; decide +kernel) dX7_init_107 (fun H locs hP hD hS => ?_)
  have hP : va_P D classes ([(h0, .inr (6, [.ref q1, .ref q2, .int 0, .int 0, .int (1), .ref q3, .ref q4, .ref q5, .ref q6, .ref q7, .ref q8, .long 0, .int 0, .int 0, .int 0, .int 0, .int 0, .int 0, .ref q9, .int 0, .int 0, .int 0, .int 0, .int 0, .int 0, .null, .null, .null, .null])), (q1, .inl (cy 0, 139, .inl (fun _ => 0))), (q2, .inl (cy 4, 30, .inr (.inr (.inr (.inr (fun i => if i < 30 then some (r2 i) else none)))))), (q3, .inl (cy 0, 8, .inl (fun _ => 0))), (q4, .inl (cy 0, 139, .inl (fun _ => 0))), (q5, .inl (cy 0, 6, .inl (fun _ => 0))), (q6, .inl (cy 0, 6, .inl (fun _ => 0))), (q7, .inl (cy 0, 6, .inl (fun _ => 0))), (q8, .inl (cy 0, 6, .inl (fun _ => 0))), (q9, .inl (cy 0, 120, .inl (fun _ => 0))), (q10, .inl (cy 0, 4, .inl (upd (upd (upd (upd (fun _ => 0) 0 (-1)) 1 (-1)) 2 (-1)) 3 (-1))))] ++ va_pl ([] ++ (List.range 30).map r2) (vr_up (fun _ => .inl (0, 0, .inl (fun _ => 0))) ((List.range 30).map r2) (.inl (cy 0, 139, .inl (fun _ => 0))))) H := hP
  have hD : va_D A ([(h0, .inr (6, [.ref q1, .ref q2, .int 0, .int 0, .int (1), .ref q3, .ref q4, .ref q5, .ref q6, .ref q7, .ref q8, .long 0, .int 0, .int 0, .int 0, .int 0, .int 0, .int 0, .ref q9, .int 0, .int 0, .int 0, .int 0, .int 0, .int 0, .null, .null, .null, .null])), (q1, .inl (cy 0, 139, .inl (fun _ => 0))), (q2, .inl (cy 4, 30, .inr (.inr (.inr (.inr (fun i => if i < 30 then some (r2 i) else none)))))), (q3, .inl (cy 0, 8, .inl (fun _ => 0))), (q4, .inl (cy 0, 139, .inl (fun _ => 0))), (q5, .inl (cy 0, 6, .inl (fun _ => 0))), (q6, .inl (cy 0, 6, .inl (fun _ => 0))), (q7, .inl (cy 0, 6, .inl (fun _ => 0))), (q8, .inl (cy 0, 6, .inl (fun _ => 0))), (q9, .inl (cy 0, 120, .inl (fun _ => 0))), (q10, .inl (cy 0, 4, .inl (upd (upd (upd (upd (fun _ => 0) 0 (-1)) 1 (-1)) 2 (-1)) 3 (-1))))] ++ va_pl ([] ++ (List.range 30).map r2) (vr_up (fun _ => .inl (0, 0, .inl (fun _ => 0))) ((List.range 30).map r2) (.inl (cy 0, 139, .inl (fun _ => 0))))) := hD
  refine A_putF (M := MX7_init) (pc := 108) cx hi hK hP hD hS 0 (k := 25) (v := .ref q10) ffX7_43 rfl rfl rfl (Nat.le_of_ble_eq_true rfl) dX7_init_108 (fun H locs hP hD hS => ?_)
  have hP : va_P D classes ([(h0, .inr (6, [.ref q1, .ref q2, .int 0, .int 0, .int (1), .ref q3, .ref q4, .ref q5, .ref q6, .ref q7, .ref q8, .long 0, .int 0, .int 0, .int 0, .int 0, .int 0, .int 0, .ref q9, .int 0, .int 0, .int 0, .int 0, .int 0, .int 0, .ref q10, .null, .null, .null])), (q1, .inl (cy 0, 139, .inl (fun _ => 0))), (q2, .inl (cy 4, 30, .inr (.inr (.inr (.inr (fun i => if i < 30 then some (r2 i) else none)))))), (q3, .inl (cy 0, 8, .inl (fun _ => 0))), (q4, .inl (cy 0, 139, .inl (fun _ => 0))), (q5, .inl (cy 0, 6, .inl (fun _ => 0))), (q6, .inl (cy 0, 6, .inl (fun _ => 0))), (q7, .inl (cy 0, 6, .inl (fun _ => 0))), (q8, .inl (cy 0, 6, .inl (fun _ => 0))), (q9, .inl (cy 0, 120, .inl (fun _ => 0))), (q10, .inl (cy 0, 4, .inl (upd (upd (upd (upd (fun _ => 0) 0 (-1)) 1 (-1)) 2 (-1)) 3 (-1))))] ++ va_pl ([] ++ (List.range 30).map r2) (vr_up (fun _ => .inl (0, 0, .inl (fun _ => 0))) ((List.range 30).map r2) (.inl (cy 0, 139, .inl (fun _ => 0))))) H := hP
  have hD : va_D A ([(h0, .inr (6, [.ref q1, .ref q2, .int 0, .int 0, .int (1), .ref q3, .ref q4, .ref q5, .ref q6, .ref q7, .ref q8, .long 0, .int 0, .int 0, .int 0, .int 0, .int 0, .int 0, .ref q9, .int 0, .int 0, .int 0, .int 0, .int 0, .int 0, .ref q10, .null, .null, .null])), (q1, .inl (cy 0, 139, .inl (fun _ => 0))), (q2, .inl (cy 4, 30, .inr (.inr (.inr (.inr (fun i => if i < 30 then some (r2 i) else none)))))), (q3, .inl (cy 0, 8, .inl (fun _ => 0))), (q4, .inl (cy 0, 139, .inl (fun _ => 0))), (q5, .inl (cy 0, 6, .inl (fun _ => 0))), (q6, .inl (cy 0, 6, .inl (fun _ => 0))), (q7, .inl (cy 0, 6, .inl (fun _ => 0))), (q8, .inl (cy 0, 6, .inl (fun _ => 0))), (q9, .inl (cy 0, 120, .inl (fun _ => 0))), (q10, .inl (cy 0, 4, .inl (upd (upd (upd (upd (fun _ => 0) 0 (-1)) 1 (-1)) 2 (-1)) 3 (-1))))] ++ va_pl ([] ++ (List.range 30).map r2) (vr_up (fun _ => .inl (0, 0, .inl (fun _ => 0))) ((List.range 30).map r2) (.inl (cy 0, 139, .inl (fun _ => 0))))) := hD
  refine lv_aload_n cx.1 cx.2.1 dX7_init_111 rfl (lv_at hl 0 rfl) ?_
  refine lv_iconst (v := 4) cx.1 cx.2.1 dX7_init_112 (by decide +kernel) ?_
  refine A_newa (M := MX7_init) (pc := 113) cx hK hP hD hS hA 0 (atype := .int) (N := 4) (z := (4, .inl (fun _ => 0))) rfl rfl (fun _ h => h) acI (fun _ => rfl) (by decide) (by decide +kernel) (Nat.le_of_ble_eq_true rfl) (Nat.le_of_ble_eq_true rfl) (Nat.le_of_ble_eq_true rfl) dX7_init_113 (fun q11 H hP hD hS => ?_)
  replace hP := va_P.swap hP
  replace hD := va_D.swap hD
  have hP : va_P D classes ([(h0, .inr (6, [.ref q1, .ref q2, .int 0, .int 0, .int (1), .ref q3, .ref q4, .ref q5, .ref q6, .ref q7, .ref q8, .long 0, .int 0, .int 0, .int 0, .int 0, .int 0, .int 0, .ref q9, .int 0, .int 0, .int 0, .int 0, .int 0, .int 0, .ref q10, .null, .null, .null])), (q1, .inl (cy 0, 139, .inl (fun _ => 0))), (q2, .inl (cy 4, 30, .inr (.inr (.inr (.inr (fun i => if i < 30 then some (r2 i) else none)))))), (q3, .inl (cy 0, 8, .inl (fun _ => 0))), (q4, .inl (cy 0, 139, .inl (fun _ => 0))), (q5, .inl (cy 0, 6, .inl (fun _ => 0))), (q6, .inl (cy 0, 6, .inl (fun _ => 0))), (q7, .inl (cy 0, 6, .inl (fun _ => 0))), (q8, .inl (cy 0, 6, .inl (fun _ => 0))), (q9, .inl (cy 0, 120, .inl (fun _ => 0))), (q10, .inl (cy 0, 4, .inl (upd (upd (upd (upd (fun _ => 0) 0 (-1)) 1 (-1)) 2 (-1)) 3 (-1)))), (q11, .inl (cy 0, 4, .inl (fun _ => 0)))] ++ va_pl ([] ++ (List.range 30).map r2) (vr_up (fun _ => .inl (0, 0, .inl (fun _ => 0))) ((List.range 30).map r2) (.inl (cy 0, 139, .inl (fun _ => 0))))) H := hP
  have hD : va_D A ([(h0, .inr (6, [.ref q1, .ref q2, .int 0, .int 0, .int (1), .ref q3, .ref q4, .ref q5, .ref q6, .ref q7, .ref q8, .long 0, .int 0, .int 0, .int 0, .int 0, .int 0, .int 0, .ref q9, .int 0, .int 0, .int 0, .int 0, .int 0, .int 0, .ref q10, .null, .null, .null])), (q1, .inl (cy 0, 139, .inl (fun _ => 0))), (q2, .inl (cy 4, 30, .inr (.inr (.inr (.inr (fun i => if i < 30 then some (r2 i) else none)))))), (q3, .inl (cy 0, 8, .inl (fun _ => 0))), (q4, .inl (cy 0, 139, .inl (fun _ => 0))), (q5, .inl (cy 0, 6, .inl (fun _ => 0))), (q6, .inl (cy 0, 6, .inl (fun _ => 0))), (q7, .inl (cy 0, 6, .inl (fun _ => 0))), (q8, .inl (cy 0, 6, .inl (fun _ => 0))), (q9, .inl (cy 0, 120, .inl (fun _ => 0))), (q10, .inl (cy 0, 4, .inl (upd (upd (upd (upd (fun _ => 0) 0 (-1)) 1 (-1)) 2 (-1)) 3 (-1)))), (q11, .inl (cy 0, 4, .inl (fun _ => 0)))] ++ va_pl ([] ++ (List.range 30).map r2) (vr_up (fun _ => .inl (0, 0, .inl (fun _ => 0))) ((List.range 30).map r2) (.inl (cy 0, 139, .inl (fun _ => 0))))) := hD
  refine W.widen (k := 41) (n := 4638) (by omega) (by omega) ?_
  refine A_putF (M := MX7_init) (pc := 115) cx hi hK hP hD hS 0 (k := 26) (v := .ref q11) ffX7_46 rfl rfl rfl (Nat.le_of_ble_eq_true rfl) dX7_init_115 (fun H locs hP hD hS => ?_)
  have hP : va_P D classes ([(h0, .inr (6, [.ref q1, .ref q2, .int 0, .int 0, .int (1), .ref q3, .ref q4, .ref q5, .ref q6, .ref q7, .ref q8, .long 0, .int 0, .int 0, .int 0, .int 0, .int 0, .int 0, .ref q9, .int 0, .int 0, .int 0, .int 0, .int 0, .int 0, .ref q10, .ref q11, .null, .null])), (q1, .inl (cy 0, 139, .inl (fun _ => 0))), (q2, .inl (cy 4, 30, .inr (.inr (.inr (.inr (fun i => if i < 30 then some (r2 i) else none)))))), (q3, .inl (cy 0, 8, .inl (fun _ => 0))), (q4, .inl (cy 0, 139, .inl (fun _ => 0))), (q5, .inl (cy 0, 6, .inl (fun _ => 0))), (q6, .inl (cy 0, 6, .inl (fun _ => 0))), (q7, .inl (cy 0, 6, .inl (fun _ => 0))), (q8, .inl (cy 0, 6, .inl (fun _ => 0))), (q9, .inl (cy 0, 120, .inl (fun _ => 0))), (q10, .inl (cy 0, 4, .inl (upd (upd (upd (upd (fun _ => 0) 0 (-1)) 1 (-1)) 2 (-1)) 3 (-1)))), (q11, .inl (cy 0, 4, .inl (fun _ => 0)))] ++ va_pl ([] ++ (List.range 30).map r2) (vr_up (fun _ => .inl (0, 0, .inl (fun _ => 0))) ((List.range 30).map r2) (.inl (cy 0, 139, .inl (fun _ => 0))))) H := hP
  have hD : va_D A ([(h0, .inr (6, [.ref q1, .ref q2, .int 0, .int 0, .int (1), .ref q3, .ref q4, .ref q5, .ref q6, .ref q7, .ref q8, .long 0, .int 0, .int 0, .int 0, .int 0, .int 0, .int 0, .ref q9, .int 0, .int 0, .int 0, .int 0, .int 0, .int 0, .ref q10, .ref q11, .null, .null])), (q1, .inl (cy 0, 139, .inl (fun _ => 0))), (q2, .inl (cy 4, 30, .inr (.inr (.inr (.inr (fun i => if i < 30 then some (r2 i) else none)))))), (q3, .inl (cy 0, 8, .inl (fun _ => 0))), (q4, .inl (cy 0, 139, .inl (fun _ => 0))), (q5, .inl (cy 0, 6, .inl (fun _ => 0))), (q6, .inl (cy 0, 6, .inl (fun _ => 0))), (q7, .inl (cy 0, 6, .inl (fun _ => 0))), (q8, .inl (cy 0, 6, .inl (fun _ => 0))), (q9, .inl (cy 0, 120, .inl (fun _ => 0))), (q10, .inl (cy 0, 4, .inl (upd (upd (upd (upd (fun _ => 0) 0 (-1)) 1 (-1)) 2 (-1)) 3 (-1)))), (q11, .inl (cy 0, 4, .inl (fun _ => 0)))] ++ va_pl ([] ++ (List.range 30).map r2) (vr_up (fun _ => .inl (0, 0, .inl (fun _ => 0))) ((List.range 30).map r2) (.inl (cy 0, 139, .inl (fun _ => 0))))) := hD
  refine lv_aload_n cx.1 cx.2.1 dX7_init_118 rfl (lv_at hl 0 rfl) ?_
  refine lv_iconst (v := 4) cx.1 cx.2.1 dX7_init_119 (by decide +kernel) ?_
  refine lv_bipush (v := 40) cx.1 cx.2.1 dX7_init_120 (by decide +kernel) ?_
  refine va_mna (ty := .long) (cy := cy 3) cx.1 cx.2.1 cx.2.2.2.1 (cx.2.2.2.2.1 _ clX7_49) c0.2.2.1 (cx.2.2.2.2.1 _ acJ) (hK.2 3 _ rfl).2 hK hP hD hS hA (N' := 4) (K' := 40) (z := (40, .inr (.inl (fun _ => 0)))) (by decide) (by decide) (by decide +kernel) (by decide +kernel) (Nat.le_of_ble_eq_true rfl) (Nat.le_of_ble_eq_true rfl) (Nat.le_of_ble_eq_true rfl) rfl rfl (Nat.le_of_ble_eq_true rfl) (Nat.le_of_ble_eq_true rfl) (fun cB => ?_) dX7_init_122 (fun q12 r12 cA H hrr12 hnr12 hK1 hP hD hS => ?_)
  · exact inJ cB 40
  obtain rfl : cA = cy 5 := Option.some.inj ((hK1.2 6 _ rfl).2.symm.trans (hK.2 5 _ rfl).2)
  have hP : va_P D classes ([(h0, .inr (6, [.ref q1, .ref q2, .int 0, .int 0, .int (1), .ref q3, .ref q4, .ref q5, .ref q6, .ref q7, .ref q8, .long 0, .int 0, .int 0, .int 0, .int 0, .int 0, .int 0, .ref q9, .int 0, .int 0, .int 0, .int 0, .int 0, .int 0, .ref q10, .ref q11, .null, .null])), (q1, .inl (cy 0, 139, .inl (fun _ => 0))), (q2, .inl (cy 4, 30, .inr (.inr (.inr (.inr (fun i => if i < 30 then some (r2 i) else none)))))), (q3, .inl (cy 0, 8, .inl (fun _ => 0))), (q4, .inl (cy 0, 139, .inl (fun _ => 0))), (q5, .inl (cy 0, 6, .inl (fun _ => 0))), (q6, .inl (cy 0, 6, .inl (fun _ => 0))), (q7, .inl (cy 0, 6, .inl (fun _ => 0))), (q8, .inl (cy 0, 6, .inl (fun _ => 0))), (q9, .inl (cy 0, 120, .inl (fun _ => 0))), (q10, .inl (cy 0, 4, .inl (upd (upd (upd (upd (fun _ => 0) 0 (-1)) 1 (-1)) 2 (-1)) 3 (-1)))), (q11, .inl (cy 0, 4, .inl (fun _ => 0))), (q12, .inl (cy 5, 4, .inr (.inr (.inr (.inr (fun i => if i < 4 then some (r12 i) else none))))))] ++ va_pl (([] ++ (List.range 30).map r2) ++ (List.range 4).map r12) (vr_up (vr_up (fun _ => .inl (0, 0, .inl (fun _ => 0))) ((List.range 30).map r2) (.inl (cy 0, 139, .inl (fun _ => 0)))) ((List.range 4).map r12) (.inl (cy 3, 40, .inr (.inl (fun _ => 0)))))) H := hP
  have hD : va_D A ([(h0, .inr (6, [.ref q1, .ref q2, .int 0, .int 0, .int (1), .ref q3, .ref q4, .ref q5, .ref q6, .ref q7, .ref q8, .long 0, .int 0, .int 0, .int 0, .int 0, .int 0, .int 0, .ref q9, .int 0, .int 0, .int 0, .int 0, .int 0, .int 0, .ref q10, .ref q11, .null, .null])), (q1, .inl (cy 0, 139, .inl (fun _ => 0))), (q2, .inl (cy 4, 30, .inr (.inr (.inr (.inr (fun i => if i < 30 then some (r2 i) else none)))))), (q3, .inl (cy 0, 8, .inl (fun _ => 0))), (q4, .inl (cy 0, 139, .inl (fun _ => 0))), (q5, .inl (cy 0, 6, .inl (fun _ => 0))), (q6, .inl (cy 0, 6, .inl (fun _ => 0))), (q7, .inl (cy 0, 6, .inl (fun _ => 0))), (q8, .inl (cy 0, 6, .inl (fun _ => 0))), (q9, .inl (cy 0, 120, .inl (fun _ => 0))), (q10, .inl (cy 0, 4, .inl (upd (upd (upd (upd (fun _ => 0) 0 (-1)) 1 (-1)) 2 (-1)) 3 (-1)))), (q11, .inl (cy 0, 4, .inl (fun _ => 0))), (q12, .inl (cy 5, 4, .inr (.inr (.inr (.inr (fun i => if i < 4 then some (r12 i) else none))))))] ++ va_pl (([] ++ (List.range 30).map r2) ++ (List.range 4).map r12) (vr_up (vr_up (fun _ => .inl (0, 0, .inl (fun _ => 0))) ((List.range 30).map r2) (.inl (cy 0, 139, .inl (fun _ => 0)))) ((List.range 4).map r12) (.inl (cy 3, 40, .inr (.inl (fun _ => 0)))))) := hD
  refine W.widen (k := 46) (n := 4802) (by omega) (by omega) ?_
  refine A_putF (M := MX7_init) (pc := 126) cx hi hK hP hD hS 0 (k := 27) (v := .ref q12) ffX7_51 rfl rfl rfl (Nat.le_of_ble_eq_true rfl) dX7_init_126 (fun H locs hP hD hS => ?_)
  have hP : va_P D classes ([(h0, .inr (6, [.ref q1, .ref q2, .int 0, .int 0, .int (1), .ref q3, .ref q4, .ref q5, .ref q6, .ref q7, .ref q8, .long 0, .int 0, .int 0, .int 0, .int 0, .int 0, .int 0, .ref q9, .int 0, .int 0, .int 0, .int 0, .int 0, .int 0, .ref q10, .ref q11, .ref q12, .null])), (q1, .inl (cy 0, 139, .inl (fun _ => 0))), (q2, .inl (cy 4, 30, .inr (.inr (.inr (.inr (fun i => if i < 30 then some (r2 i) else none)))))), (q3, .inl (cy 0, 8, .inl (fun _ => 0))), (q4, .inl (cy 0, 139, .inl (fun _ => 0))), (q5, .inl (cy 0, 6, .inl (fun _ => 0))), (q6, .inl (cy 0, 6, .inl (fun _ => 0))), (q7, .inl (cy 0, 6, .inl (fun _ => 0))), (q8, .inl (cy 0, 6, .inl (fun _ => 0))), (q9, .inl (cy 0, 120, .inl (fun _ => 0))), (q10, .inl (cy 0, 4, .inl (upd (upd (upd (upd (fun _ => 0) 0 (-1)) 1 (-1)) 2 (-1)) 3 (-1)))), (q11, .inl (cy 0, 4, .inl (fun _ => 0))), (q12, .inl (cy 5, 4, .inr (.inr (.inr (.inr (fun i => if i < 4 then some (r12 i) else none))))))] ++ va_pl (([] ++ (List.range 30).map r2) ++ (List.range 4).map r12) (vr_up (vr_up (fun _ => .inl (0, 0, .inl (fun _ => 0))) ((List.range 30).map r2) (.inl (cy 0, 139, .inl (fun _ => 0)))) ((List.range 4).map r12) (.inl (cy 3, 40, .inr (.inl (fun _ => 0)))))) H := hP
  have hD : va_D A ([(h0, .inr (6, [.ref q1, .ref q2, .int 0, .int 0, .int (1), .ref q3, .ref q4, .ref q5, .ref q6, .ref q7, .ref q8, .long 0, .int 0, .int 0, .int 0, .int 0, .int 0, .int 0, .ref q9, .int 0, .int 0, .int 0, .int 0, .int 0, .int 0, .ref q10, .ref q11, .ref q12, .null])), (q1, .inl (cy 0, 139, .inl (fun _ => 0))), (q2, .inl (cy 4, 30, .inr (.inr (.inr (.inr (fun i => if i < 30 then some (r2 i) else none)))))), (q3, .inl (cy 0, 8, .inl (fun _ => 0))), (q4, .inl (cy 0, 139, .inl (fun _ => 0))), (q5, .inl (cy 0, 6, .inl (fun _ => 0))), (q6, .inl (cy 0, 6, .inl (fun _ => 0))), (q7, .inl (cy 0, 6, .inl (fun _ => 0))), (q8, .inl (cy 0, 6, .inl (fun _ => 0))), (q9, .inl (cy 0, 120, .inl (fun _ => 0))), (q10, .inl (cy 0, 4, .inl (upd (upd (upd (upd (fun _ => 0) 0 (-1)) 1 (-1)) 2 (-1)) 3 (-1)))), (q11, .inl (cy 0, 4, .inl (fun _ => 0))), (q12, .inl (cy 5, 4, .inr (.inr (.inr (.inr (fun i => if i < 4 then some (r12 i) else none))))))] ++ va_pl (([] ++ (List.range 30).map r2) ++ (List.range 4).map r12) (vr_up (vr_up (fun _ => .inl (0, 0, .inl (fun _ => 0))) ((List.range 30).map r2) (.inl (cy 0, 139, .inl (fun _ => 0)))) ((List.range 4).map r12) (.inl (cy 3, 40, .inr (.inl (fun _ => 0)))))) := hD
  refine lv_aload_n cx.1 cx.2.1 dX7_init_129 rfl (lv_at hl 0 rfl) ?_
  refine lv_bipush (v := 40) cx.1 cx.2.1 dX7_init_130 (by decide +kernel) ?_
  refine A_newa (M := MX7_init) (pc := 132) cx hK hP hD hS hA 3 (atype := .long) (N := 40) (z := (40, .inr (.inl (fun _ => 0)))) rfl rfl (fun _ h => h) acJ (fun _ => rfl) (by decide) (by decide +kernel) (Nat.le_of_ble_eq_true rfl) (Nat.le_of_ble_eq_true rfl) (Nat.le_of_ble_eq_true rfl) dX7_init_132 (fun q13 H hP hD hS => ?_)
  replace hP := va_P.swap hP
  replace hD := va_D.swap hD
  have hP : va_P D classes ([(h0, .inr (6, [.ref q1, .ref q2, .int 0, .int 0, .int (1), .ref q3, .ref q4, .ref q5, .ref q6, .ref q7, .ref q8, .long 0, .int 0, .int 0, .int 0, .int 0, .int 0, .int 0, .ref q9, .int 0, .int 0, .int 0, .int 0, .int 0, .int 0, .ref q10, .ref q11, .ref q12, .null])), (q1, .inl (cy 0, 139, .inl (fun _ => 0))), (q2, .inl (cy 4, 30, .inr (.inr (.inr (.inr (fun i => if i < 30 then some (r2 i) else none)))))), (q3, .inl (cy 0, 8, .inl (fun _ => 0))), (q4, .inl (cy 0, 139, .inl (fun _ => 0))), (q5, .inl (cy 0, 6, .inl (fun _ => 0))), (q6, .inl (cy 0, 6, .inl (fun _ => 0))), (q7, .inl (cy 0, 6, .inl (fun _ => 0))), (q8, .inl (cy 0, 6, .inl (fun _ => 0))), (q9, .inl (cy 0, 120, .inl (fun _ => 0))), (q10, .inl (cy 0, 4, .inl (upd (upd (upd (upd (fun _ => 0) 0 (-1)) 1 (-1)) 2 (-1)) 3 (-1)))), (q11, .inl (cy 0, 4, .inl (fun _ => 0))), (q12, .inl (cy 5, 4, .inr (.inr (.inr (.inr (fun i => if i < 4 then some (r12 i) else none)))))), (q13, .inl (cy 3, 40, .inr (.inl (fun _ => 0))))] ++ va_pl (([] ++ (List.range 30).map r2) ++ (List.range 4).map r12) (vr_up (vr_up (fun _ => .inl (0, 0, .inl (fun _ => 0))) ((List.range 30).map r2) (.inl (cy 0, 139, .inl (fun _ => 0)))) ((List.range 4).map r12) (.inl (cy 3, 40, .inr (.inl (fun _ => 0)))))) H := hP
  have hD : va_D A ([(h0, .inr (6, [.ref q1, .ref q2, .int 0, .int 0, .int (1), .ref q3, .ref q4, .ref q5, .ref q6, .ref q7, .ref q8, .long 0, .int 0, .int 0, .int 0, .int 0, .int 0, .int 0, .ref q9, .int 0, .int 0, .int 0, .int 0, .int 0, .int 0, .ref q10, .ref q11, .ref q12, .null])), (q1, .inl (cy 0, 139, .inl (fun _ => 0))), (q2, .inl (cy 4, 30, .inr (.inr (.inr (.inr (fun i => if i < 30 then some (r2 i) else none)))))), (q3, .inl (cy 0, 8, .inl (fun _ => 0))), (q4, .inl (cy 0, 139, .inl (fun _ => 0))), (q5, .inl (cy 0, 6, .inl (fun _ => 0))), (q6, .inl (cy 0, 6, .inl (fun _ => 0))), (q7, .inl (cy 0, 6, .inl (fun _ => 0))), (q8, .inl (cy 0, 6, .inl (fun _ => 0))), (q9, .inl (cy 0, 120, .inl (fun _ => 0))), (q10, .inl (cy 0, 4, .inl (upd (upd (upd (upd (fun _ => 0) 0 (-1)) 1 (-1)) 2 (-1)) 3 (-1)))), (q11, .inl (cy 0, 4, .inl (fun _ => 0))), (q12, .inl (cy 5, 4, .inr (.inr (.inr (.inr (fun i => if i < 4 then some (r12 i) else none)))))), (q13, .inl (cy 3, 40, .inr (.inl (fun _ => 0))))] ++ va_pl (([] ++ (List.range 30).map r2) ++ (List.range 4).map r12) (vr_up (vr_up (fun _ => .inl (0, 0, .inl (fun _ => 0))) ((List.range 30).map r2) (.inl (cy 0, 139, .inl (fun _ => 0)))) ((List.range 4).map r12) (.inl (cy 3, 40, .inr (.inl (fun _ => 0)))))) := hD
  refine W.widen (k := 47) (n := 4842) (by omega) (by omega) ?_
  refine A_putF (M := MX7_init) (pc := 134) cx hi hK hP hD hS 0 (k := 28) (v := .ref q13) ffX7_54 rfl rfl rfl (Nat.le_of_ble_eq_true rfl) dX7_init_134 (fun H locs hP hD hS => ?_)
  have hP : va_P D classes ([(h0, .inr (6, [.ref q1, .ref q2, .int 0, .int 0, .int (1), .ref q3, .ref q4, .ref q5, .ref q6, .ref q7, .ref q8, .long 0, .int 0, .int 0, .int 0, .int 0, .int 0, .int 0, .ref q9, .int 0, .int 0, .int 0, .int 0, .int 0, .int 0, .ref q10, .ref q11, .ref q12, .ref q13])), (q1, .inl (cy 0, 139, .inl (fun _ => 0))), (q2, .inl (cy 4, 30, .inr (.inr (.inr (.inr (fun i => if i < 30 then some (r2 i) else none)))))), (q3, .inl (cy 0, 8, .inl (fun _ => 0))), (q4, .inl (cy 0, 139, .inl (fun _ => 0))), (q5, .inl (cy 0, 6, .inl (fun _ => 0))), (q6, .inl (cy 0, 6, .inl (fun _ => 0))), (q7, .inl (cy 0, 6, .inl (fun _ => 0))), (q8, .inl (cy 0, 6, .inl (fun _ => 0))), (q9, .inl (cy 0, 120, .inl (fun _ => 0))), (q10, .inl (cy 0, 4, .inl (upd (upd (upd (upd (fun _ => 0) 0 (-1)) 1 (-1)) 2 (-1)) 3 (-1)))), (q11, .inl (cy 0, 4, .inl (fun _ => 0))), (q12, .inl (cy 5, 4, .inr (.inr (.inr (.inr (fun i => if i < 4 then some (r12 i) else none)))))), (q13, .inl (cy 3, 40, .inr (.inl (fun _ => 0))))] ++ va_pl (([] ++ (List.range 30).map r2) ++ (List.range 4).map r12) (vr_up (vr_up (fun _ => .inl (0, 0, .inl (fun _ => 0))) ((List.range 30).map r2) (.inl (cy 0, 139, .inl (fun _ => 0)))) ((List.range 4).map r12) (.inl (cy 3, 40, .inr (.inl (fun _ => 0)))))) H := hP
  have hD : va_D A ([(h0, .inr (6, [.ref q1, .ref q2, .int 0, .int 0, .int (1), .ref q3, .ref q4, .ref q5, .ref q6, .ref q7, .ref q8, .long 0, .int 0, .int 0, .int 0, .int 0, .int 0, .int 0, .ref q9, .int 0, .int 0, .int 0, .int 0, .int 0, .int 0, .ref q10, .ref q11, .ref q12, .ref q13])), (q1, .inl (cy 0, 139, .inl (fun _ => 0))), (q2, .inl (cy 4, 30, .inr (.inr (.inr (.inr (fun i => if i < 30 then some (r2 i) else none)))))), (q3, .inl (cy 0, 8, .inl (fun _ => 0))), (q4, .inl (cy 0, 139, .inl (fun _ => 0))), (q5, .inl (cy 0, 6, .inl (fun _ => 0))), (q6, .inl (cy 0, 6, .inl (fun _ => 0))), (q7, .inl (cy 0, 6, .inl (fun _ => 0))), (q8, .inl (cy 0, 6, .inl (fun _ => 0))), (q9, .inl (cy 0, 120, .inl (fun _ => 0))), (q10, .inl (cy 0, 4, .inl (upd (upd (upd (upd (fun _ => 0) 0 (-1)) 1 (-1)) 2 (-1)) 3 (-1)))), (q11, .inl (cy 0, 4, .inl (fun _ => 0))), (q12, .inl (cy 5, 4, .inr (.inr (.inr (.inr (fun i => if i < 4 then some (r12 i) else none)))))), (q13, .inl (cy 3, 40, .inr (.inl (fun _ => 0))))] ++ va_pl (([] ++ (List.range 30).map r2) ++ (List.range 4).map r12) (vr_up (vr_up (fun _ => .inl (0, 0, .inl (fun _ => 0))) ((List.range 30).map r2) (.inl (cy 0, 139, .inl (fun _ => 0)))) ((List.range 4).map r12) (.inl (cy 3, 40, .inr (.inl (fun _ => 0)))))) := hD
  exact W.vret cx.1 cx.2.1 hr (fun t ht _ => QcI_mk (q1, q2, r2, q3, q4, q5, q6, q7, q8, q9, q10, q11, q12, r12, q13) (by rw [ht]; exact hP) hD (hS.F ht)) hS.2.2 dX7_init_137
