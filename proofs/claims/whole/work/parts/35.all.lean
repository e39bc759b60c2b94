theorem am_ci_0 : ∀ c, c < 1 → am_ckc 0 c = true := fun c h => match c, h with
  | 0, _ => am_cc_0_0
  | n + 1, h => absurd h (by omega)
theorem am_ci_1 : ∀ c, c < 1 → am_ckc 1 c = true := fun c h => match c, h with
  | 0, _ => am_cc_1_0
  | n + 1, h => absurd h (by omega)
theorem am_ci_2 : ∀ c, c < 2 → am_ckc 2 c = true := fun c h => match c, h with
  | 0, _ => am_cc_2_0
  | 1, _ => am_cc_2_1
  | n + 2, h => absurd h (by omega)
theorem am_ci_3 : ∀ c, c < 3 → am_ckc 3 c = true := fun c h => match c, h with
  | 0, _ => am_cc_3_0
  | 1, _ => am_cc_3_1
  | 2, _ => am_cc_3_2
  | n + 3, h => absurd h (by omega)
theorem am_ci_4 : ∀ c, c < 1 → am_ckc 4 c = true := fun c h => match c, h with
  | 0, _ => am_cc_4_0
  | n + 1, h => absurd h (by omega)
theorem am_ci_5 : ∀ c, c < 1 → am_ckc 5 c = true := fun c h => match c, h with
  | 0, _ => am_cc_5_0
  | n + 1, h => absurd h (by omega)
theorem am_ci_6 : ∀ c, c < 1 → am_ckc 6 c = true := fun c h => match c, h with
  | 0, _ => am_cc_6_0
  | n + 1, h => absurd h (by omega)
theorem am_ci_7 : ∀ c, c < 1 → am_ckc 7 c = true := fun c h => match c, h with
  | 0, _ => am_cc_7_0
  | n + 1, h => absurd h (by omega)
theorem am_ci_8 : ∀ c, c < 1 → am_ckc 8 c = true := fun c h => match c, h with
  | 0, _ => am_cc_8_0
  | n + 1, h => absurd h (by omega)
theorem am_ci_9 : ∀ c, c < 1 → am_ckc 9 c = true := fun c h => match c, h with
  | 0, _ => am_cc_9_0
  | n + 1, h => absurd h (by omega)
theorem am_ci_10 : ∀ c, c < 1 → am_ckc 10 c = true := fun c h => match c, h with
  | 0, _ => am_cc_10_0
  | n + 1, h => absurd h (by omega)
theorem am_ci_11 : ∀ c, c < 1 → am_ckc 11 c = true := fun c h => match c, h with
  | 0, _ => am_cc_11_0
  | n + 1, h => absurd h (by omega)
theorem am_ci_12 : ∀ c, c < 1 → am_ckc 12 c = true := fun c h => match c, h with
  | 0, _ => am_cc_12_0
  | n + 1, h => absurd h (by omega)
theorem am_ci_13 : ∀ c, c < 3 → am_ckc 13 c = true := fun c h => match c, h with
  | 0, _ => am_cc_13_0
  | 1, _ => am_cc_13_1
  | 2, _ => am_cc_13_2
  | n + 3, h => absurd h (by omega)
theorem am_ci_14 : ∀ c, c < 1 → am_ckc 14 c = true := fun c h => match c, h with
  | 0, _ => am_cc_14_0
  | n + 1, h => absurd h (by omega)
theorem am_ci_15 : ∀ c, c < 3 → am_ckc 15 c = true := fun c h => match c, h with
  | 0, _ => am_cc_15_0
  | 1, _ => am_cc_15_1
  | 2, _ => am_cc_15_2
  | n + 3, h => absurd h (by omega)
theorem am_ci_16 : ∀ c, c < 1 → am_ckc 16 c = true := fun c h => match c, h with
  | 0, _ => am_cc_16_0
  | n + 1, h => absurd h (by omega)
theorem am_ci_17 : ∀ c, c < 1 → am_ckc 17 c = true := fun c h => match c, h with
  | 0, _ => am_cc_17_0
  | n + 1, h => absurd h (by omega)
theorem am_ci_18 : ∀ c, c < 1 → am_ckc 18 c = true := fun c h => match c, h with
  | 0, _ => am_cc_18_0
  | n + 1, h => absurd h (by omega)
theorem am_ci_19 : ∀ c, c < 1 → am_ckc 19 c = true := fun c h => match c, h with
  | 0, _ => am_cc_19_0
  | n + 1, h => absurd h (by omega)
theorem am_ci_20 : ∀ c, c < 2 → am_ckc 20 c = true := fun c h => match c, h with
  | 0, _ => am_cc_20_0
  | 1, _ => am_cc_20_1
  | n + 2, h => absurd h (by omega)
theorem am_ci_21 : ∀ c, c < 1 → am_ckc 21 c = true := fun c h => match c, h with
  | 0, _ => am_cc_21_0
  | n + 1, h => absurd h (by omega)
theorem am_ci_22 : ∀ c, c < 2 → am_ckc 22 c = true := fun c h => match c, h with
  | 0, _ => am_cc_22_0
  | 1, _ => am_cc_22_1
  | n + 2, h => absurd h (by omega)
theorem am_ci_23 : ∀ c, c < 3 → am_ckc 23 c = true := fun c h => match c, h with
  | 0, _ => am_cc_23_0
  | 1, _ => am_cc_23_1
  | 2, _ => am_cc_23_2
  | n + 3, h => absurd h (by omega)
theorem am_ci_24 : ∀ c, c < 2 → am_ckc 24 c = true := fun c h => match c, h with
  | 0, _ => am_cc_24_0
  | 1, _ => am_cc_24_1
  | n + 2, h => absurd h (by omega)
theorem am_ci_25 : ∀ c, c < 1 → am_ckc 25 c = true := fun c h => match c, h with
  | 0, _ => am_cc_25_0
  | n + 1, h => absurd h (by omega)
theorem am_ci_26 : ∀ c, c < 2 → am_ckc 26 c = true := fun c h => match c, h with
  | 0, _ => am_cc_26_0
  | 1, _ => am_cc_26_1
  | n + 2, h => absurd h (by omega)
theorem am_ci_27 : ∀ c, c < 1 → am_ckc 27 c = true := fun c h => match c, h with
  | 0, _ => am_cc_27_0
  | n + 1, h => absurd h (by omega)
theorem am_ci_28 : ∀ c, c < 1 → am_ckc 28 c = true := fun c h => match c, h with
  | 0, _ => am_cc_28_0
  | n + 1, h => absurd h (by omega)
theorem am_ci_29 : ∀ c, c < 1 → am_ckc 29 c = true := fun c h => match c, h with
  | 0, _ => am_cc_29_0
  | n + 1, h => absurd h (by omega)
theorem am_ci_30 : ∀ c, c < 1 → am_ckc 30 c = true := fun c h => match c, h with
  | 0, _ => am_cc_30_0
  | n + 1, h => absurd h (by omega)
theorem am_ci_31 : ∀ c, c < 1 → am_ckc 31 c = true := fun c h => match c, h with
  | 0, _ => am_cc_31_0
  | n + 1, h => absurd h (by omega)
theorem am_ci_32 : ∀ c, c < 2 → am_ckc 32 c = true := fun c h => match c, h with
  | 0, _ => am_cc_32_0
  | 1, _ => am_cc_32_1
  | n + 2, h => absurd h (by omega)
theorem am_ci_33 : ∀ c, c < 2 → am_ckc 33 c = true := fun c h => match c, h with
  | 0, _ => am_cc_33_0
  | 1, _ => am_cc_33_1
  | n + 2, h => absurd h (by omega)
theorem am_ci_34 : ∀ c, c < 1 → am_ckc 34 c = true := fun c h => match c, h with
  | 0, _ => am_cc_34_0
  | n + 1, h => absurd h (by omega)
theorem am_ci_35 : ∀ c, c < 2 → am_ckc 35 c = true := fun c h => match c, h with
  | 0, _ => am_cc_35_0
  | 1, _ => am_cc_35_1
  | n + 2, h => absurd h (by omega)
theorem am_ci_36 : ∀ c, c < 1 → am_ckc 36 c = true := fun c h => match c, h with
  | 0, _ => am_cc_36_0
  | n + 1, h => absurd h (by omega)
theorem am_ci_37 : ∀ c, c < 2 → am_ckc 37 c = true := fun c h => match c, h with
  | 0, _ => am_cc_37_0
  | 1, _ => am_cc_37_1
  | n + 2, h => absurd h (by omega)
theorem am_ci_38 : ∀ c, c < 1 → am_ckc 38 c = true := fun c h => match c, h with
  | 0, _ => am_cc_38_0
  | n + 1, h => absurd h (by omega)
theorem am_ci_39 : ∀ c, c < 1 → am_ckc 39 c = true := fun c h => match c, h with
  | 0, _ => am_cc_39_0
  | n + 1, h => absurd h (by omega)
theorem am_ci_40 : ∀ c, c < 1 → am_ckc 40 c = true := fun c h => match c, h with
  | 0, _ => am_cc_40_0
  | n + 1, h => absurd h (by omega)
theorem am_ci_41 : ∀ c, c < 2 → am_ckc 41 c = true := fun c h => match c, h with
  | 0, _ => am_cc_41_0
  | 1, _ => am_cc_41_1
  | n + 2, h => absurd h (by omega)
theorem am_ci_42 : ∀ c, c < 1 → am_ckc 42 c = true := fun c h => match c, h with
  | 0, _ => am_cc_42_0
  | n + 1, h => absurd h (by omega)
theorem am_ci_43 : ∀ c, c < 3 → am_ckc 43 c = true := fun c h => match c, h with
  | 0, _ => am_cc_43_0
  | 1, _ => am_cc_43_1
  | 2, _ => am_cc_43_2
  | n + 3, h => absurd h (by omega)
theorem am_ci_44 : ∀ c, c < 1 → am_ckc 44 c = true := fun c h => match c, h with
  | 0, _ => am_cc_44_0
  | n + 1, h => absurd h (by omega)
theorem am_ci_45 : ∀ c, c < 1 → am_ckc 45 c = true := fun c h => match c, h with
  | 0, _ => am_cc_45_0
  | n + 1, h => absurd h (by omega)
theorem am_ci_46 : ∀ c, c < 2 → am_ckc 46 c = true := fun c h => match c, h with
  | 0, _ => am_cc_46_0
  | 1, _ => am_cc_46_1
  | n + 2, h => absurd h (by omega)
theorem am_ci_47 : ∀ c, c < 2 → am_ckc 47 c = true := fun c h => match c, h with
  | 0, _ => am_cc_47_0
  | 1, _ => am_cc_47_1
  | n + 2, h => absurd h (by omega)
theorem am_ci_48 : ∀ c, c < 1 → am_ckc 48 c = true := fun c h => match c, h with
  | 0, _ => am_cc_48_0
  | n + 1, h => absurd h (by omega)
theorem am_ci_49 : ∀ c, c < 2 → am_ckc 49 c = true := fun c h => match c, h with
  | 0, _ => am_cc_49_0
  | 1, _ => am_cc_49_1
  | n + 2, h => absurd h (by omega)
theorem am_ci_50 : ∀ c, c < 2 → am_ckc 50 c = true := fun c h => match c, h with
  | 0, _ => am_cc_50_0
  | 1, _ => am_cc_50_1
  | n + 2, h => absurd h (by omega)
theorem am_ci_51 : ∀ c, c < 2 → am_ckc 51 c = true := fun c h => match c, h with
  | 0, _ => am_cc_51_0
  | 1, _ => am_cc_51_1
  | n + 2, h => absurd h (by omega)
theorem am_ci_52 : ∀ c, c < 2 → am_ckc 52 c = true := fun c h => match c, h with
  | 0, _ => am_cc_52_0
  | 1, _ => am_cc_52_1
  | n + 2, h => absurd h (by omega)
theorem am_ci_53 : ∀ c, c < 3 → am_ckc 53 c = true := fun c h => match c, h with
  | 0, _ => am_cc_53_0
  | 1, _ => am_cc_53_1
  | 2, _ => am_cc_53_2
  | n + 3, h => absurd h (by omega)
theorem am_ci_54 : ∀ c, c < 2 → am_ckc 54 c = true := fun c h => match c, h with
  | 0, _ => am_cc_54_0
  | 1, _ => am_cc_54_1
  | n + 2, h => absurd h (by omega)
theorem am_ci_55 : ∀ c, c < 1 → am_ckc 55 c = true := fun c h => match c, h with
  | 0, _ => am_cc_55_0
  | n + 1, h => absurd h (by omega)
theorem am_ci_56 : ∀ c, c < 1 → am_ckc 56 c = true := fun c h => match c, h with
  | 0, _ => am_cc_56_0
  | n + 1, h => absurd h (by omega)
theorem am_ci_57 : ∀ c, c < 1 → am_ckc 57 c = true := fun c h => match c, h with
  | 0, _ => am_cc_57_0
  | n + 1, h => absurd h (by omega)
theorem am_ci_58 : ∀ c, c < 1 → am_ckc 58 c = true := fun c h => match c, h with
  | 0, _ => am_cc_58_0
  | n + 1, h => absurd h (by omega)
theorem am_ci_59 : ∀ c, c < 1 → am_ckc 59 c = true := fun c h => match c, h with
  | 0, _ => am_cc_59_0
  | n + 1, h => absurd h (by omega)
theorem am_ci_60 : ∀ c, c < 2 → am_ckc 60 c = true := fun c h => match c, h with
  | 0, _ => am_cc_60_0
  | 1, _ => am_cc_60_1
  | n + 2, h => absurd h (by omega)
theorem am_ci_61 : ∀ c, c < 1 → am_ckc 61 c = true := fun c h => match c, h with
  | 0, _ => am_cc_61_0
  | n + 1, h => absurd h (by omega)
theorem am_ci_62 : ∀ c, c < 1 → am_ckc 62 c = true := fun c h => match c, h with
  | 0, _ => am_cc_62_0
  | n + 1, h => absurd h (by omega)
theorem am_ci_63 : ∀ c, c < 1 → am_ckc 63 c = true := fun c h => match c, h with
  | 0, _ => am_cc_63_0
  | n + 1, h => absurd h (by omega)
theorem am_ci_64 : ∀ c, c < 1 → am_ckc 64 c = true := fun c h => match c, h with
  | 0, _ => am_cc_64_0
  | n + 1, h => absurd h (by omega)
theorem am_ci_65 : ∀ c, c < 1 → am_ckc 65 c = true := fun c h => match c, h with
  | 0, _ => am_cc_65_0
  | n + 1, h => absurd h (by omega)
theorem am_ci_66 : ∀ c, c < 1 → am_ckc 66 c = true := fun c h => match c, h with
  | 0, _ => am_cc_66_0
  | n + 1, h => absurd h (by omega)
theorem am_ci_67 : ∀ c, c < 1 → am_ckc 67 c = true := fun c h => match c, h with
  | 0, _ => am_cc_67_0
  | n + 1, h => absurd h (by omega)
theorem am_ci_68 : ∀ c, c < 1 → am_ckc 68 c = true := fun c h => match c, h with
  | 0, _ => am_cc_68_0
  | n + 1, h => absurd h (by omega)
theorem am_ci_69 : ∀ c, c < 1 → am_ckc 69 c = true := fun c h => match c, h with
  | 0, _ => am_cc_69_0
  | n + 1, h => absurd h (by omega)
theorem am_ci_70 : ∀ c, c < 1 → am_ckc 70 c = true := fun c h => match c, h with
  | 0, _ => am_cc_70_0
  | n + 1, h => absurd h (by omega)
theorem am_ci_71 : ∀ c, c < 1 → am_ckc 71 c = true := fun c h => match c, h with
  | 0, _ => am_cc_71_0
  | n + 1, h => absurd h (by omega)
theorem am_ci_72 : ∀ c, c < 1 → am_ckc 72 c = true := fun c h => match c, h with
  | 0, _ => am_cc_72_0
  | n + 1, h => absurd h (by omega)
theorem am_ci_73 : ∀ c, c < 2 → am_ckc 73 c = true := fun c h => match c, h with
  | 0, _ => am_cc_73_0
  | 1, _ => am_cc_73_1
  | n + 2, h => absurd h (by omega)
theorem am_ci_74 : ∀ c, c < 2 → am_ckc 74 c = true := fun c h => match c, h with
  | 0, _ => am_cc_74_0
  | 1, _ => am_cc_74_1
  | n + 2, h => absurd h (by omega)
theorem am_ci_75 : ∀ c, c < 2 → am_ckc 75 c = true := fun c h => match c, h with
  | 0, _ => am_cc_75_0
  | 1, _ => am_cc_75_1
  | n + 2, h => absurd h (by omega)
theorem am_ci_76 : ∀ c, c < 1 → am_ckc 76 c = true := fun c h => match c, h with
  | 0, _ => am_cc_76_0
  | n + 1, h => absurd h (by omega)
theorem am_ci_77 : ∀ c, c < 1 → am_ckc 77 c = true := fun c h => match c, h with
  | 0, _ => am_cc_77_0
  | n + 1, h => absurd h (by omega)
theorem am_ci_78 : ∀ c, c < 2 → am_ckc 78 c = true := fun c h => match c, h with
  | 0, _ => am_cc_78_0
  | 1, _ => am_cc_78_1
  | n + 2, h => absurd h (by omega)
theorem am_ci_79 : ∀ c, c < 1 → am_ckc 79 c = true := fun c h => match c, h with
  | 0, _ => am_cc_79_0
  | n + 1, h => absurd h (by omega)
theorem am_ci_80 : ∀ c, c < 2 → am_ckc 80 c = true := fun c h => match c, h with
  | 0, _ => am_cc_80_0
  | 1, _ => am_cc_80_1
  | n + 2, h => absurd h (by omega)
theorem am_ci_81 : ∀ c, c < 1 → am_ckc 81 c = true := fun c h => match c, h with
  | 0, _ => am_cc_81_0
  | n + 1, h => absurd h (by omega)
theorem am_ci_82 : ∀ c, c < 2 → am_ckc 82 c = true := fun c h => match c, h with
  | 0, _ => am_cc_82_0
  | 1, _ => am_cc_82_1
  | n + 2, h => absurd h (by omega)
theorem am_ci_83 : ∀ c, c < 1 → am_ckc 83 c = true := fun c h => match c, h with
  | 0, _ => am_cc_83_0
  | n + 1, h => absurd h (by omega)
theorem am_ci_84 : ∀ c, c < 1 → am_ckc 84 c = true := fun c h => match c, h with
  | 0, _ => am_cc_84_0
  | n + 1, h => absurd h (by omega)
theorem am_ci_85 : ∀ c, c < 1 → am_ckc 85 c = true := fun c h => match c, h with
  | 0, _ => am_cc_85_0
  | n + 1, h => absurd h (by omega)
theorem am_ci_86 : ∀ c, c < 2 → am_ckc 86 c = true := fun c h => match c, h with
  | 0, _ => am_cc_86_0
  | 1, _ => am_cc_86_1
  | n + 2, h => absurd h (by omega)
theorem am_ci_87 : ∀ c, c < 1 → am_ckc 87 c = true := fun c h => match c, h with
  | 0, _ => am_cc_87_0
  | n + 1, h => absurd h (by omega)
theorem am_ci_88 : ∀ c, c < 1 → am_ckc 88 c = true := fun c h => match c, h with
  | 0, _ => am_cc_88_0
  | n + 1, h => absurd h (by omega)
theorem am_ci_89 : ∀ c, c < 1 → am_ckc 89 c = true := fun c h => match c, h with
  | 0, _ => am_cc_89_0
  | n + 1, h => absurd h (by omega)
theorem am_ci_90 : ∀ c, c < 1 → am_ckc 90 c = true := fun c h => match c, h with
  | 0, _ => am_cc_90_0
  | n + 1, h => absurd h (by omega)
theorem am_ci_91 : ∀ c, c < 1 → am_ckc 91 c = true := fun c h => match c, h with
  | 0, _ => am_cc_91_0
  | n + 1, h => absurd h (by omega)
theorem am_ci_92 : ∀ c, c < 2 → am_ckc 92 c = true := fun c h => match c, h with
  | 0, _ => am_cc_92_0
  | 1, _ => am_cc_92_1
  | n + 2, h => absurd h (by omega)
theorem am_ci_93 : ∀ c, c < 2 → am_ckc 93 c = true := fun c h => match c, h with
  | 0, _ => am_cc_93_0
  | 1, _ => am_cc_93_1
  | n + 2, h => absurd h (by omega)
theorem am_ci_94 : ∀ c, c < 1 → am_ckc 94 c = true := fun c h => match c, h with
  | 0, _ => am_cc_94_0
  | n + 1, h => absurd h (by omega)
theorem am_ci_95 : ∀ c, c < 1 → am_ckc 95 c = true := fun c h => match c, h with
  | 0, _ => am_cc_95_0
  | n + 1, h => absurd h (by omega)
theorem am_ci_96 : ∀ c, c < 1 → am_ckc 96 c = true := fun c h => match c, h with
  | 0, _ => am_cc_96_0
  | n + 1, h => absurd h (by omega)
theorem am_ci_97 : ∀ c, c < 1 → am_ckc 97 c = true := fun c h => match c, h with
  | 0, _ => am_cc_97_0
  | n + 1, h => absurd h (by omega)
theorem am_ci_98 : ∀ c, c < 1 → am_ckc 98 c = true := fun c h => match c, h with
  | 0, _ => am_cc_98_0
  | n + 1, h => absurd h (by omega)
theorem am_ci_99 : ∀ c, c < 1 → am_ckc 99 c = true := fun c h => match c, h with
  | 0, _ => am_cc_99_0
  | n + 1, h => absurd h (by omega)
theorem am_ci_100 : ∀ c, c < 1 → am_ckc 100 c = true := fun c h => match c, h with
  | 0, _ => am_cc_100_0
  | n + 1, h => absurd h (by omega)
theorem am_ci_101 : ∀ c, c < 1 → am_ckc 101 c = true := fun c h => match c, h with
  | 0, _ => am_cc_101_0
  | n + 1, h => absurd h (by omega)
theorem am_ci_102 : ∀ c, c < 1 → am_ckc 102 c = true := fun c h => match c, h with
  | 0, _ => am_cc_102_0
  | n + 1, h => absurd h (by omega)
theorem am_ci_103 : ∀ c, c < 1 → am_ckc 103 c = true := fun c h => match c, h with
  | 0, _ => am_cc_103_0
  | n + 1, h => absurd h (by omega)
theorem am_ci_104 : ∀ c, c < 1 → am_ckc 104 c = true := fun c h => match c, h with
  | 0, _ => am_cc_104_0
  | n + 1, h => absurd h (by omega)
theorem am_ci_105 : ∀ c, c < 2 → am_ckc 105 c = true := fun c h => match c, h with
  | 0, _ => am_cc_105_0
  | 1, _ => am_cc_105_1
  | n + 2, h => absurd h (by omega)
theorem am_ci_106 : ∀ c, c < 1 → am_ckc 106 c = true := fun c h => match c, h with
  | 0, _ => am_cc_106_0
  | n + 1, h => absurd h (by omega)
theorem am_ci_107 : ∀ c, c < 3 → am_ckc 107 c = true := fun c h => match c, h with
  | 0, _ => am_cc_107_0
  | 1, _ => am_cc_107_1
  | 2, _ => am_cc_107_2
  | n + 3, h => absurd h (by omega)
theorem am_ci_108 : ∀ c, c < 1 → am_ckc 108 c = true := fun c h => match c, h with
  | 0, _ => am_cc_108_0
  | n + 1, h => absurd h (by omega)
theorem am_ci_109 : ∀ c, c < 1 → am_ckc 109 c = true := fun c h => match c, h with
  | 0, _ => am_cc_109_0
  | n + 1, h => absurd h (by omega)
theorem am_ci_110 : ∀ c, c < 1 → am_ckc 110 c = true := fun c h => match c, h with
  | 0, _ => am_cc_110_0
  | n + 1, h => absurd h (by omega)
theorem am_ci_111 : ∀ c, c < 1 → am_ckc 111 c = true := fun c h => match c, h with
  | 0, _ => am_cc_111_0
  | n + 1, h => absurd h (by omega)
theorem am_ci_112 : ∀ c, c < 1 → am_ckc 112 c = true := fun c h => match c, h with
  | 0, _ => am_cc_112_0
  | n + 1, h => absurd h (by omega)
theorem am_ci_113 : ∀ c, c < 2 → am_ckc 113 c = true := fun c h => match c, h with
  | 0, _ => am_cc_113_0
  | 1, _ => am_cc_113_1
  | n + 2, h => absurd h (by omega)
theorem am_ci_114 : ∀ c, c < 2 → am_ckc 114 c = true := fun c h => match c, h with
  | 0, _ => am_cc_114_0
  | 1, _ => am_cc_114_1
  | n + 2, h => absurd h (by omega)
theorem am_ci_115 : ∀ c, c < 1 → am_ckc 115 c = true := fun c h => match c, h with
  | 0, _ => am_cc_115_0
  | n + 1, h => absurd h (by omega)
theorem am_ci_116 : ∀ c, c < 2 → am_ckc 116 c = true := fun c h => match c, h with
  | 0, _ => am_cc_116_0
  | 1, _ => am_cc_116_1
  | n + 2, h => absurd h (by omega)
theorem am_ci_117 : ∀ c, c < 1 → am_ckc 117 c = true := fun c h => match c, h with
  | 0, _ => am_cc_117_0
  | n + 1, h => absurd h (by omega)
theorem am_ci_118 : ∀ c, c < 2 → am_ckc 118 c = true := fun c h => match c, h with
  | 0, _ => am_cc_118_0
  | 1, _ => am_cc_118_1
  | n + 2, h => absurd h (by omega)
theorem am_ci_119 : ∀ c, c < 1 → am_ckc 119 c = true := fun c h => match c, h with
  | 0, _ => am_cc_119_0
  | n + 1, h => absurd h (by omega)
theorem am_ci_120 : ∀ c, c < 1 → am_ckc 120 c = true := fun c h => match c, h with
  | 0, _ => am_cc_120_0
  | n + 1, h => absurd h (by omega)
theorem am_ci_121 : ∀ c, c < 2 → am_ckc 121 c = true := fun c h => match c, h with
  | 0, _ => am_cc_121_0
  | 1, _ => am_cc_121_1
  | n + 2, h => absurd h (by omega)
theorem am_ci_122 : ∀ c, c < 1 → am_ckc 122 c = true := fun c h => match c, h with
  | 0, _ => am_cc_122_0
  | n + 1, h => absurd h (by omega)
theorem am_ci_123 : ∀ c, c < 1 → am_ckc 123 c = true := fun c h => match c, h with
  | 0, _ => am_cc_123_0
  | n + 1, h => absurd h (by omega)
theorem am_ci_124 : ∀ c, c < 1 → am_ckc 124 c = true := fun c h => match c, h with
  | 0, _ => am_cc_124_0
  | n + 1, h => absurd h (by omega)
theorem am_ci_125 : ∀ c, c < 1 → am_ckc 125 c = true := fun c h => match c, h with
  | 0, _ => am_cc_125_0
  | n + 1, h => absurd h (by omega)
theorem am_ci_126 : ∀ c, c < 1 → am_ckc 126 c = true := fun c h => match c, h with
  | 0, _ => am_cc_126_0
  | n + 1, h => absurd h (by omega)
theorem am_ci_127 : ∀ c, c < 1 → am_ckc 127 c = true := fun c h => match c, h with
  | 0, _ => am_cc_127_0
  | n + 1, h => absurd h (by omega)
theorem am_ci_128 : ∀ c, c < 1 → am_ckc 128 c = true := fun c h => match c, h with
  | 0, _ => am_cc_128_0
  | n + 1, h => absurd h (by omega)
theorem am_ci_129 : ∀ c, c < 1 → am_ckc 129 c = true := fun c h => match c, h with
  | 0, _ => am_cc_129_0
  | n + 1, h => absurd h (by omega)
theorem am_ci_130 : ∀ c, c < 1 → am_ckc 130 c = true := fun c h => match c, h with
  | 0, _ => am_cc_130_0
  | n + 1, h => absurd h (by omega)
theorem am_ci_131 : ∀ c, c < 1 → am_ckc 131 c = true := fun c h => match c, h with
  | 0, _ => am_cc_131_0
  | n + 1, h => absurd h (by omega)
theorem am_ci_132 : ∀ c, c < 1 → am_ckc 132 c = true := fun c h => match c, h with
  | 0, _ => am_cc_132_0
  | n + 1, h => absurd h (by omega)
theorem am_ci_133 : ∀ c, c < 1 → am_ckc 133 c = true := fun c h => match c, h with
  | 0, _ => am_cc_133_0
  | n + 1, h => absurd h (by omega)
theorem am_ci_134 : ∀ c, c < 1 → am_ckc 134 c = true := fun c h => match c, h with
  | 0, _ => am_cc_134_0
  | n + 1, h => absurd h (by omega)
theorem am_ci_135 : ∀ c, c < 1 → am_ckc 135 c = true := fun c h => match c, h with
  | 0, _ => am_cc_135_0
  | n + 1, h => absurd h (by omega)
theorem am_ci_136 : ∀ c, c < 1 → am_ckc 136 c = true := fun c h => match c, h with
  | 0, _ => am_cc_136_0
  | n + 1, h => absurd h (by omega)
theorem am_ci_137 : ∀ c, c < 1 → am_ckc 137 c = true := fun c h => match c, h with
  | 0, _ => am_cc_137_0
  | n + 1, h => absurd h (by omega)
theorem am_ci_138 : ∀ c, c < 1 → am_ckc 138 c = true := fun c h => match c, h with
  | 0, _ => am_cc_138_0
  | n + 1, h => absurd h (by omega)
theorem am_ci_139 : ∀ c, c < 1 → am_ckc 139 c = true := fun c h => match c, h with
  | 0, _ => am_cc_139_0
  | n + 1, h => absurd h (by omega)
theorem am_ci_140 : ∀ c, c < 1 → am_ckc 140 c = true := fun c h => match c, h with
  | 0, _ => am_cc_140_0
  | n + 1, h => absurd h (by omega)
theorem am_ci_141 : ∀ c, c < 3 → am_ckc 141 c = true := fun c h => match c, h with
  | 0, _ => am_cc_141_0
  | 1, _ => am_cc_141_1
  | 2, _ => am_cc_141_2
  | n + 3, h => absurd h (by omega)
theorem am_ci_142 : ∀ c, c < 1 → am_ckc 142 c = true := fun c h => match c, h with
  | 0, _ => am_cc_142_0
  | n + 1, h => absurd h (by omega)
theorem am_ci_143 : ∀ c, c < 1 → am_ckc 143 c = true := fun c h => match c, h with
  | 0, _ => am_cc_143_0
  | n + 1, h => absurd h (by omega)
theorem am_ci_144 : ∀ c, c < 1 → am_ckc 144 c = true := fun c h => match c, h with
  | 0, _ => am_cc_144_0
  | n + 1, h => absurd h (by omega)
theorem am_ci_145 : ∀ c, c < 1 → am_ckc 145 c = true := fun c h => match c, h with
  | 0, _ => am_cc_145_0
  | n + 1, h => absurd h (by omega)
theorem am_ci_146 : ∀ c, c < 1 → am_ckc 146 c = true := fun c h => match c, h with
  | 0, _ => am_cc_146_0
  | n + 1, h => absurd h (by omega)
theorem am_ci_147 : ∀ c, c < 1 → am_ckc 147 c = true := fun c h => match c, h with
  | 0, _ => am_cc_147_0
  | n + 1, h => absurd h (by omega)
theorem am_ci_148 : ∀ c, c < 1 → am_ckc 148 c = true := fun c h => match c, h with
  | 0, _ => am_cc_148_0
  | n + 1, h => absurd h (by omega)
theorem am_ci_149 : ∀ c, c < 1 → am_ckc 149 c = true := fun c h => match c, h with
  | 0, _ => am_cc_149_0
  | n + 1, h => absurd h (by omega)
theorem am_ci_150 : ∀ c, c < 1 → am_ckc 150 c = true := fun c h => match c, h with
  | 0, _ => am_cc_150_0
  | n + 1, h => absurd h (by omega)
theorem am_ci_151 : ∀ c, c < 1 → am_ckc 151 c = true := fun c h => match c, h with
  | 0, _ => am_cc_151_0
  | n + 1, h => absurd h (by omega)
theorem am_ci_152 : ∀ c, c < 2 → am_ckc 152 c = true := fun c h => match c, h with
  | 0, _ => am_cc_152_0
  | 1, _ => am_cc_152_1
  | n + 2, h => absurd h (by omega)
theorem am_ci_153 : ∀ c, c < 1 → am_ckc 153 c = true := fun c h => match c, h with
  | 0, _ => am_cc_153_0
  | n + 1, h => absurd h (by omega)
theorem am_ci_154 : ∀ c, c < 1 → am_ckc 154 c = true := fun c h => match c, h with
  | 0, _ => am_cc_154_0
  | n + 1, h => absurd h (by omega)
theorem am_ci_155 : ∀ c, c < 3 → am_ckc 155 c = true := fun c h => match c, h with
  | 0, _ => am_cc_155_0
  | 1, _ => am_cc_155_1
  | 2, _ => am_cc_155_2
  | n + 3, h => absurd h (by omega)
theorem am_ci_156 : ∀ c, c < 1 → am_ckc 156 c = true := fun c h => match c, h with
  | 0, _ => am_cc_156_0
  | n + 1, h => absurd h (by omega)
theorem am_ci_157 : ∀ c, c < 1 → am_ckc 157 c = true := fun c h => match c, h with
  | 0, _ => am_cc_157_0
  | n + 1, h => absurd h (by omega)
theorem am_ci_158 : ∀ c, c < 1 → am_ckc 158 c = true := fun c h => match c, h with
  | 0, _ => am_cc_158_0
  | n + 1, h => absurd h (by omega)
theorem am_ci_159 : ∀ c, c < 1 → am_ckc 159 c = true := fun c h => match c, h with
  | 0, _ => am_cc_159_0
  | n + 1, h => absurd h (by omega)
theorem am_ci_160 : ∀ c, c < 1 → am_ckc 160 c = true := fun c h => match c, h with
  | 0, _ => am_cc_160_0
  | n + 1, h => absurd h (by omega)
theorem am_ci_161 : ∀ c, c < 2 → am_ckc 161 c = true := fun c h => match c, h with
  | 0, _ => am_cc_161_0
  | 1, _ => am_cc_161_1
  | n + 2, h => absurd h (by omega)
theorem am_ci_162 : ∀ c, c < 1 → am_ckc 162 c = true := fun c h => match c, h with
  | 0, _ => am_cc_162_0
  | n + 1, h => absurd h (by omega)
theorem am_ci_163 : ∀ c, c < 1 → am_ckc 163 c = true := fun c h => match c, h with
  | 0, _ => am_cc_163_0
  | n + 1, h => absurd h (by omega)
theorem am_ci_164 : ∀ c, c < 1 → am_ckc 164 c = true := fun c h => match c, h with
  | 0, _ => am_cc_164_0
  | n + 1, h => absurd h (by omega)
theorem am_ci_165 : ∀ c, c < 3 → am_ckc 165 c = true := fun c h => match c, h with
  | 0, _ => am_cc_165_0
  | 1, _ => am_cc_165_1
  | 2, _ => am_cc_165_2
  | n + 3, h => absurd h (by omega)
theorem am_ci_166 : ∀ c, c < 1 → am_ckc 166 c = true := fun c h => match c, h with
  | 0, _ => am_cc_166_0
  | n + 1, h => absurd h (by omega)
theorem am_ci_167 : ∀ c, c < 2 → am_ckc 167 c = true := fun c h => match c, h with
  | 0, _ => am_cc_167_0
  | 1, _ => am_cc_167_1
  | n + 2, h => absurd h (by omega)
theorem am_ci_168 : ∀ c, c < 1 → am_ckc 168 c = true := fun c h => match c, h with
  | 0, _ => am_cc_168_0
  | n + 1, h => absurd h (by omega)
theorem am_ci_169 : ∀ c, c < 1 → am_ckc 169 c = true := fun c h => match c, h with
  | 0, _ => am_cc_169_0
  | n + 1, h => absurd h (by omega)
theorem am_ci_170 : ∀ c, c < 3 → am_ckc 170 c = true := fun c h => match c, h with
  | 0, _ => am_cc_170_0
  | 1, _ => am_cc_170_1
  | 2, _ => am_cc_170_2
  | n + 3, h => absurd h (by omega)
theorem am_ci_171 : ∀ c, c < 3 → am_ckc 171 c = true := fun c h => match c, h with
  | 0, _ => am_cc_171_0
  | 1, _ => am_cc_171_1
  | 2, _ => am_cc_171_2
  | n + 3, h => absurd h (by omega)
theorem am_ci_172 : ∀ c, c < 2 → am_ckc 172 c = true := fun c h => match c, h with
  | 0, _ => am_cc_172_0
  | 1, _ => am_cc_172_1
  | n + 2, h => absurd h (by omega)
theorem am_ci_173 : ∀ c, c < 2 → am_ckc 173 c = true := fun c h => match c, h with
  | 0, _ => am_cc_173_0
  | 1, _ => am_cc_173_1
  | n + 2, h => absurd h (by omega)
theorem am_ci_174 : ∀ c, c < 3 → am_ckc 174 c = true := fun c h => match c, h with
  | 0, _ => am_cc_174_0
  | 1, _ => am_cc_174_1
  | 2, _ => am_cc_174_2
  | n + 3, h => absurd h (by omega)
theorem am_ci_175 : ∀ c, c < 1 → am_ckc 175 c = true := fun c h => match c, h with
  | 0, _ => am_cc_175_0
  | n + 1, h => absurd h (by omega)
theorem am_ci_176 : ∀ c, c < 1 → am_ckc 176 c = true := fun c h => match c, h with
  | 0, _ => am_cc_176_0
  | n + 1, h => absurd h (by omega)
theorem am_ci_177 : ∀ c, c < 1 → am_ckc 177 c = true := fun c h => match c, h with
  | 0, _ => am_cc_177_0
  | n + 1, h => absurd h (by omega)
theorem am_ci_178 : ∀ c, c < 1 → am_ckc 178 c = true := fun c h => match c, h with
  | 0, _ => am_cc_178_0
  | n + 1, h => absurd h (by omega)
theorem am_ci_179 : ∀ c, c < 3 → am_ckc 179 c = true := fun c h => match c, h with
  | 0, _ => am_cc_179_0
  | 1, _ => am_cc_179_1
  | 2, _ => am_cc_179_2
  | n + 3, h => absurd h (by omega)
theorem am_ci_180 : ∀ c, c < 1 → am_ckc 180 c = true := fun c h => match c, h with
  | 0, _ => am_cc_180_0
  | n + 1, h => absurd h (by omega)
theorem am_ci_181 : ∀ c, c < 1 → am_ckc 181 c = true := fun c h => match c, h with
  | 0, _ => am_cc_181_0
  | n + 1, h => absurd h (by omega)
theorem am_ci_182 : ∀ c, c < 1 → am_ckc 182 c = true := fun c h => match c, h with
  | 0, _ => am_cc_182_0
  | n + 1, h => absurd h (by omega)
theorem am_ci_183 : ∀ c, c < 3 → am_ckc 183 c = true := fun c h => match c, h with
  | 0, _ => am_cc_183_0
  | 1, _ => am_cc_183_1
  | 2, _ => am_cc_183_2
  | n + 3, h => absurd h (by omega)
theorem am_ci_184 : ∀ c, c < 2 → am_ckc 184 c = true := fun c h => match c, h with
  | 0, _ => am_cc_184_0
  | 1, _ => am_cc_184_1
  | n + 2, h => absurd h (by omega)
theorem am_ci_185 : ∀ c, c < 1 → am_ckc 185 c = true := fun c h => match c, h with
  | 0, _ => am_cc_185_0
  | n + 1, h => absurd h (by omega)
theorem am_ci_186 : ∀ c, c < 1 → am_ckc 186 c = true := fun c h => match c, h with
  | 0, _ => am_cc_186_0
  | n + 1, h => absurd h (by omega)
theorem am_ci_187 : ∀ c, c < 1 → am_ckc 187 c = true := fun c h => match c, h with
  | 0, _ => am_cc_187_0
  | n + 1, h => absurd h (by omega)
theorem am_ci_188 : ∀ c, c < 2 → am_ckc 188 c = true := fun c h => match c, h with
  | 0, _ => am_cc_188_0
  | 1, _ => am_cc_188_1
  | n + 2, h => absurd h (by omega)
theorem am_ci_189 : ∀ c, c < 1 → am_ckc 189 c = true := fun c h => match c, h with
  | 0, _ => am_cc_189_0
  | n + 1, h => absurd h (by omega)
theorem am_ci_190 : ∀ c, c < 5 → am_ckc 190 c = true := fun c h => match c, h with
  | 0, _ => am_cc_190_0
  | 1, _ => am_cc_190_1
  | 2, _ => am_cc_190_2
  | 3, _ => am_cc_190_3
  | 4, _ => am_cc_190_4
  | n + 5, h => absurd h (by omega)
theorem am_ci_191 : ∀ c, c < 1 → am_ckc 191 c = true := fun c h => match c, h with
  | 0, _ => am_cc_191_0
  | n + 1, h => absurd h (by omega)
theorem am_ci_192 : ∀ c, c < 1 → am_ckc 192 c = true := fun c h => match c, h with
  | 0, _ => am_cc_192_0
  | n + 1, h => absurd h (by omega)
theorem am_ci_193 : ∀ c, c < 1 → am_ckc 193 c = true := fun c h => match c, h with
  | 0, _ => am_cc_193_0
  | n + 1, h => absurd h (by omega)
theorem am_ci_194 : ∀ c, c < 1 → am_ckc 194 c = true := fun c h => match c, h with
  | 0, _ => am_cc_194_0
  | n + 1, h => absurd h (by omega)
theorem am_ci_195 : ∀ c, c < 4 → am_ckc 195 c = true := fun c h => match c, h with
  | 0, _ => am_cc_195_0
  | 1, _ => am_cc_195_1
  | 2, _ => am_cc_195_2
  | 3, _ => am_cc_195_3
  | n + 4, h => absurd h (by omega)
theorem am_ci_196 : ∀ c, c < 1 → am_ckc 196 c = true := fun c h => match c, h with
  | 0, _ => am_cc_196_0
  | n + 1, h => absurd h (by omega)
theorem am_ci_197 : ∀ c, c < 1 → am_ckc 197 c = true := fun c h => match c, h with
  | 0, _ => am_cc_197_0
  | n + 1, h => absurd h (by omega)
theorem am_ci_198 : ∀ c, c < 1 → am_ckc 198 c = true := fun c h => match c, h with
  | 0, _ => am_cc_198_0
  | n + 1, h => absurd h (by omega)
theorem am_ci_199 : ∀ c, c < 2 → am_ckc 199 c = true := fun c h => match c, h with
  | 0, _ => am_cc_199_0
  | 1, _ => am_cc_199_1
  | n + 2, h => absurd h (by omega)
theorem am_ci_200 : ∀ c, c < 2 → am_ckc 200 c = true := fun c h => match c, h with
  | 0, _ => am_cc_200_0
  | 1, _ => am_cc_200_1
  | n + 2, h => absurd h (by omega)
theorem am_ci_201 : ∀ c, c < 3 → am_ckc 201 c = true := fun c h => match c, h with
  | 0, _ => am_cc_201_0
  | 1, _ => am_cc_201_1
  | 2, _ => am_cc_201_2
  | n + 3, h => absurd h (by omega)
theorem am_ci_202 : ∀ c, c < 7 → am_ckc 202 c = true := fun c h => match c, h with
  | 0, _ => am_cc_202_0
  | 1, _ => am_cc_202_1
  | 2, _ => am_cc_202_2
  | 3, _ => am_cc_202_3
  | 4, _ => am_cc_202_4
  | 5, _ => am_cc_202_5
  | 6, _ => am_cc_202_6
  | n + 7, h => absurd h (by omega)
theorem am_ci_203 : ∀ c, c < 2 → am_ckc 203 c = true := fun c h => match c, h with
  | 0, _ => am_cc_203_0
  | 1, _ => am_cc_203_1
  | n + 2, h => absurd h (by omega)
theorem am_ci_204 : ∀ c, c < 2 → am_ckc 204 c = true := fun c h => match c, h with
  | 0, _ => am_cc_204_0
  | 1, _ => am_cc_204_1
  | n + 2, h => absurd h (by omega)
theorem am_ci_205 : ∀ c, c < 1 → am_ckc 205 c = true := fun c h => match c, h with
  | 0, _ => am_cc_205_0
  | n + 1, h => absurd h (by omega)
theorem am_ci_206 : ∀ c, c < 1 → am_ckc 206 c = true := fun c h => match c, h with
  | 0, _ => am_cc_206_0
  | n + 1, h => absurd h (by omega)
theorem am_ci_207 : ∀ c, c < 1 → am_ckc 207 c = true := fun c h => match c, h with
  | 0, _ => am_cc_207_0
  | n + 1, h => absurd h (by omega)
theorem am_ci_208 : ∀ c, c < 1 → am_ckc 208 c = true := fun c h => match c, h with
  | 0, _ => am_cc_208_0
  | n + 1, h => absurd h (by omega)
theorem am_ci_209 : ∀ c, c < 2 → am_ckc 209 c = true := fun c h => match c, h with
  | 0, _ => am_cc_209_0
  | 1, _ => am_cc_209_1
  | n + 2, h => absurd h (by omega)
theorem am_ci_210 : ∀ c, c < 3 → am_ckc 210 c = true := fun c h => match c, h with
  | 0, _ => am_cc_210_0
  | 1, _ => am_cc_210_1
  | 2, _ => am_cc_210_2
  | n + 3, h => absurd h (by omega)
theorem am_ci_211 : ∀ c, c < 2 → am_ckc 211 c = true := fun c h => match c, h with
  | 0, _ => am_cc_211_0
  | 1, _ => am_cc_211_1
  | n + 2, h => absurd h (by omega)
theorem am_ci_212 : ∀ c, c < 2 → am_ckc 212 c = true := fun c h => match c, h with
  | 0, _ => am_cc_212_0
  | 1, _ => am_cc_212_1
  | n + 2, h => absurd h (by omega)
theorem am_ci_213 : ∀ c, c < 5 → am_ckc 213 c = true := fun c h => match c, h with
  | 0, _ => am_cc_213_0
  | 1, _ => am_cc_213_1
  | 2, _ => am_cc_213_2
  | 3, _ => am_cc_213_3
  | 4, _ => am_cc_213_4
  | n + 5, h => absurd h (by omega)
theorem am_ci_214 : ∀ c, c < 3 → am_ckc 214 c = true := fun c h => match c, h with
  | 0, _ => am_cc_214_0
  | 1, _ => am_cc_214_1
  | 2, _ => am_cc_214_2
  | n + 3, h => absurd h (by omega)
theorem am_ci_215 : ∀ c, c < 3 → am_ckc 215 c = true := fun c h => match c, h with
  | 0, _ => am_cc_215_0
  | 1, _ => am_cc_215_1
  | 2, _ => am_cc_215_2
  | n + 3, h => absurd h (by omega)
theorem am_ci_216 : ∀ c, c < 1 → am_ckc 216 c = true := fun c h => match c, h with
  | 0, _ => am_cc_216_0
  | n + 1, h => absurd h (by omega)
theorem am_ci_217 : ∀ c, c < 1 → am_ckc 217 c = true := fun c h => match c, h with
  | 0, _ => am_cc_217_0
  | n + 1, h => absurd h (by omega)
theorem am_ci_218 : ∀ c, c < 1 → am_ckc 218 c = true := fun c h => match c, h with
  | 0, _ => am_cc_218_0
  | n + 1, h => absurd h (by omega)
theorem am_ci_219 : ∀ c, c < 1 → am_ckc 219 c = true := fun c h => match c, h with
  | 0, _ => am_cc_219_0
  | n + 1, h => absurd h (by omega)
theorem am_ci_220 : ∀ c, c < 1 → am_ckc 220 c = true := fun c h => match c, h with
  | 0, _ => am_cc_220_0
  | n + 1, h => absurd h (by omega)
theorem am_ci_221 : ∀ c, c < 1 → am_ckc 221 c = true := fun c h => match c, h with
  | 0, _ => am_cc_221_0
  | n + 1, h => absurd h (by omega)
theorem am_ci_222 : ∀ c, c < 1 → am_ckc 222 c = true := fun c h => match c, h with
  | 0, _ => am_cc_222_0
  | n + 1, h => absurd h (by omega)
theorem am_ci_223 : ∀ c, c < 1 → am_ckc 223 c = true := fun c h => match c, h with
  | 0, _ => am_cc_223_0
  | n + 1, h => absurd h (by omega)
theorem am_ci_224 : ∀ c, c < 1 → am_ckc 224 c = true := fun c h => match c, h with
  | 0, _ => am_cc_224_0
  | n + 1, h => absurd h (by omega)
theorem am_ci_225 : ∀ c, c < 1 → am_ckc 225 c = true := fun c h => match c, h with
  | 0, _ => am_cc_225_0
  | n + 1, h => absurd h (by omega)
theorem am_ci_226 : ∀ c, c < 11 → am_ckc 226 c = true := fun c h => match c, h with
  | 0, _ => am_cc_226_0
  | 1, _ => am_cc_226_1
  | 2, _ => am_cc_226_2
  | 3, _ => am_cc_226_3
  | 4, _ => am_cc_226_4
  | 5, _ => am_cc_226_5
  | 6, _ => am_cc_226_6
  | 7, _ => am_cc_226_7
  | 8, _ => am_cc_226_8
  | 9, _ => am_cc_226_9
  | 10, _ => am_cc_226_10
  | n + 11, h => absurd h (by omega)
def am_kk (i : Nat) : Nat := match am_size[i]? with
  | some n => (n + 79) / 80
  | none => 0
theorem am_cg_0 : ∀ i, 0 ≤ i → i < 20 → ∀ c, c < am_kk i → am_ckc i c = true := by
  intro i h1 h2
  rcases (show i = 0 ∨ i = 1 ∨ i = 2 ∨ i = 3 ∨ i = 4 ∨ i = 5 ∨ i = 6 ∨ i = 7 ∨ i = 8 ∨ i = 9 ∨ i = 10 ∨ i = 11 ∨ i = 12 ∨ i = 13 ∨ i = 14 ∨ i = 15 ∨ i = 16 ∨ i = 17 ∨ i = 18 ∨ i = 19 by omega) with rfl | rfl | rfl | rfl | rfl | rfl | rfl | rfl | rfl | rfl | rfl | rfl | rfl | rfl | rfl | rfl | rfl | rfl | rfl | rfl
  · exact am_ci_0
  · exact am_ci_1
  · exact am_ci_2
  · exact am_ci_3
  · exact am_ci_4
  · exact am_ci_5
  · exact am_ci_6
  · exact am_ci_7
  · exact am_ci_8
  · exact am_ci_9
  · exact am_ci_10
  · exact am_ci_11
  · exact am_ci_12
  · exact am_ci_13
  · exact am_ci_14
  · exact am_ci_15
  · exact am_ci_16
  · exact am_ci_17
  · exact am_ci_18
  · exact am_ci_19
theorem am_cg_1 : ∀ i, 20 ≤ i → i < 40 → ∀ c, c < am_kk i → am_ckc i c = true := by
  intro i h1 h2
  rcases (show i = 20 ∨ i = 21 ∨ i = 22 ∨ i = 23 ∨ i = 24 ∨ i = 25 ∨ i = 26 ∨ i = 27 ∨ i = 28 ∨ i = 29 ∨ i = 30 ∨ i = 31 ∨ i = 32 ∨ i = 33 ∨ i = 34 ∨ i = 35 ∨ i = 36 ∨ i = 37 ∨ i = 38 ∨ i = 39 by omega) with rfl | rfl | rfl | rfl | rfl | rfl | rfl | rfl | rfl | rfl | rfl | rfl | rfl | rfl | rfl | rfl | rfl | rfl | rfl | rfl
  · exact am_ci_20
  · exact am_ci_21
  · exact am_ci_22
  · exact am_ci_23
  · exact am_ci_24
  · exact am_ci_25
  · exact am_ci_26
  · exact am_ci_27
  · exact am_ci_28
  · exact am_ci_29
  · exact am_ci_30
  · exact am_ci_31
  · exact am_ci_32
  · exact am_ci_33
  · exact am_ci_34
  · exact am_ci_35
  · exact am_ci_36
  · exact am_ci_37
  · exact am_ci_38
  · exact am_ci_39
theorem am_cg_2 : ∀ i, 40 ≤ i → i < 60 → ∀ c, c < am_kk i → am_ckc i c = true := by
  intro i h1 h2
  rcases (show i = 40 ∨ i = 41 ∨ i = 42 ∨ i = 43 ∨ i = 44 ∨ i = 45 ∨ i = 46 ∨ i = 47 ∨ i = 48 ∨ i = 49 ∨ i = 50 ∨ i = 51 ∨ i = 52 ∨ i = 53 ∨ i = 54 ∨ i = 55 ∨ i = 56 ∨ i = 57 ∨ i = 58 ∨ i = 59 by omega) with rfl | rfl | rfl | rfl | rfl | rfl | rfl | rfl | rfl | rfl | rfl | rfl | rfl | rfl | rfl | rfl | rfl | rfl | rfl | rfl
  · exact am_ci_40
  · exact am_ci_41
  · exact am_ci_42
  · exact am_ci_43
  · exact am_ci_44
  · exact am_ci_45
  · exact am_ci_46
  · exact am_ci_47
  · exact am_ci_48
  · exact am_ci_49
  · exact am_ci_50
  · exact am_ci_51
  · exact am_ci_52
  · exact am_ci_53
  · exact am_ci_54
  · exact am_ci_55
  · exact am_ci_56
  · exact am_ci_57
  · exact am_ci_58
  · exact am_ci_59
theorem am_cg_3 : ∀ i, 60 ≤ i → i < 80 → ∀ c, c < am_kk i → am_ckc i c = true := by
  intro i h1 h2
  rcases (show i = 60 ∨ i = 61 ∨ i = 62 ∨ i = 63 ∨ i = 64 ∨ i = 65 ∨ i = 66 ∨ i = 67 ∨ i = 68 ∨ i = 69 ∨ i = 70 ∨ i = 71 ∨ i = 72 ∨ i = 73 ∨ i = 74 ∨ i = 75 ∨ i = 76 ∨ i = 77 ∨ i = 78 ∨ i = 79 by omega) with rfl | rfl | rfl | rfl | rfl | rfl | rfl | rfl | rfl | rfl | rfl | rfl | rfl | rfl | rfl | rfl | rfl | rfl | rfl | rfl
  · exact am_ci_60
  · exact am_ci_61
  · exact am_ci_62
  · exact am_ci_63
  · exact am_ci_64
  · exact am_ci_65
  · exact am_ci_66
  · exact am_ci_67
  · exact am_ci_68
  · exact am_ci_69
  · exact am_ci_70
  · exact am_ci_71
  · exact am_ci_72
  · exact am_ci_73
  · exact am_ci_74
  · exact am_ci_75
  · exact am_ci_76
  · exact am_ci_77
  · exact am_ci_78
  · exact am_ci_79
theorem am_cg_4 : ∀ i, 80 ≤ i → i < 100 → ∀ c, c < am_kk i → am_ckc i c = true := by
  intro i h1 h2
  rcases (show i = 80 ∨ i = 81 ∨ i = 82 ∨ i = 83 ∨ i = 84 ∨ i = 85 ∨ i = 86 ∨ i = 87 ∨ i = 88 ∨ i = 89 ∨ i = 90 ∨ i = 91 ∨ i = 92 ∨ i = 93 ∨ i = 94 ∨ i = 95 ∨ i = 96 ∨ i = 97 ∨ i = 98 ∨ i = 99 by omega) with rfl | rfl | rfl | rfl | rfl | rfl | rfl | rfl | rfl | rfl | rfl | rfl | rfl | rfl | rfl | rfl | rfl | rfl | rfl | rfl
  · exact am_ci_80
  · exact am_ci_81
  · exact am_ci_82
  · exact am_ci_83
  · exact am_ci_84
  · exact am_ci_85
  · exact am_ci_86
  · exact am_ci_87
  · exact am_ci_88
  · exact am_ci_89
  · exact am_ci_90
  · exact am_ci_91
  · exact am_ci_92
  · exact am_ci_93
  · exact am_ci_94
  · exact am_ci_95
  · exact am_ci_96
  · exact am_ci_97
  · exact am_ci_98
  · exact am_ci_99
theorem am_cg_5 : ∀ i, 100 ≤ i → i < 120 → ∀ c, c < am_kk i → am_ckc i c = true := by
  intro i h1 h2
  rcases (show i = 100 ∨ i = 101 ∨ i = 102 ∨ i = 103 ∨ i = 104 ∨ i = 105 ∨ i = 106 ∨ i = 107 ∨ i = 108 ∨ i = 109 ∨ i = 110 ∨ i = 111 ∨ i = 112 ∨ i = 113 ∨ i = 114 ∨ i = 115 ∨ i = 116 ∨ i = 117 ∨ i = 118 ∨ i = 119 by omega) with rfl | rfl | rfl | rfl | rfl | rfl | rfl | rfl | rfl | rfl | rfl | rfl | rfl | rfl | rfl | rfl | rfl | rfl | rfl | rfl
  · exact am_ci_100
  · exact am_ci_101
  · exact am_ci_102
  · exact am_ci_103
  · exact am_ci_104
  · exact am_ci_105
  · exact am_ci_106
  · exact am_ci_107
  · exact am_ci_108
  · exact am_ci_109
  · exact am_ci_110
  · exact am_ci_111
  · exact am_ci_112
  · exact am_ci_113
  · exact am_ci_114
  · exact am_ci_115
  · exact am_ci_116
  · exact am_ci_117
  · exact am_ci_118
  · exact am_ci_119
theorem am_cg_6 : ∀ i, 120 ≤ i → i < 140 → ∀ c, c < am_kk i → am_ckc i c = true := by
  intro i h1 h2
  rcases (show i = 120 ∨ i = 121 ∨ i = 122 ∨ i = 123 ∨ i = 124 ∨ i = 125 ∨ i = 126 ∨ i = 127 ∨ i = 128 ∨ i = 129 ∨ i = 130 ∨ i = 131 ∨ i = 132 ∨ i = 133 ∨ i = 134 ∨ i = 135 ∨ i = 136 ∨ i = 137 ∨ i = 138 ∨ i = 139 by omega) with rfl | rfl | rfl | rfl | rfl | rfl | rfl | rfl | rfl | rfl | rfl | rfl | rfl | rfl | rfl | rfl | rfl | rfl | rfl | rfl
  · exact am_ci_120
  · exact am_ci_121
  · exact am_ci_122
  · exact am_ci_123
  · exact am_ci_124
  · exact am_ci_125
  · exact am_ci_126
  · exact am_ci_127
  · exact am_ci_128
  · exact am_ci_129
  · exact am_ci_130
  · exact am_ci_131
  · exact am_ci_132
  · exact am_ci_133
  · exact am_ci_134
  · exact am_ci_135
  · exact am_ci_136
  · exact am_ci_137
  · exact am_ci_138
  · exact am_ci_139
theorem am_cg_7 : ∀ i, 140 ≤ i → i < 160 → ∀ c, c < am_kk i → am_ckc i c = true := by
  intro i h1 h2
  rcases (show i = 140 ∨ i = 141 ∨ i = 142 ∨ i = 143 ∨ i = 144 ∨ i = 145 ∨ i = 146 ∨ i = 147 ∨ i = 148 ∨ i = 149 ∨ i = 150 ∨ i = 151 ∨ i = 152 ∨ i = 153 ∨ i = 154 ∨ i = 155 ∨ i = 156 ∨ i = 157 ∨ i = 158 ∨ i = 159 by omega) with rfl | rfl | rfl | rfl | rfl | rfl | rfl | rfl | rfl | rfl | rfl | rfl | rfl | rfl | rfl | rfl | rfl | rfl | rfl | rfl
  · exact am_ci_140
  · exact am_ci_141
  · exact am_ci_142
  · exact am_ci_143
  · exact am_ci_144
  · exact am_ci_145
  · exact am_ci_146
  · exact am_ci_147
  · exact am_ci_148
  · exact am_ci_149
  · exact am_ci_150
  · exact am_ci_151
  · exact am_ci_152
  · exact am_ci_153
  · exact am_ci_154
  · exact am_ci_155
  · exact am_ci_156
  · exact am_ci_157
  · exact am_ci_158
  · exact am_ci_159
theorem am_cg_8 : ∀ i, 160 ≤ i → i < 180 → ∀ c, c < am_kk i → am_ckc i c = true := by
  intro i h1 h2
  rcases (show i = 160 ∨ i = 161 ∨ i = 162 ∨ i = 163 ∨ i = 164 ∨ i = 165 ∨ i = 166 ∨ i = 167 ∨ i = 168 ∨ i = 169 ∨ i = 170 ∨ i = 171 ∨ i = 172 ∨ i = 173 ∨ i = 174 ∨ i = 175 ∨ i = 176 ∨ i = 177 ∨ i = 178 ∨ i = 179 by omega) with rfl | rfl | rfl | rfl | rfl | rfl | rfl | rfl | rfl | rfl | rfl | rfl | rfl | rfl | rfl | rfl | rfl | rfl | rfl | rfl
  · exact am_ci_160
  · exact am_ci_161
  · exact am_ci_162
  · exact am_ci_163
  · exact am_ci_164
  · exact am_ci_165
  · exact am_ci_166
  · exact am_ci_167
  · exact am_ci_168
  · exact am_ci_169
  · exact am_ci_170
  · exact am_ci_171
  · exact am_ci_172
  · exact am_ci_173
  · exact am_ci_174
  · exact am_ci_175
  · exact am_ci_176
  · exact am_ci_177
  · exact am_ci_178
  · exact am_ci_179
theorem am_cg_9 : ∀ i, 180 ≤ i → i < 200 → ∀ c, c < am_kk i → am_ckc i c = true := by
  intro i h1 h2
  rcases (show i = 180 ∨ i = 181 ∨ i = 182 ∨ i = 183 ∨ i = 184 ∨ i = 185 ∨ i = 186 ∨ i = 187 ∨ i = 188 ∨ i = 189 ∨ i = 190 ∨ i = 191 ∨ i = 192 ∨ i = 193 ∨ i = 194 ∨ i = 195 ∨ i = 196 ∨ i = 197 ∨ i = 198 ∨ i = 199 by omega) with rfl | rfl | rfl | rfl | rfl | rfl | rfl | rfl | rfl | rfl | rfl | rfl | rfl | rfl | rfl | rfl | rfl | rfl | rfl | rfl
  · exact am_ci_180
  · exact am_ci_181
  · exact am_ci_182
  · exact am_ci_183
  · exact am_ci_184
  · exact am_ci_185
  · exact am_ci_186
  · exact am_ci_187
  · exact am_ci_188
  · exact am_ci_189
  · exact am_ci_190
  · exact am_ci_191
  · exact am_ci_192
  · exact am_ci_193
  · exact am_ci_194
  · exact am_ci_195
  · exact am_ci_196
  · exact am_ci_197
  · exact am_ci_198
  · exact am_ci_199
theorem am_cg_10 : ∀ i, 200 ≤ i → i < 220 → ∀ c, c < am_kk i → am_ckc i c = true := by
  intro i h1 h2
  rcases (show i = 200 ∨ i = 201 ∨ i = 202 ∨ i = 203 ∨ i = 204 ∨ i = 205 ∨ i = 206 ∨ i = 207 ∨ i = 208 ∨ i = 209 ∨ i = 210 ∨ i = 211 ∨ i = 212 ∨ i = 213 ∨ i = 214 ∨ i = 215 ∨ i = 216 ∨ i = 217 ∨ i = 218 ∨ i = 219 by omega) with rfl | rfl | rfl | rfl | rfl | rfl | rfl | rfl | rfl | rfl | rfl | rfl | rfl | rfl | rfl | rfl | rfl | rfl | rfl | rfl
  · exact am_ci_200
  · exact am_ci_201
  · exact am_ci_202
  · exact am_ci_203
  · exact am_ci_204
  · exact am_ci_205
  · exact am_ci_206
  · exact am_ci_207
  · exact am_ci_208
  · exact am_ci_209
  · exact am_ci_210
  · exact am_ci_211
  · exact am_ci_212
  · exact am_ci_213
  · exact am_ci_214
  · exact am_ci_215
  · exact am_ci_216
  · exact am_ci_217
  · exact am_ci_218
  · exact am_ci_219
theorem am_cg_11 : ∀ i, 220 ≤ i → i < 227 → ∀ c, c < am_kk i → am_ckc i c = true := by
  intro i h1 h2
  rcases (show i = 220 ∨ i = 221 ∨ i = 222 ∨ i = 223 ∨ i = 224 ∨ i = 225 ∨ i = 226 by omega) with rfl | rfl | rfl | rfl | rfl | rfl | rfl
  · exact am_ci_220
  · exact am_ci_221
  · exact am_ci_222
  · exact am_ci_223
  · exact am_ci_224
  · exact am_ci_225
  · exact am_ci_226
theorem am_chkL : ∀ i, i < 227 → ∀ c, c < am_kk i → am_ckc i c = true := by
  intro i hi
  rcases Nat.lt_or_ge i 20 with h0 | h0
  · exact am_cg_0 i (by omega) h0
  rcases Nat.lt_or_ge i 40 with h1 | h1
  · exact am_cg_1 i (by omega) h1
  rcases Nat.lt_or_ge i 60 with h2 | h2
  · exact am_cg_2 i (by omega) h2
  rcases Nat.lt_or_ge i 80 with h3 | h3
  · exact am_cg_3 i (by omega) h3
  rcases Nat.lt_or_ge i 100 with h4 | h4
  · exact am_cg_4 i (by omega) h4
  rcases Nat.lt_or_ge i 120 with h5 | h5
  · exact am_cg_5 i (by omega) h5
  rcases Nat.lt_or_ge i 140 with h6 | h6
  · exact am_cg_6 i (by omega) h6
  rcases Nat.lt_or_ge i 160 with h7 | h7
  · exact am_cg_7 i (by omega) h7
  rcases Nat.lt_or_ge i 180 with h8 | h8
  · exact am_cg_8 i (by omega) h8
  rcases Nat.lt_or_ge i 200 with h9 | h9
  · exact am_cg_9 i (by omega) h9
  rcases Nat.lt_or_ge i 220 with h10 | h10
  · exact am_cg_10 i (by omega) h10
  rcases Nat.lt_or_ge i 227 with h11 | h11
  · exact am_cg_11 i (by omega) h11
  omega
theorem am_allOk : ∀ (i pc : Nat) (e : am_I) (q : am_M), am_fetch i pc = some e → am_meth[i]? = some q → am_okB q pc e = true := by
  intro i pc e q h hq
  unfold am_fetch at h
  cases hc : am_code[i]? with
  | none => rw [hc] at h; cases h
  | some f =>
    cases hz : am_size[i]? with
    | none => rw [hc, hz] at h; cases h
    | some n =>
      rw [hc, hz] at h
      simp only at h
      by_cases hp : pc < n
      · rw [if_pos hp] at h
        have hl : i < 227 := (List.getElem?_eq_some_iff.mp hz).1
        have hcc : pc / 80 < am_kk i := by
          unfold am_kk
          rw [hz]
          show pc / 80 < (n + 79) / 80
          omega
        have hk := am_chkL i hl (pc / 80) hcc
        unfold am_ckc at hk
        rw [hq, hc, hz] at hk
        have := List.all_eq_true.mp hk pc (List.mem_range'_1.mpr ⟨by omega, by omega⟩)
        rw [if_pos hp, h] at this
        exact this
      · rw [if_neg hp] at h; cases h
