set_option maxRecDepth 20000 in
theorem mw_0 : g_mwk 0 = true := by decide +kernel
set_option maxRecDepth 20000 in
theorem mw_1 : g_mwk 1 = true := by decide +kernel
set_option maxRecDepth 20000 in
theorem mw_2 : g_mwk 2 = true := by decide +kernel
set_option maxRecDepth 20000 in
theorem mw_3 : g_mwk 3 = true := by decide +kernel
set_option maxRecDepth 20000 in
theorem mw_4 : g_mwk 4 = true := by decide +kernel
set_option maxRecDepth 20000 in
theorem mw_5 : g_mwk 5 = true := by decide +kernel
set_option maxRecDepth 20000 in
theorem mw_6 : g_mwk 6 = true := by decide +kernel
set_option maxRecDepth 20000 in
theorem mw_7 : g_mwk 7 = true := by decide +kernel
set_option maxRecDepth 20000 in
theorem mw_8 : g_mwk 8 = true := by decide +kernel
set_option maxRecDepth 20000 in
theorem mw_9 : g_mwk 9 = true := by decide +kernel
set_option maxRecDepth 20000 in
theorem mw_10 : g_mwk 10 = true := by decide +kernel
set_option maxRecDepth 20000 in
theorem mw_11 : g_mwk 11 = true := by decide +kernel
set_option maxRecDepth 20000 in
theorem mw_12 : g_mwk 12 = true := by decide +kernel
set_option maxRecDepth 20000 in
theorem mw_13 : g_mwk 13 = true := by decide +kernel
set_option maxRecDepth 20000 in
theorem mw_14 : g_mwk 14 = true := by decide +kernel
set_option maxRecDepth 20000 in
theorem mw_15 : g_mwk 15 = true := by decide +kernel
set_option maxRecDepth 20000 in
theorem mw_16 : g_mwk 16 = true := by decide +kernel
set_option maxRecDepth 20000 in
theorem mw_17 : g_mwk 17 = true := by decide +kernel
set_option maxRecDepth 20000 in
theorem mw_18 : g_mwk 18 = true := by decide +kernel
set_option maxRecDepth 20000 in
theorem mw_19 : g_mwk 19 = true := by decide +kernel
set_option maxRecDepth 20000 in
theorem mw_20 : g_mwk 20 = true := by decide +kernel
set_option maxRecDepth 20000 in
theorem mw_21 : g_mwk 21 = true := by decide +kernel
set_option maxRecDepth 20000 in
theorem mw_22 : g_mwk 22 = true := by decide +kernel
set_option maxRecDepth 20000 in
theorem mw_23 : g_mwk 23 = true := by decide +kernel
set_option maxRecDepth 20000 in
theorem mw_24 : g_mwk 24 = true := by decide +kernel
set_option maxRecDepth 20000 in
theorem mw_25 : g_mwk 25 = true := by decide +kernel
set_option maxRecDepth 20000 in
theorem mw_26 : g_mwk 26 = true := by decide +kernel
set_option maxRecDepth 20000 in
theorem mw_27 : g_mwk 27 = true := by decide +kernel
set_option maxRecDepth 20000 in
theorem mw_28 : g_mwk 28 = true := by decide +kernel
set_option maxRecDepth 20000 in
theorem mw_29 : g_mwk 29 = true := by decide +kernel
set_option maxRecDepth 20000 in
theorem mw_30 : g_mwk 30 = true := by decide +kernel
set_option maxRecDepth 20000 in
theorem mw_31 : g_mwk 31 = true := by decide +kernel
set_option maxRecDepth 20000 in
theorem mw_32 : g_mwk 32 = true := by decide +kernel
set_option maxRecDepth 20000 in
theorem mw_33 : g_mwk 33 = true := by decide +kernel
set_option maxRecDepth 20000 in
theorem mw_34 : g_mwk 34 = true := by decide +kernel
set_option maxRecDepth 20000 in
theorem mw_35 : g_mwk 35 = true := by decide +kernel
set_option maxRecDepth 20000 in
theorem mw_36 : g_mwk 36 = true := by decide +kernel
set_option maxRecDepth 20000 in
theorem mw_37 : g_mwk 37 = true := by decide +kernel
set_option maxRecDepth 20000 in
theorem mw_38 : g_mwk 38 = true := by decide +kernel
set_option maxRecDepth 20000 in
theorem mw_39 : g_mwk 39 = true := by decide +kernel
set_option maxRecDepth 20000 in
theorem mw_40 : g_mwk 40 = true := by decide +kernel
set_option maxRecDepth 20000 in
theorem mw_41 : g_mwk 41 = true := by decide +kernel
set_option maxRecDepth 20000 in
theorem mw_42 : g_mwk 42 = true := by decide +kernel
set_option maxRecDepth 20000 in
theorem mw_43 : g_mwk 43 = true := by decide +kernel
set_option maxRecDepth 20000 in
theorem mw_44 : g_mwk 44 = true := by decide +kernel
set_option maxRecDepth 20000 in
theorem mw_45 : g_mwk 45 = true := by decide +kernel
set_option maxRecDepth 20000 in
theorem mw_46 : g_mwk 46 = true := by decide +kernel
set_option maxRecDepth 20000 in
theorem mw_47 : g_mwk 47 = true := by decide +kernel
set_option maxRecDepth 20000 in
theorem mw_48 : g_mwk 48 = true := by decide +kernel
set_option maxRecDepth 20000 in
theorem mw_49 : g_mwk 49 = true := by decide +kernel
set_option maxRecDepth 20000 in
theorem mw_50 : g_mwk 50 = true := by decide +kernel
set_option maxRecDepth 20000 in
theorem mw_51 : g_mwk 51 = true := by decide +kernel
set_option maxRecDepth 20000 in
theorem mw_52 : g_mwk 52 = true := by decide +kernel
set_option maxRecDepth 20000 in
theorem mw_53 : g_mwk 53 = true := by decide +kernel
set_option maxRecDepth 20000 in
theorem mw_54 : g_mwk 54 = true := by decide +kernel
set_option maxRecDepth 20000 in
theorem mw_55 : g_mwk 55 = true := by decide +kernel
set_option maxRecDepth 20000 in
theorem mw_56 : g_mwk 56 = true := by decide +kernel
set_option maxRecDepth 20000 in
theorem mw_57 : g_mwk 57 = true := by decide +kernel
set_option maxRecDepth 20000 in
theorem mw_58 : g_mwk 58 = true := by decide +kernel
set_option maxRecDepth 20000 in
theorem mw_59 : g_mwk 59 = true := by decide +kernel
set_option maxRecDepth 20000 in
theorem mw_60 : g_mwk 60 = true := by decide +kernel
set_option maxRecDepth 20000 in
theorem mw_61 : g_mwk 61 = true := by decide +kernel
set_option maxRecDepth 20000 in
theorem mw_62 : g_mwk 62 = true := by decide +kernel
set_option maxRecDepth 20000 in
theorem mw_63 : g_mwk 63 = true := by decide +kernel
set_option maxRecDepth 20000 in
theorem mw_64 : g_mwk 64 = true := by decide +kernel
set_option maxRecDepth 20000 in
theorem mw_65 : g_mwk 65 = true := by decide +kernel
set_option maxRecDepth 20000 in
theorem mw_66 : g_mwk 66 = true := by decide +kernel
set_option maxRecDepth 20000 in
theorem mw_67 : g_mwk 67 = true := by decide +kernel
set_option maxRecDepth 20000 in
theorem mw_68 : g_mwk 68 = true := by decide +kernel
set_option maxRecDepth 20000 in
theorem mw_69 : g_mwk 69 = true := by decide +kernel
set_option maxRecDepth 20000 in
theorem mw_70 : g_mwk 70 = true := by decide +kernel
set_option maxRecDepth 20000 in
theorem mw_71 : g_mwk 71 = true := by decide +kernel
set_option maxRecDepth 20000 in
theorem mw_72 : g_mwk 72 = true := by decide +kernel
set_option maxRecDepth 20000 in
theorem mw_73 : g_mwk 73 = true := by decide +kernel
set_option maxRecDepth 20000 in
theorem mw_74 : g_mwk 74 = true := by decide +kernel
set_option maxRecDepth 20000 in
theorem mw_75 : g_mwk 75 = true := by decide +kernel
set_option maxRecDepth 20000 in
theorem mw_76 : g_mwk 76 = true := by decide +kernel
set_option maxRecDepth 20000 in
theorem mw_77 : g_mwk 77 = true := by decide +kernel
set_option maxRecDepth 20000 in
theorem mw_78 : g_mwk 78 = true := by decide +kernel
set_option maxRecDepth 20000 in
theorem mw_79 : g_mwk 79 = true := by decide +kernel
set_option maxRecDepth 20000 in
theorem mw_80 : g_mwk 80 = true := by decide +kernel
set_option maxRecDepth 20000 in
theorem mw_81 : g_mwk 81 = true := by decide +kernel
set_option maxRecDepth 20000 in
theorem mw_82 : g_mwk 82 = true := by decide +kernel
set_option maxRecDepth 20000 in
theorem mw_83 : g_mwk 83 = true := by decide +kernel
set_option maxRecDepth 20000 in
theorem mw_84 : g_mwk 84 = true := by decide +kernel
set_option maxRecDepth 20000 in
theorem mw_85 : g_mwk 85 = true := by decide +kernel
set_option maxRecDepth 20000 in
theorem mw_86 : g_mwk 86 = true := by decide +kernel
set_option maxRecDepth 20000 in
theorem mw_87 : g_mwk 87 = true := by decide +kernel
set_option maxRecDepth 20000 in
theorem mw_88 : g_mwk 88 = true := by decide +kernel
set_option maxRecDepth 20000 in
theorem mw_89 : g_mwk 89 = true := by decide +kernel
set_option maxRecDepth 20000 in
theorem mw_90 : g_mwk 90 = true := by decide +kernel
set_option maxRecDepth 20000 in
theorem mw_91 : g_mwk 91 = true := by decide +kernel
set_option maxRecDepth 20000 in
theorem mw_92 : g_mwk 92 = true := by decide +kernel
set_option maxRecDepth 20000 in
theorem mw_93 : g_mwk 93 = true := by decide +kernel
set_option maxRecDepth 20000 in
theorem mw_94 : g_mwk 94 = true := by decide +kernel
set_option maxRecDepth 20000 in
theorem mw_95 : g_mwk 95 = true := by decide +kernel
set_option maxRecDepth 20000 in
theorem mw_96 : g_mwk 96 = true := by decide +kernel
set_option maxRecDepth 20000 in
theorem mw_97 : g_mwk 97 = true := by decide +kernel
set_option maxRecDepth 20000 in
theorem mw_98 : g_mwk 98 = true := by decide +kernel
set_option maxRecDepth 20000 in
theorem mw_99 : g_mwk 99 = true := by decide +kernel
set_option maxRecDepth 20000 in
theorem mw_100 : g_mwk 100 = true := by decide +kernel
set_option maxRecDepth 20000 in
theorem mw_101 : g_mwk 101 = true := by decide +kernel
set_option maxRecDepth 20000 in
theorem mw_102 : g_mwk 102 = true := by decide +kernel
set_option maxRecDepth 20000 in
theorem mw_103 : g_mwk 103 = true := by decide +kernel
set_option maxRecDepth 20000 in
theorem mw_104 : g_mwk 104 = true := by decide +kernel
set_option maxRecDepth 20000 in
theorem mw_105 : g_mwk 105 = true := by decide +kernel
set_option maxRecDepth 20000 in
theorem mw_106 : g_mwk 106 = true := by decide +kernel
set_option maxRecDepth 20000 in
theorem mw_107 : g_mwk 107 = true := by decide +kernel
set_option maxRecDepth 20000 in
theorem mw_108 : g_mwk 108 = true := by decide +kernel
set_option maxRecDepth 20000 in
theorem mw_109 : g_mwk 109 = true := by decide +kernel
