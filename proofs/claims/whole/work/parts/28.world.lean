-- deps: 19.num 20.word 25.nword2
/-! the references and the shapes of all cells, by program -/
theorem ok_0 {n : Nat} (h : 138 ≤ n) : ai_ok n 0 11 := ⟨by decide, by omega, rfl⟩
theorem ok_1 {n : Nat} (h : 138 ≤ n) : ai_ok n 1 4 := ⟨by decide, by omega, rfl⟩
theorem ok_2 {n : Nat} (h : 138 ≤ n) : ai_ok n 2 53 := ⟨by decide, by omega, rfl⟩
theorem l_2 : ai_l 2 = 700 := rfl
theorem ok_3 {n : Nat} (h : 138 ≤ n) : ai_ok n 3 3 := ⟨by decide, by omega, rfl⟩
theorem ok_4 {n : Nat} (h : 138 ≤ n) : ai_ok n 4 50 := ⟨by decide, by omega, rfl⟩
theorem l_4 : ai_l 4 = 8 := rfl
theorem ok_5 {n : Nat} (h : 138 ≤ n) : ai_ok n 5 50 := ⟨by decide, by omega, rfl⟩
theorem l_5 : ai_l 5 = 3 := rfl
theorem ok_6 {n : Nat} (h : 138 ≤ n) : ai_ok n 6 50 := ⟨by decide, by omega, rfl⟩
theorem l_6 : ai_l 6 = 24 := rfl
theorem ok_7 {n : Nat} (h : 138 ≤ n) : ai_ok n 7 50 := ⟨by decide, by omega, rfl⟩
theorem l_7 : ai_l 7 = 24 := rfl
theorem ok_8 {n : Nat} (h : 138 ≤ n) : ai_ok n 8 3 := ⟨by decide, by omega, rfl⟩
theorem ok_9 {n : Nat} (h : 138 ≤ n) : ai_ok n 9 50 := ⟨by decide, by omega, rfl⟩
theorem l_9 : ai_l 9 = 8 := rfl
theorem ok_10 {n : Nat} (h : 138 ≤ n) : ai_ok n 10 50 := ⟨by decide, by omega, rfl⟩
theorem l_10 : ai_l 10 = 3 := rfl
theorem ok_11 {n : Nat} (h : 138 ≤ n) : ai_ok n 11 50 := ⟨by decide, by omega, rfl⟩
theorem l_11 : ai_l 11 = 24 := rfl
theorem ok_12 {n : Nat} (h : 138 ≤ n) : ai_ok n 12 50 := ⟨by decide, by omega, rfl⟩
theorem l_12 : ai_l 12 = 24 := rfl
theorem ok_13 {n : Nat} (h : 138 ≤ n) : ai_ok n 13 1 := ⟨by decide, by omega, rfl⟩
theorem ok_14 {n : Nat} (h : 138 ≤ n) : ai_ok n 14 50 := ⟨by decide, by omega, rfl⟩
theorem l_14 : ai_l 14 = 24 := rfl
theorem ok_15 {n : Nat} (h : 138 ≤ n) : ai_ok n 15 50 := ⟨by decide, by omega, rfl⟩
theorem l_15 : ai_l 15 = 24 := rfl
theorem ok_16 {n : Nat} (h : 138 ≤ n) : ai_ok n 16 1 := ⟨by decide, by omega, rfl⟩
theorem ok_17 {n : Nat} (h : 138 ≤ n) : ai_ok n 17 50 := ⟨by decide, by omega, rfl⟩
theorem l_17 : ai_l 17 = 24 := rfl
theorem ok_18 {n : Nat} (h : 138 ≤ n) : ai_ok n 18 50 := ⟨by decide, by omega, rfl⟩
theorem l_18 : ai_l 18 = 24 := rfl
theorem ok_19 {n : Nat} (h : 138 ≤ n) : ai_ok n 19 9 := ⟨by decide, by omega, rfl⟩
theorem ok_20 {n : Nat} (h : 138 ≤ n) : ai_ok n 20 50 := ⟨by decide, by omega, rfl⟩
theorem l_20 : ai_l 20 = 6 := rfl
theorem ok_21 {n : Nat} (h : 138 ≤ n) : ai_ok n 21 50 := ⟨by decide, by omega, rfl⟩
theorem l_21 : ai_l 21 = 36 := rfl
theorem ok_22 {n : Nat} (h : 138 ≤ n) : ai_ok n 22 50 := ⟨by decide, by omega, rfl⟩
theorem l_22 : ai_l 22 = 6 := rfl
theorem ok_23 {n : Nat} (h : 138 ≤ n) : ai_ok n 23 50 := ⟨by decide, by omega, rfl⟩
theorem l_23 : ai_l 23 = 6 := rfl
theorem ok_24 {n : Nat} (h : 138 ≤ n) : ai_ok n 24 50 := ⟨by decide, by omega, rfl⟩
theorem l_24 : ai_l 24 = 36 := rfl
theorem ok_25 {n : Nat} (h : 138 ≤ n) : ai_ok n 25 50 := ⟨by decide, by omega, rfl⟩
theorem l_25 : ai_l 25 = 6 := rfl
theorem ok_26 {n : Nat} (h : 138 ≤ n) : ai_ok n 26 50 := ⟨by decide, by omega, rfl⟩
theorem l_26 : ai_l 26 = 6 := rfl
theorem ok_27 {n : Nat} (h : 138 ≤ n) : ai_ok n 27 5 := ⟨by decide, by omega, rfl⟩
theorem ok_28 {n : Nat} (h : 138 ≤ n) : ai_ok n 28 50 := ⟨by decide, by omega, rfl⟩
theorem l_28 : ai_l 28 = 3280 := rfl
theorem ok_29 {n : Nat} (h : 138 ≤ n) : ai_ok n 29 50 := ⟨by decide, by omega, rfl⟩
theorem l_29 : ai_l 29 = 3280 := rfl
theorem ok_30 {n : Nat} (h : 138 ≤ n) : ai_ok n 30 50 := ⟨by decide, by omega, rfl⟩
theorem l_30 : ai_l 30 = 8192 := rfl
theorem ok_31 {n : Nat} (h : 138 ≤ n) : ai_ok n 31 50 := ⟨by decide, by omega, rfl⟩
theorem l_31 : ai_l 31 = 6 := rfl
theorem ok_32 {n : Nat} (h : 138 ≤ n) : ai_ok n 32 50 := ⟨by decide, by omega, rfl⟩
theorem l_32 : ai_l 32 = 3 := rfl
theorem ok_33 {n : Nat} (h : 138 ≤ n) : ai_ok n 33 50 := ⟨by decide, by omega, rfl⟩
theorem l_33 : ai_l 33 = 64 := rfl
theorem ok_34 {n : Nat} (h : 138 ≤ n) : ai_ok n 34 50 := ⟨by decide, by omega, rfl⟩
theorem l_34 : ai_l 34 = 64 := rfl
theorem ok_35 {n : Nat} (h : 138 ≤ n) : ai_ok n 35 6 := ⟨by decide, by omega, rfl⟩
theorem ok_36 {n : Nat} (h : 138 ≤ n) : ai_ok n 36 54 := ⟨by decide, by omega, rfl⟩
theorem l_36 : ai_l 36 = 8 := rfl
theorem ok_37 {n : Nat} (h : 138 ≤ n) : ai_ok n 37 50 := ⟨by decide, by omega, rfl⟩
theorem l_37 : ai_l 37 = 13650 := rfl
theorem ok_38 {n : Nat} (h : 138 ≤ n) : ai_ok n 38 50 := ⟨by decide, by omega, rfl⟩
theorem l_38 : ai_l 38 = 4550 := rfl
theorem ok_39 {n : Nat} (h : 138 ≤ n) : ai_ok n 39 50 := ⟨by decide, by omega, rfl⟩
theorem l_39 : ai_l 39 = 4550 := rfl
theorem ok_40 {n : Nat} (h : 138 ≤ n) : ai_ok n 40 50 := ⟨by decide, by omega, rfl⟩
theorem l_40 : ai_l 40 = 4550 := rfl
theorem ok_41 {n : Nat} (h : 138 ≤ n) : ai_ok n 41 50 := ⟨by decide, by omega, rfl⟩
theorem l_41 : ai_l 41 = 240 := rfl
theorem ok_42 {n : Nat} (h : 138 ≤ n) : ai_ok n 42 10 := ⟨by decide, by omega, rfl⟩
theorem ok_43 {n : Nat} (h : 138 ≤ n) : ai_ok n 43 50 := ⟨by decide, by omega, rfl⟩
theorem l_43 : ai_l 43 = 6 := rfl
theorem ok_44 {n : Nat} (h : 138 ≤ n) : ai_ok n 44 50 := ⟨by decide, by omega, rfl⟩
theorem l_44 : ai_l 44 = 6 := rfl
theorem ok_45 {n : Nat} (h : 138 ≤ n) : ai_ok n 45 50 := ⟨by decide, by omega, rfl⟩
theorem l_45 : ai_l 45 = 4550 := rfl
theorem ok_46 {n : Nat} (h : 138 ≤ n) : ai_ok n 46 8 := ⟨by decide, by omega, rfl⟩
theorem ok_47 {n : Nat} (h : 138 ≤ n) : ai_ok n 47 50 := ⟨by decide, by omega, rfl⟩
theorem l_47 : ai_l 47 = 494 := rfl
theorem ok_48 {n : Nat} (h : 138 ≤ n) : ai_ok n 48 50 := ⟨by decide, by omega, rfl⟩
theorem l_48 : ai_l 48 = 494 := rfl
theorem ok_49 {n : Nat} (h : 138 ≤ n) : ai_ok n 49 50 := ⟨by decide, by omega, rfl⟩
theorem l_49 : ai_l 49 = 494 := rfl
theorem ok_50 {n : Nat} (h : 138 ≤ n) : ai_ok n 50 50 := ⟨by decide, by omega, rfl⟩
theorem l_50 : ai_l 50 = 95 := rfl
theorem ok_51 {n : Nat} (h : 138 ≤ n) : ai_ok n 51 50 := ⟨by decide, by omega, rfl⟩
theorem l_51 : ai_l 51 = 95 := rfl
theorem ok_52 {n : Nat} (h : 138 ≤ n) : ai_ok n 52 50 := ⟨by decide, by omega, rfl⟩
theorem l_52 : ai_l 52 = 95 := rfl
theorem ok_53 {n : Nat} (h : 138 ≤ n) : ai_ok n 53 8 := ⟨by decide, by omega, rfl⟩
theorem ok_54 {n : Nat} (h : 138 ≤ n) : ai_ok n 54 50 := ⟨by decide, by omega, rfl⟩
theorem l_54 : ai_l 54 = 494 := rfl
theorem ok_55 {n : Nat} (h : 138 ≤ n) : ai_ok n 55 50 := ⟨by decide, by omega, rfl⟩
theorem l_55 : ai_l 55 = 494 := rfl
theorem ok_56 {n : Nat} (h : 138 ≤ n) : ai_ok n 56 50 := ⟨by decide, by omega, rfl⟩
theorem l_56 : ai_l 56 = 494 := rfl
theorem ok_57 {n : Nat} (h : 138 ≤ n) : ai_ok n 57 50 := ⟨by decide, by omega, rfl⟩
theorem l_57 : ai_l 57 = 95 := rfl
theorem ok_58 {n : Nat} (h : 138 ≤ n) : ai_ok n 58 50 := ⟨by decide, by omega, rfl⟩
theorem l_58 : ai_l 58 = 95 := rfl
theorem ok_59 {n : Nat} (h : 138 ≤ n) : ai_ok n 59 50 := ⟨by decide, by omega, rfl⟩
theorem l_59 : ai_l 59 = 95 := rfl
theorem ok_60 {n : Nat} (h : 138 ≤ n) : ai_ok n 60 8 := ⟨by decide, by omega, rfl⟩
theorem ok_61 {n : Nat} (h : 138 ≤ n) : ai_ok n 61 50 := ⟨by decide, by omega, rfl⟩
theorem l_61 : ai_l 61 = 1508 := rfl
theorem ok_62 {n : Nat} (h : 138 ≤ n) : ai_ok n 62 50 := ⟨by decide, by omega, rfl⟩
theorem l_62 : ai_l 62 = 1508 := rfl
theorem ok_63 {n : Nat} (h : 138 ≤ n) : ai_ok n 63 50 := ⟨by decide, by omega, rfl⟩
theorem l_63 : ai_l 63 = 1508 := rfl
theorem ok_64 {n : Nat} (h : 138 ≤ n) : ai_ok n 64 50 := ⟨by decide, by omega, rfl⟩
theorem l_64 : ai_l 64 = 290 := rfl
theorem ok_65 {n : Nat} (h : 138 ≤ n) : ai_ok n 65 50 := ⟨by decide, by omega, rfl⟩
theorem l_65 : ai_l 65 = 290 := rfl
theorem ok_66 {n : Nat} (h : 138 ≤ n) : ai_ok n 66 50 := ⟨by decide, by omega, rfl⟩
theorem l_66 : ai_l 66 = 290 := rfl
theorem ok_67 {n : Nat} (h : 138 ≤ n) : ai_ok n 67 8 := ⟨by decide, by omega, rfl⟩
theorem ok_68 {n : Nat} (h : 138 ≤ n) : ai_ok n 68 50 := ⟨by decide, by omega, rfl⟩
theorem l_68 : ai_l 68 = 1508 := rfl
theorem ok_69 {n : Nat} (h : 138 ≤ n) : ai_ok n 69 50 := ⟨by decide, by omega, rfl⟩
theorem l_69 : ai_l 69 = 1508 := rfl
theorem ok_70 {n : Nat} (h : 138 ≤ n) : ai_ok n 70 50 := ⟨by decide, by omega, rfl⟩
theorem l_70 : ai_l 70 = 1508 := rfl
theorem ok_71 {n : Nat} (h : 138 ≤ n) : ai_ok n 71 50 := ⟨by decide, by omega, rfl⟩
theorem l_71 : ai_l 71 = 290 := rfl
theorem ok_72 {n : Nat} (h : 138 ≤ n) : ai_ok n 72 50 := ⟨by decide, by omega, rfl⟩
theorem l_72 : ai_l 72 = 290 := rfl
theorem ok_73 {n : Nat} (h : 138 ≤ n) : ai_ok n 73 50 := ⟨by decide, by omega, rfl⟩
theorem l_73 : ai_l 73 = 290 := rfl
theorem ok_74 {n : Nat} (h : 138 ≤ n) : ai_ok n 74 8 := ⟨by decide, by omega, rfl⟩
theorem ok_75 {n : Nat} (h : 138 ≤ n) : ai_ok n 75 50 := ⟨by decide, by omega, rfl⟩
theorem l_75 : ai_l 75 = 4550 := rfl
theorem ok_76 {n : Nat} (h : 138 ≤ n) : ai_ok n 76 50 := ⟨by decide, by omega, rfl⟩
theorem l_76 : ai_l 76 = 4550 := rfl
theorem ok_77 {n : Nat} (h : 138 ≤ n) : ai_ok n 77 50 := ⟨by decide, by omega, rfl⟩
theorem l_77 : ai_l 77 = 4550 := rfl
theorem ok_78 {n : Nat} (h : 138 ≤ n) : ai_ok n 78 50 := ⟨by decide, by omega, rfl⟩
theorem l_78 : ai_l 78 = 875 := rfl
theorem ok_79 {n : Nat} (h : 138 ≤ n) : ai_ok n 79 50 := ⟨by decide, by omega, rfl⟩
theorem l_79 : ai_l 79 = 875 := rfl
theorem ok_80 {n : Nat} (h : 138 ≤ n) : ai_ok n 80 50 := ⟨by decide, by omega, rfl⟩
theorem l_80 : ai_l 80 = 875 := rfl
theorem ok_81 {n : Nat} (h : 138 ≤ n) : ai_ok n 81 8 := ⟨by decide, by omega, rfl⟩
theorem ok_82 {n : Nat} (h : 138 ≤ n) : ai_ok n 82 50 := ⟨by decide, by omega, rfl⟩
theorem l_82 : ai_l 82 = 4550 := rfl
theorem ok_83 {n : Nat} (h : 138 ≤ n) : ai_ok n 83 50 := ⟨by decide, by omega, rfl⟩
theorem l_83 : ai_l 83 = 4550 := rfl
theorem ok_84 {n : Nat} (h : 138 ≤ n) : ai_ok n 84 50 := ⟨by decide, by omega, rfl⟩
theorem l_84 : ai_l 84 = 4550 := rfl
theorem ok_85 {n : Nat} (h : 138 ≤ n) : ai_ok n 85 50 := ⟨by decide, by omega, rfl⟩
theorem l_85 : ai_l 85 = 875 := rfl
theorem ok_86 {n : Nat} (h : 138 ≤ n) : ai_ok n 86 50 := ⟨by decide, by omega, rfl⟩
theorem l_86 : ai_l 86 = 875 := rfl
theorem ok_87 {n : Nat} (h : 138 ≤ n) : ai_ok n 87 50 := ⟨by decide, by omega, rfl⟩
theorem l_87 : ai_l 87 = 875 := rfl
theorem ok_88 {n : Nat} (h : 138 ≤ n) : ai_ok n 88 8 := ⟨by decide, by omega, rfl⟩
theorem ok_89 {n : Nat} (h : 138 ≤ n) : ai_ok n 89 50 := ⟨by decide, by omega, rfl⟩
theorem l_89 : ai_l 89 = 253 := rfl
theorem ok_90 {n : Nat} (h : 138 ≤ n) : ai_ok n 90 50 := ⟨by decide, by omega, rfl⟩
theorem l_90 : ai_l 90 = 253 := rfl
theorem ok_91 {n : Nat} (h : 138 ≤ n) : ai_ok n 91 50 := ⟨by decide, by omega, rfl⟩
theorem l_91 : ai_l 91 = 253 := rfl
theorem ok_92 {n : Nat} (h : 138 ≤ n) : ai_ok n 92 50 := ⟨by decide, by omega, rfl⟩
theorem l_92 : ai_l 92 = 1 := rfl
theorem ok_93 {n : Nat} (h : 138 ≤ n) : ai_ok n 93 50 := ⟨by decide, by omega, rfl⟩
theorem l_93 : ai_l 93 = 1 := rfl
theorem ok_94 {n : Nat} (h : 138 ≤ n) : ai_ok n 94 50 := ⟨by decide, by omega, rfl⟩
theorem l_94 : ai_l 94 = 1 := rfl
theorem ok_95 {n : Nat} (h : 138 ≤ n) : ai_ok n 95 8 := ⟨by decide, by omega, rfl⟩
theorem ok_96 {n : Nat} (h : 138 ≤ n) : ai_ok n 96 50 := ⟨by decide, by omega, rfl⟩
theorem l_96 : ai_l 96 = 253 := rfl
theorem ok_97 {n : Nat} (h : 138 ≤ n) : ai_ok n 97 50 := ⟨by decide, by omega, rfl⟩
theorem l_97 : ai_l 97 = 253 := rfl
theorem ok_98 {n : Nat} (h : 138 ≤ n) : ai_ok n 98 50 := ⟨by decide, by omega, rfl⟩
theorem l_98 : ai_l 98 = 253 := rfl
theorem ok_99 {n : Nat} (h : 138 ≤ n) : ai_ok n 99 50 := ⟨by decide, by omega, rfl⟩
theorem l_99 : ai_l 99 = 1 := rfl
theorem ok_100 {n : Nat} (h : 138 ≤ n) : ai_ok n 100 50 := ⟨by decide, by omega, rfl⟩
theorem l_100 : ai_l 100 = 1 := rfl
theorem ok_101 {n : Nat} (h : 138 ≤ n) : ai_ok n 101 50 := ⟨by decide, by omega, rfl⟩
theorem l_101 : ai_l 101 = 1 := rfl
theorem ok_102 {n : Nat} (h : 138 ≤ n) : ai_ok n 102 2 := ⟨by decide, by omega, rfl⟩
theorem ok_103 {n : Nat} (h : 138 ≤ n) : ai_ok n 103 1 := ⟨by decide, by omega, rfl⟩
theorem ok_104 {n : Nat} (h : 138 ≤ n) : ai_ok n 104 50 := ⟨by decide, by omega, rfl⟩
theorem l_104 : ai_l 104 = 24 := rfl
theorem ok_105 {n : Nat} (h : 138 ≤ n) : ai_ok n 105 50 := ⟨by decide, by omega, rfl⟩
theorem l_105 : ai_l 105 = 24 := rfl
theorem ok_106 {n : Nat} (h : 138 ≤ n) : ai_ok n 106 1 := ⟨by decide, by omega, rfl⟩
theorem ok_107 {n : Nat} (h : 138 ≤ n) : ai_ok n 107 50 := ⟨by decide, by omega, rfl⟩
theorem l_107 : ai_l 107 = 24 := rfl
theorem ok_108 {n : Nat} (h : 138 ≤ n) : ai_ok n 108 50 := ⟨by decide, by omega, rfl⟩
theorem l_108 : ai_l 108 = 24 := rfl
theorem ok_109 {n : Nat} (h : 138 ≤ n) : ai_ok n 109 50 := ⟨by decide, by omega, rfl⟩
theorem l_109 : ai_l 109 = 252 := rfl
theorem ok_110 {n : Nat} (h : 138 ≤ n) : ai_ok n 110 52 := ⟨by decide, by omega, rfl⟩
theorem l_110 : ai_l 110 = 252 := rfl
theorem ok_111 {n : Nat} (h : 138 ≤ n) : ai_ok n 111 50 := ⟨by decide, by omega, rfl⟩
theorem l_111 : ai_l 111 = 4 := rfl
theorem ok_112 {n : Nat} (h : 138 ≤ n) : ai_ok n 112 50 := ⟨by decide, by omega, rfl⟩
theorem l_112 : ai_l 112 = 4 := rfl
theorem ok_113 {n : Nat} (h : 138 ≤ n) : ai_ok n 113 50 := ⟨by decide, by omega, rfl⟩
theorem l_113 : ai_l 113 = 2 := rfl
theorem ok_114 {n : Nat} (h : 138 ≤ n) : ai_ok n 114 50 := ⟨by decide, by omega, rfl⟩
theorem l_114 : ai_l 114 = 4 := rfl
theorem ok_115 {n : Nat} (h : 138 ≤ n) : ai_ok n 115 50 := ⟨by decide, by omega, rfl⟩
theorem l_115 : ai_l 115 = 4 := rfl
theorem ok_116 {n : Nat} (h : 138 ≤ n) : ai_ok n 116 50 := ⟨by decide, by omega, rfl⟩
theorem l_116 : ai_l 116 = 7000 := rfl
theorem ok_117 {n : Nat} (h : 138 ≤ n) : ai_ok n 117 50 := ⟨by decide, by omega, rfl⟩
theorem l_117 : ai_l 117 = 8 := rfl
theorem ok_118 {n : Nat} (h : 138 ≤ n) : ai_ok n 118 0 := ⟨by decide, by omega, rfl⟩
theorem ok_119 {n : Nat} (h : 138 ≤ n) : ai_ok n 119 50 := ⟨by decide, by omega, rfl⟩
theorem l_119 : ai_l 119 = 20 := rfl
theorem ok_120 {n : Nat} (h : 138 ≤ n) : ai_ok n 120 51 := ⟨by decide, by omega, rfl⟩
theorem l_120 : ai_l 120 = 20 := rfl
theorem ok_121 {n : Nat} (h : 138 ≤ n) : ai_ok n 121 7 := ⟨by decide, by omega, rfl⟩
theorem ok_122 {n : Nat} (h : 138 ≤ n) : ai_ok n 122 1 := ⟨by decide, by omega, rfl⟩
theorem ok_123 {n : Nat} (h : 138 ≤ n) : ai_ok n 123 50 := ⟨by decide, by omega, rfl⟩
theorem l_123 : ai_l 123 = 24 := rfl
theorem ok_124 {n : Nat} (h : 138 ≤ n) : ai_ok n 124 50 := ⟨by decide, by omega, rfl⟩
theorem l_124 : ai_l 124 = 24 := rfl
theorem ok_125 {n : Nat} (h : 138 ≤ n) : ai_ok n 125 50 := ⟨by decide, by omega, rfl⟩
theorem l_125 : ai_l 125 = 253 := rfl
theorem ok_126 {n : Nat} (h : 138 ≤ n) : ai_ok n 126 50 := ⟨by decide, by omega, rfl⟩
theorem l_126 : ai_l 126 = 40 := rfl
theorem ok_127 {n : Nat} (h : 138 ≤ n) : ai_ok n 127 50 := ⟨by decide, by omega, rfl⟩
theorem l_127 : ai_l 127 = 16 := rfl
theorem ok_128 {n : Nat} (h : 138 ≤ n) : ai_ok n 128 50 := ⟨by decide, by omega, rfl⟩
theorem l_128 : ai_l 128 = 640 := rfl
theorem ok_129 {n : Nat} (h : 138 ≤ n) : ai_ok n 129 50 := ⟨by decide, by omega, rfl⟩
theorem l_129 : ai_l 129 = 640 := rfl
theorem ok_130 {n : Nat} (h : 138 ≤ n) : ai_ok n 130 50 := ⟨by decide, by omega, rfl⟩
theorem l_130 : ai_l 130 = 400 := rfl
theorem ok_131 {n : Nat} (h : 138 ≤ n) : ai_ok n 131 50 := ⟨by decide, by omega, rfl⟩
theorem l_131 : ai_l 131 = 400 := rfl
theorem ok_132 {n : Nat} (h : 138 ≤ n) : ai_ok n 132 50 := ⟨by decide, by omega, rfl⟩
theorem l_132 : ai_l 132 = 40 := rfl
theorem ok_133 {n : Nat} (h : 138 ≤ n) : ai_ok n 133 50 := ⟨by decide, by omega, rfl⟩
theorem l_133 : ai_l 133 = 480 := rfl
theorem ok_134 {n : Nat} (h : 138 ≤ n) : ai_ok n 134 50 := ⟨by decide, by omega, rfl⟩
theorem l_134 : ai_l 134 = 24 := rfl
theorem ok_135 {n : Nat} (h : 138 ≤ n) : ai_ok n 135 0 := ⟨by decide, by omega, rfl⟩
theorem ok_136 {n : Nat} (h : 138 ≤ n) : ai_ok n 136 50 := ⟨by decide, by omega, rfl⟩
theorem l_136 : ai_l 136 = 20 := rfl
theorem ok_137 {n : Nat} (h : 138 ≤ n) : ai_ok n 137 51 := ⟨by decide, by omega, rfl⟩
theorem l_137 : ai_l 137 = 20 := rfl
theorem ok_138 {n : Nat} (h : 181 ≤ n) : ai_ok n 138 12 := ⟨by decide, by omega, rfl⟩
theorem ok_139 {n : Nat} (h : 181 ≤ n) : ai_ok n 139 50 := ⟨by decide, by omega, rfl⟩
theorem l_139 : ai_l 139 = 700 := rfl
theorem ok_140 {n : Nat} (h : 181 ≤ n) : ai_ok n 140 50 := ⟨by decide, by omega, rfl⟩
theorem l_140 : ai_l 140 = 10 := rfl
theorem ok_141 {n : Nat} (h : 181 ≤ n) : ai_ok n 141 50 := ⟨by decide, by omega, rfl⟩
theorem l_141 : ai_l 141 = 16 := rfl
theorem ok_142 {n : Nat} (h : 181 ≤ n) : ai_ok n 142 50 := ⟨by decide, by omega, rfl⟩
theorem l_142 : ai_l 142 = 6 := rfl
theorem ok_143 {n : Nat} (h : 181 ≤ n) : ai_ok n 143 50 := ⟨by decide, by omega, rfl⟩
theorem l_143 : ai_l 143 = 36 := rfl
theorem ok_144 {n : Nat} (h : 181 ≤ n) : ai_ok n 144 50 := ⟨by decide, by omega, rfl⟩
theorem l_144 : ai_l 144 = 36 := rfl
theorem ok_145 {n : Nat} (h : 181 ≤ n) : ai_ok n 145 50 := ⟨by decide, by omega, rfl⟩
theorem l_145 : ai_l 145 = 48 := rfl
theorem ok_146 {n : Nat} (h : 181 ≤ n) : ai_ok n 146 50 := ⟨by decide, by omega, rfl⟩
theorem l_146 : ai_l 146 = 48 := rfl
theorem ok_147 {n : Nat} (h : 181 ≤ n) : ai_ok n 147 50 := ⟨by decide, by omega, rfl⟩
theorem l_147 : ai_l 147 = 96 := rfl
theorem ok_148 {n : Nat} (h : 181 ≤ n) : ai_ok n 148 50 := ⟨by decide, by omega, rfl⟩
theorem l_148 : ai_l 148 = 96 := rfl
theorem ok_149 {n : Nat} (h : 181 ≤ n) : ai_ok n 149 50 := ⟨by decide, by omega, rfl⟩
theorem l_149 : ai_l 149 = 6 := rfl
theorem ok_150 {n : Nat} (h : 181 ≤ n) : ai_ok n 150 50 := ⟨by decide, by omega, rfl⟩
theorem l_150 : ai_l 150 = 64 := rfl
theorem ok_151 {n : Nat} (h : 181 ≤ n) : ai_ok n 151 50 := ⟨by decide, by omega, rfl⟩
theorem l_151 : ai_l 151 = 64 := rfl
theorem ok_152 {n : Nat} (h : 181 ≤ n) : ai_ok n 152 52 := ⟨by decide, by omega, rfl⟩
theorem l_152 : ai_l 152 = 64 := rfl
theorem ok_153 {n : Nat} (h : 181 ≤ n) : ai_ok n 153 50 := ⟨by decide, by omega, rfl⟩
theorem l_153 : ai_l 153 = 36 := rfl
theorem ok_154 {n : Nat} (h : 181 ≤ n) : ai_ok n 154 50 := ⟨by decide, by omega, rfl⟩
theorem l_154 : ai_l 154 = 16 := rfl
theorem ok_155 {n : Nat} (h : 181 ≤ n) : ai_ok n 155 50 := ⟨by decide, by omega, rfl⟩
theorem l_155 : ai_l 155 = 6 := rfl
theorem ok_156 {n : Nat} (h : 181 ≤ n) : ai_ok n 156 50 := ⟨by decide, by omega, rfl⟩
theorem l_156 : ai_l 156 = 800 := rfl
theorem ok_157 {n : Nat} (h : 181 ≤ n) : ai_ok n 157 50 := ⟨by decide, by omega, rfl⟩
theorem l_157 : ai_l 157 = 2 := rfl
theorem ok_158 {n : Nat} (h : 181 ≤ n) : ai_ok n 158 52 := ⟨by decide, by omega, rfl⟩
theorem l_158 : ai_l 158 = 2 := rfl
theorem ok_159 {n : Nat} (h : 181 ≤ n) : ai_ok n 159 52 := ⟨by decide, by omega, rfl⟩
theorem l_159 : ai_l 159 = 18 := rfl
theorem ok_160 {n : Nat} (h : 181 ≤ n) : ai_ok n 160 50 := ⟨by decide, by omega, rfl⟩
theorem l_160 : ai_l 160 = 6 := rfl
theorem ok_161 {n : Nat} (h : 181 ≤ n) : ai_ok n 161 50 := ⟨by decide, by omega, rfl⟩
theorem l_161 : ai_l 161 = 7800 := rfl
theorem ok_162 {n : Nat} (h : 181 ≤ n) : ai_ok n 162 50 := ⟨by decide, by omega, rfl⟩
theorem l_162 : ai_l 162 = 6 := rfl
theorem ok_163 {n : Nat} (h : 181 ≤ n) : ai_ok n 163 52 := ⟨by decide, by omega, rfl⟩
theorem l_163 : ai_l 163 = 1300 := rfl
theorem ok_164 {n : Nat} (h : 181 ≤ n) : ai_ok n 164 50 := ⟨by decide, by omega, rfl⟩
theorem l_164 : ai_l 164 = 16 := rfl
theorem ok_165 {n : Nat} (h : 181 ≤ n) : ai_ok n 165 52 := ⟨by decide, by omega, rfl⟩
theorem l_165 : ai_l 165 = 4 := rfl
theorem ok_166 {n : Nat} (h : 181 ≤ n) : ai_ok n 166 50 := ⟨by decide, by omega, rfl⟩
theorem l_166 : ai_l 166 = 12 := rfl
theorem ok_167 {n : Nat} (h : 181 ≤ n) : ai_ok n 167 52 := ⟨by decide, by omega, rfl⟩
theorem l_167 : ai_l 167 = 4 := rfl
theorem ok_168 {n : Nat} (h : 181 ≤ n) : ai_ok n 168 50 := ⟨by decide, by omega, rfl⟩
theorem l_168 : ai_l 168 = 54 := rfl
theorem ok_169 {n : Nat} (h : 181 ≤ n) : ai_ok n 169 50 := ⟨by decide, by omega, rfl⟩
theorem l_169 : ai_l 169 = 9 := rfl
theorem ok_170 {n : Nat} (h : 181 ≤ n) : ai_ok n 170 50 := ⟨by decide, by omega, rfl⟩
theorem l_170 : ai_l 170 = 9 := rfl
theorem ok_171 {n : Nat} (h : 181 ≤ n) : ai_ok n 171 50 := ⟨by decide, by omega, rfl⟩
theorem l_171 : ai_l 171 = 3 := rfl
theorem ok_172 {n : Nat} (h : 181 ≤ n) : ai_ok n 172 52 := ⟨by decide, by omega, rfl⟩
theorem l_172 : ai_l 172 = 3 := rfl
theorem ok_173 {n : Nat} (h : 181 ≤ n) : ai_ok n 173 51 := ⟨by decide, by omega, rfl⟩
theorem l_173 : ai_l 173 = 5200 := rfl
theorem ok_174 {n : Nat} (h : 181 ≤ n) : ai_ok n 174 51 := ⟨by decide, by omega, rfl⟩
theorem l_174 : ai_l 174 = 4 := rfl
theorem ok_175 {n : Nat} (h : 181 ≤ n) : ai_ok n 175 50 := ⟨by decide, by omega, rfl⟩
theorem l_175 : ai_l 175 = 2 := rfl
theorem ok_176 {n : Nat} (h : 181 ≤ n) : ai_ok n 176 50 := ⟨by decide, by omega, rfl⟩
theorem l_176 : ai_l 176 = 40 := rfl
theorem ok_177 {n : Nat} (h : 181 ≤ n) : ai_ok n 177 51 := ⟨by decide, by omega, rfl⟩
theorem l_177 : ai_l 177 = 40 := rfl
theorem ok_178 {n : Nat} (h : 181 ≤ n) : ai_ok n 178 50 := ⟨by decide, by omega, rfl⟩
theorem l_178 : ai_l 178 = 253 := rfl
theorem ok_179 {n : Nat} (h : 181 ≤ n) : ai_ok n 179 51 := ⟨by decide, by omega, rfl⟩
theorem l_179 : ai_l 179 = 40 := rfl
theorem ok_180 {n : Nat} (h : 181 ≤ n) : ai_ok n 180 50 := ⟨by decide, by omega, rfl⟩
theorem l_180 : ai_l 180 = 1008 := rfl
def cw_tbl : List (Int × Int × Int) := [(0, 0, 1), (0, 1, 13), (0, 2, 16), (0, 3, 19), (0, 4, 27), (0, 5, 35), (0, 6, 102), (0, 7, 118), (0, 8, 121), (0, 9, 133), (0, 10, 134), (0, 11, 135), (1, 0, 2), (3, 0, 4), (3, 1, 5), (3, 2, 6), (3, 3, 7), (8, 0, 9), (8, 1, 10), (8, 2, 11), (8, 3, 12), (13, 0, 14), (13, 1, 15), (16, 0, 17), (16, 1, 18), (19, 0, 13), (19, 1, 20), (19, 2, 21), (19, 3, 22), (19, 4, 23), (19, 5, 24), (19, 6, 25), (19, 7, 26), (27, 0, 13), (27, 1, 19), (27, 2, 28), (27, 3, 29), (27, 4, 30), (27, 5, 31), (27, 6, 32), (27, 7, 33), (27, 8, 34), (35, 0, 13), (35, 1, 19), (35, 2, 42), (35, 3, 36), (35, 4, 37), (35, 5, 38), (35, 6, 39), (35, 7, 40), (35, 8, 41), (36, 0, 46), (36, 1, 60), (36, 2, 74), (36, 3, 53), (36, 4, 67), (36, 5, 81), (36, 6, 88), (36, 7, 95), (42, 0, 13), (42, 1, 27), (42, 2, 43), (42, 3, 44), (46, 0, 47), (46, 1, 48), (46, 2, 49), (46, 3, 50), (46, 4, 51), (46, 5, 52), (46, 6, 45), (53, 0, 54), (53, 1, 55), (53, 2, 56), (53, 3, 57), (53, 4, 58), (53, 5, 59), (53, 6, 45), (60, 0, 61), (60, 1, 62), (60, 2, 63), (60, 3, 64), (60, 4, 65), (60, 5, 66), (60, 6, 45), (67, 0, 68), (67, 1, 69), (67, 2, 70), (67, 3, 71), (67, 4, 72), (67, 5, 73), (67, 6, 45), (74, 0, 75), (74, 1, 76), (74, 2, 77), (74, 3, 78), (74, 4, 79), (74, 5, 80), (74, 6, 45), (81, 0, 82), (81, 1, 83), (81, 2, 84), (81, 3, 85), (81, 4, 86), (81, 5, 87), (81, 6, 45), (88, 0, 89), (88, 1, 90), (88, 2, 91), (88, 3, 92), (88, 4, 93), (88, 5, 94), (88, 6, 45), (95, 0, 96), (95, 1, 97), (95, 2, 98), (95, 3, 99), (95, 4, 100), (95, 5, 101), (95, 6, 45), (102, 0, 13), (102, 1, 19), (102, 2, 27), (102, 3, 103), (102, 4, 106), (102, 5, 109), (102, 6, 110), (102, 7, 111), (102, 8, 112), (102, 9, 113), (102, 10, 114), (102, 11, 115), (102, 12, 116), (102, 13, 117), (103, 0, 104), (103, 1, 105), (106, 0, 107), (106, 1, 108), (118, 0, 119), (118, 1, 120), (121, 0, 13), (121, 1, 102), (121, 2, 118), (121, 3, 122), (121, 4, 125), (121, 5, 126), (121, 6, 127), (121, 7, 128), (121, 8, 129), (121, 9, 130), (121, 10, 131), (121, 11, 132), (122, 0, 123), (122, 1, 124), (135, 0, 136), (135, 1, 137)]
def nw_tbl : List (Int × Int × Int) := [(138, 1, 139), (138, 3, 140), (138, 4, 141), (138, 5, 142), (138, 6, 143), (138, 7, 144), (138, 8, 145), (138, 9, 146), (138, 20, 147), (138, 21, 148), (138, 22, 149), (138, 24, 150), (138, 25, 151), (138, 26, 152), (138, 27, 153), (138, 28, 154), (138, 30, 155), (138, 32, 156), (138, 33, 157), (138, 34, 158), (138, 35, 159), (138, 36, 160), (138, 38, 161), (138, 39, 162), (138, 40, 163), (138, 47, 164), (138, 48, 165), (138, 49, 166), (138, 50, 167), (138, 51, 168), (138, 52, 169), (138, 53, 170), (138, 54, 171), (138, 55, 172), (138, 56, 173), (138, 57, 174), (138, 58, 175), (138, 59, 176), (138, 60, 177), (138, 62, 178), (138, 64, 179), (138, 66, 180)]
/-- the class's references stand (but told and draft) -/
def CW (n : Nat) (hr : HP) : Prop := 138 ≤ n ∧ ∀ q ∈ cw_tbl, hr q.1 q.2.1 = q.2.2
/-- the reference's -/
def NW (n : Nat) (hr : HP) : Prop := 181 ≤ n ∧ ∀ q ∈ nw_tbl, hr q.1 q.2.1 = q.2.2
theorem cr_0_0 {n : Nat} {hr : HP} (W : CW n hr) : hr 0 0 = 1 ∧ ai_ok n 1 4 := ⟨W.2 (0, 0, 1) (List.mem_of_getElem? (i := 0) rfl), ok_1 W.1⟩
theorem cr_0_1 {n : Nat} {hr : HP} (W : CW n hr) : hr 0 1 = 13 ∧ ai_ok n 13 1 := ⟨W.2 (0, 1, 13) (List.mem_of_getElem? (i := 1) rfl), ok_13 W.1⟩
theorem cr_0_2 {n : Nat} {hr : HP} (W : CW n hr) : hr 0 2 = 16 ∧ ai_ok n 16 1 := ⟨W.2 (0, 2, 16) (List.mem_of_getElem? (i := 2) rfl), ok_16 W.1⟩
theorem cr_0_3 {n : Nat} {hr : HP} (W : CW n hr) : hr 0 3 = 19 ∧ ai_ok n 19 9 := ⟨W.2 (0, 3, 19) (List.mem_of_getElem? (i := 3) rfl), ok_19 W.1⟩
theorem cr_0_4 {n : Nat} {hr : HP} (W : CW n hr) : hr 0 4 = 27 ∧ ai_ok n 27 5 := ⟨W.2 (0, 4, 27) (List.mem_of_getElem? (i := 4) rfl), ok_27 W.1⟩
theorem cr_0_5 {n : Nat} {hr : HP} (W : CW n hr) : hr 0 5 = 35 ∧ ai_ok n 35 6 := ⟨W.2 (0, 5, 35) (List.mem_of_getElem? (i := 5) rfl), ok_35 W.1⟩
theorem cr_0_6 {n : Nat} {hr : HP} (W : CW n hr) : hr 0 6 = 102 ∧ ai_ok n 102 2 := ⟨W.2 (0, 6, 102) (List.mem_of_getElem? (i := 6) rfl), ok_102 W.1⟩
theorem cr_0_7 {n : Nat} {hr : HP} (W : CW n hr) : hr 0 7 = 118 ∧ ai_ok n 118 0 := ⟨W.2 (0, 7, 118) (List.mem_of_getElem? (i := 7) rfl), ok_118 W.1⟩
theorem cr_0_8 {n : Nat} {hr : HP} (W : CW n hr) : hr 0 8 = 121 ∧ ai_ok n 121 7 := ⟨W.2 (0, 8, 121) (List.mem_of_getElem? (i := 8) rfl), ok_121 W.1⟩
theorem cr_0_9 {n : Nat} {hr : HP} (W : CW n hr) : hr 0 9 = 133 ∧ ai_ok n 133 50 ∧ ai_l 133 = 480 := ⟨W.2 (0, 9, 133) (List.mem_of_getElem? (i := 9) rfl), ok_133 W.1, rfl⟩
theorem cr_0_10 {n : Nat} {hr : HP} (W : CW n hr) : hr 0 10 = 134 ∧ ai_ok n 134 50 ∧ ai_l 134 = 24 := ⟨W.2 (0, 10, 134) (List.mem_of_getElem? (i := 10) rfl), ok_134 W.1, rfl⟩
theorem cr_0_11 {n : Nat} {hr : HP} (W : CW n hr) : hr 0 11 = 135 ∧ ai_ok n 135 0 := ⟨W.2 (0, 11, 135) (List.mem_of_getElem? (i := 11) rfl), ok_135 W.1⟩
theorem cr_1_0 {n : Nat} {hr : HP} (W : CW n hr) : hr 1 0 = 2 ∧ ai_ok n 2 53 ∧ ai_l 2 = 700 := ⟨W.2 (1, 0, 2) (List.mem_of_getElem? (i := 12) rfl), ok_2 W.1, rfl⟩
theorem cr_3_0 {n : Nat} {hr : HP} (W : CW n hr) : hr 3 0 = 4 ∧ ai_ok n 4 50 ∧ ai_l 4 = 8 := ⟨W.2 (3, 0, 4) (List.mem_of_getElem? (i := 13) rfl), ok_4 W.1, rfl⟩
theorem cr_3_1 {n : Nat} {hr : HP} (W : CW n hr) : hr 3 1 = 5 ∧ ai_ok n 5 50 ∧ ai_l 5 = 3 := ⟨W.2 (3, 1, 5) (List.mem_of_getElem? (i := 14) rfl), ok_5 W.1, rfl⟩
theorem cr_3_2 {n : Nat} {hr : HP} (W : CW n hr) : hr 3 2 = 6 ∧ ai_ok n 6 50 ∧ ai_l 6 = 24 := ⟨W.2 (3, 2, 6) (List.mem_of_getElem? (i := 15) rfl), ok_6 W.1, rfl⟩
theorem cr_3_3 {n : Nat} {hr : HP} (W : CW n hr) : hr 3 3 = 7 ∧ ai_ok n 7 50 ∧ ai_l 7 = 24 := ⟨W.2 (3, 3, 7) (List.mem_of_getElem? (i := 16) rfl), ok_7 W.1, rfl⟩
theorem cr_8_0 {n : Nat} {hr : HP} (W : CW n hr) : hr 8 0 = 9 ∧ ai_ok n 9 50 ∧ ai_l 9 = 8 := ⟨W.2 (8, 0, 9) (List.mem_of_getElem? (i := 17) rfl), ok_9 W.1, rfl⟩
theorem cr_8_1 {n : Nat} {hr : HP} (W : CW n hr) : hr 8 1 = 10 ∧ ai_ok n 10 50 ∧ ai_l 10 = 3 := ⟨W.2 (8, 1, 10) (List.mem_of_getElem? (i := 18) rfl), ok_10 W.1, rfl⟩
theorem cr_8_2 {n : Nat} {hr : HP} (W : CW n hr) : hr 8 2 = 11 ∧ ai_ok n 11 50 ∧ ai_l 11 = 24 := ⟨W.2 (8, 2, 11) (List.mem_of_getElem? (i := 19) rfl), ok_11 W.1, rfl⟩
theorem cr_8_3 {n : Nat} {hr : HP} (W : CW n hr) : hr 8 3 = 12 ∧ ai_ok n 12 50 ∧ ai_l 12 = 24 := ⟨W.2 (8, 3, 12) (List.mem_of_getElem? (i := 20) rfl), ok_12 W.1, rfl⟩
theorem cr_13_0 {n : Nat} {hr : HP} (W : CW n hr) : hr 13 0 = 14 ∧ ai_ok n 14 50 ∧ ai_l 14 = 24 := ⟨W.2 (13, 0, 14) (List.mem_of_getElem? (i := 21) rfl), ok_14 W.1, rfl⟩
theorem cr_13_1 {n : Nat} {hr : HP} (W : CW n hr) : hr 13 1 = 15 ∧ ai_ok n 15 50 ∧ ai_l 15 = 24 := ⟨W.2 (13, 1, 15) (List.mem_of_getElem? (i := 22) rfl), ok_15 W.1, rfl⟩
theorem cr_16_0 {n : Nat} {hr : HP} (W : CW n hr) : hr 16 0 = 17 ∧ ai_ok n 17 50 ∧ ai_l 17 = 24 := ⟨W.2 (16, 0, 17) (List.mem_of_getElem? (i := 23) rfl), ok_17 W.1, rfl⟩
theorem cr_16_1 {n : Nat} {hr : HP} (W : CW n hr) : hr 16 1 = 18 ∧ ai_ok n 18 50 ∧ ai_l 18 = 24 := ⟨W.2 (16, 1, 18) (List.mem_of_getElem? (i := 24) rfl), ok_18 W.1, rfl⟩
theorem cr_19_0 {n : Nat} {hr : HP} (W : CW n hr) : hr 19 0 = 13 ∧ ai_ok n 13 1 := ⟨W.2 (19, 0, 13) (List.mem_of_getElem? (i := 25) rfl), ok_13 W.1⟩
theorem cr_19_1 {n : Nat} {hr : HP} (W : CW n hr) : hr 19 1 = 20 ∧ ai_ok n 20 50 ∧ ai_l 20 = 6 := ⟨W.2 (19, 1, 20) (List.mem_of_getElem? (i := 26) rfl), ok_20 W.1, rfl⟩
theorem cr_19_2 {n : Nat} {hr : HP} (W : CW n hr) : hr 19 2 = 21 ∧ ai_ok n 21 50 ∧ ai_l 21 = 36 := ⟨W.2 (19, 2, 21) (List.mem_of_getElem? (i := 27) rfl), ok_21 W.1, rfl⟩
theorem cr_19_3 {n : Nat} {hr : HP} (W : CW n hr) : hr 19 3 = 22 ∧ ai_ok n 22 50 ∧ ai_l 22 = 6 := ⟨W.2 (19, 3, 22) (List.mem_of_getElem? (i := 28) rfl), ok_22 W.1, rfl⟩
theorem cr_19_4 {n : Nat} {hr : HP} (W : CW n hr) : hr 19 4 = 23 ∧ ai_ok n 23 50 ∧ ai_l 23 = 6 := ⟨W.2 (19, 4, 23) (List.mem_of_getElem? (i := 29) rfl), ok_23 W.1, rfl⟩
theorem cr_19_5 {n : Nat} {hr : HP} (W : CW n hr) : hr 19 5 = 24 ∧ ai_ok n 24 50 ∧ ai_l 24 = 36 := ⟨W.2 (19, 5, 24) (List.mem_of_getElem? (i := 30) rfl), ok_24 W.1, rfl⟩
theorem cr_19_6 {n : Nat} {hr : HP} (W : CW n hr) : hr 19 6 = 25 ∧ ai_ok n 25 50 ∧ ai_l 25 = 6 := ⟨W.2 (19, 6, 25) (List.mem_of_getElem? (i := 31) rfl), ok_25 W.1, rfl⟩
theorem cr_19_7 {n : Nat} {hr : HP} (W : CW n hr) : hr 19 7 = 26 ∧ ai_ok n 26 50 ∧ ai_l 26 = 6 := ⟨W.2 (19, 7, 26) (List.mem_of_getElem? (i := 32) rfl), ok_26 W.1, rfl⟩
theorem cr_27_0 {n : Nat} {hr : HP} (W : CW n hr) : hr 27 0 = 13 ∧ ai_ok n 13 1 := ⟨W.2 (27, 0, 13) (List.mem_of_getElem? (i := 33) rfl), ok_13 W.1⟩
theorem cr_27_1 {n : Nat} {hr : HP} (W : CW n hr) : hr 27 1 = 19 ∧ ai_ok n 19 9 := ⟨W.2 (27, 1, 19) (List.mem_of_getElem? (i := 34) rfl), ok_19 W.1⟩
theorem cr_27_2 {n : Nat} {hr : HP} (W : CW n hr) : hr 27 2 = 28 ∧ ai_ok n 28 50 ∧ ai_l 28 = 3280 := ⟨W.2 (27, 2, 28) (List.mem_of_getElem? (i := 35) rfl), ok_28 W.1, rfl⟩
theorem cr_27_3 {n : Nat} {hr : HP} (W : CW n hr) : hr 27 3 = 29 ∧ ai_ok n 29 50 ∧ ai_l 29 = 3280 := ⟨W.2 (27, 3, 29) (List.mem_of_getElem? (i := 36) rfl), ok_29 W.1, rfl⟩
theorem cr_27_4 {n : Nat} {hr : HP} (W : CW n hr) : hr 27 4 = 30 ∧ ai_ok n 30 50 ∧ ai_l 30 = 8192 := ⟨W.2 (27, 4, 30) (List.mem_of_getElem? (i := 37) rfl), ok_30 W.1, rfl⟩
theorem cr_27_5 {n : Nat} {hr : HP} (W : CW n hr) : hr 27 5 = 31 ∧ ai_ok n 31 50 ∧ ai_l 31 = 6 := ⟨W.2 (27, 5, 31) (List.mem_of_getElem? (i := 38) rfl), ok_31 W.1, rfl⟩
theorem cr_27_6 {n : Nat} {hr : HP} (W : CW n hr) : hr 27 6 = 32 ∧ ai_ok n 32 50 ∧ ai_l 32 = 3 := ⟨W.2 (27, 6, 32) (List.mem_of_getElem? (i := 39) rfl), ok_32 W.1, rfl⟩
theorem cr_27_7 {n : Nat} {hr : HP} (W : CW n hr) : hr 27 7 = 33 ∧ ai_ok n 33 50 ∧ ai_l 33 = 64 := ⟨W.2 (27, 7, 33) (List.mem_of_getElem? (i := 40) rfl), ok_33 W.1, rfl⟩
theorem cr_27_8 {n : Nat} {hr : HP} (W : CW n hr) : hr 27 8 = 34 ∧ ai_ok n 34 50 ∧ ai_l 34 = 64 := ⟨W.2 (27, 8, 34) (List.mem_of_getElem? (i := 41) rfl), ok_34 W.1, rfl⟩
theorem cr_35_0 {n : Nat} {hr : HP} (W : CW n hr) : hr 35 0 = 13 ∧ ai_ok n 13 1 := ⟨W.2 (35, 0, 13) (List.mem_of_getElem? (i := 42) rfl), ok_13 W.1⟩
theorem cr_35_1 {n : Nat} {hr : HP} (W : CW n hr) : hr 35 1 = 19 ∧ ai_ok n 19 9 := ⟨W.2 (35, 1, 19) (List.mem_of_getElem? (i := 43) rfl), ok_19 W.1⟩
theorem cr_35_2 {n : Nat} {hr : HP} (W : CW n hr) : hr 35 2 = 42 ∧ ai_ok n 42 10 := ⟨W.2 (35, 2, 42) (List.mem_of_getElem? (i := 44) rfl), ok_42 W.1⟩
theorem cr_35_3 {n : Nat} {hr : HP} (W : CW n hr) : hr 35 3 = 36 ∧ ai_ok n 36 54 ∧ ai_l 36 = 8 := ⟨W.2 (35, 3, 36) (List.mem_of_getElem? (i := 45) rfl), ok_36 W.1, rfl⟩
theorem cr_35_4 {n : Nat} {hr : HP} (W : CW n hr) : hr 35 4 = 37 ∧ ai_ok n 37 50 ∧ ai_l 37 = 13650 := ⟨W.2 (35, 4, 37) (List.mem_of_getElem? (i := 46) rfl), ok_37 W.1, rfl⟩
theorem cr_35_5 {n : Nat} {hr : HP} (W : CW n hr) : hr 35 5 = 38 ∧ ai_ok n 38 50 ∧ ai_l 38 = 4550 := ⟨W.2 (35, 5, 38) (List.mem_of_getElem? (i := 47) rfl), ok_38 W.1, rfl⟩
theorem cr_35_6 {n : Nat} {hr : HP} (W : CW n hr) : hr 35 6 = 39 ∧ ai_ok n 39 50 ∧ ai_l 39 = 4550 := ⟨W.2 (35, 6, 39) (List.mem_of_getElem? (i := 48) rfl), ok_39 W.1, rfl⟩
theorem cr_35_7 {n : Nat} {hr : HP} (W : CW n hr) : hr 35 7 = 40 ∧ ai_ok n 40 50 ∧ ai_l 40 = 4550 := ⟨W.2 (35, 7, 40) (List.mem_of_getElem? (i := 49) rfl), ok_40 W.1, rfl⟩
theorem cr_35_8 {n : Nat} {hr : HP} (W : CW n hr) : hr 35 8 = 41 ∧ ai_ok n 41 50 ∧ ai_l 41 = 240 := ⟨W.2 (35, 8, 41) (List.mem_of_getElem? (i := 50) rfl), ok_41 W.1, rfl⟩
theorem cr_36_0 {n : Nat} {hr : HP} (W : CW n hr) : hr 36 0 = 46 ∧ ai_ok n 46 8 := ⟨W.2 (36, 0, 46) (List.mem_of_getElem? (i := 51) rfl), ok_46 W.1⟩
theorem cr_36_1 {n : Nat} {hr : HP} (W : CW n hr) : hr 36 1 = 60 ∧ ai_ok n 60 8 := ⟨W.2 (36, 1, 60) (List.mem_of_getElem? (i := 52) rfl), ok_60 W.1⟩
theorem cr_36_2 {n : Nat} {hr : HP} (W : CW n hr) : hr 36 2 = 74 ∧ ai_ok n 74 8 := ⟨W.2 (36, 2, 74) (List.mem_of_getElem? (i := 53) rfl), ok_74 W.1⟩
theorem cr_36_3 {n : Nat} {hr : HP} (W : CW n hr) : hr 36 3 = 53 ∧ ai_ok n 53 8 := ⟨W.2 (36, 3, 53) (List.mem_of_getElem? (i := 54) rfl), ok_53 W.1⟩
theorem cr_36_4 {n : Nat} {hr : HP} (W : CW n hr) : hr 36 4 = 67 ∧ ai_ok n 67 8 := ⟨W.2 (36, 4, 67) (List.mem_of_getElem? (i := 55) rfl), ok_67 W.1⟩
theorem cr_36_5 {n : Nat} {hr : HP} (W : CW n hr) : hr 36 5 = 81 ∧ ai_ok n 81 8 := ⟨W.2 (36, 5, 81) (List.mem_of_getElem? (i := 56) rfl), ok_81 W.1⟩
theorem cr_36_6 {n : Nat} {hr : HP} (W : CW n hr) : hr 36 6 = 88 ∧ ai_ok n 88 8 := ⟨W.2 (36, 6, 88) (List.mem_of_getElem? (i := 57) rfl), ok_88 W.1⟩
theorem cr_36_7 {n : Nat} {hr : HP} (W : CW n hr) : hr 36 7 = 95 ∧ ai_ok n 95 8 := ⟨W.2 (36, 7, 95) (List.mem_of_getElem? (i := 58) rfl), ok_95 W.1⟩
theorem cr_42_0 {n : Nat} {hr : HP} (W : CW n hr) : hr 42 0 = 13 ∧ ai_ok n 13 1 := ⟨W.2 (42, 0, 13) (List.mem_of_getElem? (i := 59) rfl), ok_13 W.1⟩
theorem cr_42_1 {n : Nat} {hr : HP} (W : CW n hr) : hr 42 1 = 27 ∧ ai_ok n 27 5 := ⟨W.2 (42, 1, 27) (List.mem_of_getElem? (i := 60) rfl), ok_27 W.1⟩
theorem cr_42_2 {n : Nat} {hr : HP} (W : CW n hr) : hr 42 2 = 43 ∧ ai_ok n 43 50 ∧ ai_l 43 = 6 := ⟨W.2 (42, 2, 43) (List.mem_of_getElem? (i := 61) rfl), ok_43 W.1, rfl⟩
theorem cr_42_3 {n : Nat} {hr : HP} (W : CW n hr) : hr 42 3 = 44 ∧ ai_ok n 44 50 ∧ ai_l 44 = 6 := ⟨W.2 (42, 3, 44) (List.mem_of_getElem? (i := 62) rfl), ok_44 W.1, rfl⟩
theorem cr_46_0 {n : Nat} {hr : HP} (W : CW n hr) : hr 46 0 = 47 ∧ ai_ok n 47 50 ∧ ai_l 47 = 494 := ⟨W.2 (46, 0, 47) (List.mem_of_getElem? (i := 63) rfl), ok_47 W.1, rfl⟩
theorem cr_46_1 {n : Nat} {hr : HP} (W : CW n hr) : hr 46 1 = 48 ∧ ai_ok n 48 50 ∧ ai_l 48 = 494 := ⟨W.2 (46, 1, 48) (List.mem_of_getElem? (i := 64) rfl), ok_48 W.1, rfl⟩
theorem cr_46_2 {n : Nat} {hr : HP} (W : CW n hr) : hr 46 2 = 49 ∧ ai_ok n 49 50 ∧ ai_l 49 = 494 := ⟨W.2 (46, 2, 49) (List.mem_of_getElem? (i := 65) rfl), ok_49 W.1, rfl⟩
theorem cr_46_3 {n : Nat} {hr : HP} (W : CW n hr) : hr 46 3 = 50 ∧ ai_ok n 50 50 ∧ ai_l 50 = 95 := ⟨W.2 (46, 3, 50) (List.mem_of_getElem? (i := 66) rfl), ok_50 W.1, rfl⟩
theorem cr_46_4 {n : Nat} {hr : HP} (W : CW n hr) : hr 46 4 = 51 ∧ ai_ok n 51 50 ∧ ai_l 51 = 95 := ⟨W.2 (46, 4, 51) (List.mem_of_getElem? (i := 67) rfl), ok_51 W.1, rfl⟩
theorem cr_46_5 {n : Nat} {hr : HP} (W : CW n hr) : hr 46 5 = 52 ∧ ai_ok n 52 50 ∧ ai_l 52 = 95 := ⟨W.2 (46, 5, 52) (List.mem_of_getElem? (i := 68) rfl), ok_52 W.1, rfl⟩
theorem cr_46_6 {n : Nat} {hr : HP} (W : CW n hr) : hr 46 6 = 45 ∧ ai_ok n 45 50 ∧ ai_l 45 = 4550 := ⟨W.2 (46, 6, 45) (List.mem_of_getElem? (i := 69) rfl), ok_45 W.1, rfl⟩
theorem cr_53_0 {n : Nat} {hr : HP} (W : CW n hr) : hr 53 0 = 54 ∧ ai_ok n 54 50 ∧ ai_l 54 = 494 := ⟨W.2 (53, 0, 54) (List.mem_of_getElem? (i := 70) rfl), ok_54 W.1, rfl⟩
theorem cr_53_1 {n : Nat} {hr : HP} (W : CW n hr) : hr 53 1 = 55 ∧ ai_ok n 55 50 ∧ ai_l 55 = 494 := ⟨W.2 (53, 1, 55) (List.mem_of_getElem? (i := 71) rfl), ok_55 W.1, rfl⟩
theorem cr_53_2 {n : Nat} {hr : HP} (W : CW n hr) : hr 53 2 = 56 ∧ ai_ok n 56 50 ∧ ai_l 56 = 494 := ⟨W.2 (53, 2, 56) (List.mem_of_getElem? (i := 72) rfl), ok_56 W.1, rfl⟩
theorem cr_53_3 {n : Nat} {hr : HP} (W : CW n hr) : hr 53 3 = 57 ∧ ai_ok n 57 50 ∧ ai_l 57 = 95 := ⟨W.2 (53, 3, 57) (List.mem_of_getElem? (i := 73) rfl), ok_57 W.1, rfl⟩
theorem cr_53_4 {n : Nat} {hr : HP} (W : CW n hr) : hr 53 4 = 58 ∧ ai_ok n 58 50 ∧ ai_l 58 = 95 := ⟨W.2 (53, 4, 58) (List.mem_of_getElem? (i := 74) rfl), ok_58 W.1, rfl⟩
theorem cr_53_5 {n : Nat} {hr : HP} (W : CW n hr) : hr 53 5 = 59 ∧ ai_ok n 59 50 ∧ ai_l 59 = 95 := ⟨W.2 (53, 5, 59) (List.mem_of_getElem? (i := 75) rfl), ok_59 W.1, rfl⟩
theorem cr_53_6 {n : Nat} {hr : HP} (W : CW n hr) : hr 53 6 = 45 ∧ ai_ok n 45 50 ∧ ai_l 45 = 4550 := ⟨W.2 (53, 6, 45) (List.mem_of_getElem? (i := 76) rfl), ok_45 W.1, rfl⟩
theorem cr_60_0 {n : Nat} {hr : HP} (W : CW n hr) : hr 60 0 = 61 ∧ ai_ok n 61 50 ∧ ai_l 61 = 1508 := ⟨W.2 (60, 0, 61) (List.mem_of_getElem? (i := 77) rfl), ok_61 W.1, rfl⟩
theorem cr_60_1 {n : Nat} {hr : HP} (W : CW n hr) : hr 60 1 = 62 ∧ ai_ok n 62 50 ∧ ai_l 62 = 1508 := ⟨W.2 (60, 1, 62) (List.mem_of_getElem? (i := 78) rfl), ok_62 W.1, rfl⟩
theorem cr_60_2 {n : Nat} {hr : HP} (W : CW n hr) : hr 60 2 = 63 ∧ ai_ok n 63 50 ∧ ai_l 63 = 1508 := ⟨W.2 (60, 2, 63) (List.mem_of_getElem? (i := 79) rfl), ok_63 W.1, rfl⟩
theorem cr_60_3 {n : Nat} {hr : HP} (W : CW n hr) : hr 60 3 = 64 ∧ ai_ok n 64 50 ∧ ai_l 64 = 290 := ⟨W.2 (60, 3, 64) (List.mem_of_getElem? (i := 80) rfl), ok_64 W.1, rfl⟩
theorem cr_60_4 {n : Nat} {hr : HP} (W : CW n hr) : hr 60 4 = 65 ∧ ai_ok n 65 50 ∧ ai_l 65 = 290 := ⟨W.2 (60, 4, 65) (List.mem_of_getElem? (i := 81) rfl), ok_65 W.1, rfl⟩
theorem cr_60_5 {n : Nat} {hr : HP} (W : CW n hr) : hr 60 5 = 66 ∧ ai_ok n 66 50 ∧ ai_l 66 = 290 := ⟨W.2 (60, 5, 66) (List.mem_of_getElem? (i := 82) rfl), ok_66 W.1, rfl⟩
theorem cr_60_6 {n : Nat} {hr : HP} (W : CW n hr) : hr 60 6 = 45 ∧ ai_ok n 45 50 ∧ ai_l 45 = 4550 := ⟨W.2 (60, 6, 45) (List.mem_of_getElem? (i := 83) rfl), ok_45 W.1, rfl⟩
theorem cr_67_0 {n : Nat} {hr : HP} (W : CW n hr) : hr 67 0 = 68 ∧ ai_ok n 68 50 ∧ ai_l 68 = 1508 := ⟨W.2 (67, 0, 68) (List.mem_of_getElem? (i := 84) rfl), ok_68 W.1, rfl⟩
theorem cr_67_1 {n : Nat} {hr : HP} (W : CW n hr) : hr 67 1 = 69 ∧ ai_ok n 69 50 ∧ ai_l 69 = 1508 := ⟨W.2 (67, 1, 69) (List.mem_of_getElem? (i := 85) rfl), ok_69 W.1, rfl⟩
theorem cr_67_2 {n : Nat} {hr : HP} (W : CW n hr) : hr 67 2 = 70 ∧ ai_ok n 70 50 ∧ ai_l 70 = 1508 := ⟨W.2 (67, 2, 70) (List.mem_of_getElem? (i := 86) rfl), ok_70 W.1, rfl⟩
theorem cr_67_3 {n : Nat} {hr : HP} (W : CW n hr) : hr 67 3 = 71 ∧ ai_ok n 71 50 ∧ ai_l 71 = 290 := ⟨W.2 (67, 3, 71) (List.mem_of_getElem? (i := 87) rfl), ok_71 W.1, rfl⟩
theorem cr_67_4 {n : Nat} {hr : HP} (W : CW n hr) : hr 67 4 = 72 ∧ ai_ok n 72 50 ∧ ai_l 72 = 290 := ⟨W.2 (67, 4, 72) (List.mem_of_getElem? (i := 88) rfl), ok_72 W.1, rfl⟩
theorem cr_67_5 {n : Nat} {hr : HP} (W : CW n hr) : hr 67 5 = 73 ∧ ai_ok n 73 50 ∧ ai_l 73 = 290 := ⟨W.2 (67, 5, 73) (List.mem_of_getElem? (i := 89) rfl), ok_73 W.1, rfl⟩
theorem cr_67_6 {n : Nat} {hr : HP} (W : CW n hr) : hr 67 6 = 45 ∧ ai_ok n 45 50 ∧ ai_l 45 = 4550 := ⟨W.2 (67, 6, 45) (List.mem_of_getElem? (i := 90) rfl), ok_45 W.1, rfl⟩
theorem cr_74_0 {n : Nat} {hr : HP} (W : CW n hr) : hr 74 0 = 75 ∧ ai_ok n 75 50 ∧ ai_l 75 = 4550 := ⟨W.2 (74, 0, 75) (List.mem_of_getElem? (i := 91) rfl), ok_75 W.1, rfl⟩
theorem cr_74_1 {n : Nat} {hr : HP} (W : CW n hr) : hr 74 1 = 76 ∧ ai_ok n 76 50 ∧ ai_l 76 = 4550 := ⟨W.2 (74, 1, 76) (List.mem_of_getElem? (i := 92) rfl), ok_76 W.1, rfl⟩
theorem cr_74_2 {n : Nat} {hr : HP} (W : CW n hr) : hr 74 2 = 77 ∧ ai_ok n 77 50 ∧ ai_l 77 = 4550 := ⟨W.2 (74, 2, 77) (List.mem_of_getElem? (i := 93) rfl), ok_77 W.1, rfl⟩
theorem cr_74_3 {n : Nat} {hr : HP} (W : CW n hr) : hr 74 3 = 78 ∧ ai_ok n 78 50 ∧ ai_l 78 = 875 := ⟨W.2 (74, 3, 78) (List.mem_of_getElem? (i := 94) rfl), ok_78 W.1, rfl⟩
theorem cr_74_4 {n : Nat} {hr : HP} (W : CW n hr) : hr 74 4 = 79 ∧ ai_ok n 79 50 ∧ ai_l 79 = 875 := ⟨W.2 (74, 4, 79) (List.mem_of_getElem? (i := 95) rfl), ok_79 W.1, rfl⟩
theorem cr_74_5 {n : Nat} {hr : HP} (W : CW n hr) : hr 74 5 = 80 ∧ ai_ok n 80 50 ∧ ai_l 80 = 875 := ⟨W.2 (74, 5, 80) (List.mem_of_getElem? (i := 96) rfl), ok_80 W.1, rfl⟩
theorem cr_74_6 {n : Nat} {hr : HP} (W : CW n hr) : hr 74 6 = 45 ∧ ai_ok n 45 50 ∧ ai_l 45 = 4550 := ⟨W.2 (74, 6, 45) (List.mem_of_getElem? (i := 97) rfl), ok_45 W.1, rfl⟩
theorem cr_81_0 {n : Nat} {hr : HP} (W : CW n hr) : hr 81 0 = 82 ∧ ai_ok n 82 50 ∧ ai_l 82 = 4550 := ⟨W.2 (81, 0, 82) (List.mem_of_getElem? (i := 98) rfl), ok_82 W.1, rfl⟩
theorem cr_81_1 {n : Nat} {hr : HP} (W : CW n hr) : hr 81 1 = 83 ∧ ai_ok n 83 50 ∧ ai_l 83 = 4550 := ⟨W.2 (81, 1, 83) (List.mem_of_getElem? (i := 99) rfl), ok_83 W.1, rfl⟩
theorem cr_81_2 {n : Nat} {hr : HP} (W : CW n hr) : hr 81 2 = 84 ∧ ai_ok n 84 50 ∧ ai_l 84 = 4550 := ⟨W.2 (81, 2, 84) (List.mem_of_getElem? (i := 100) rfl), ok_84 W.1, rfl⟩
theorem cr_81_3 {n : Nat} {hr : HP} (W : CW n hr) : hr 81 3 = 85 ∧ ai_ok n 85 50 ∧ ai_l 85 = 875 := ⟨W.2 (81, 3, 85) (List.mem_of_getElem? (i := 101) rfl), ok_85 W.1, rfl⟩
theorem cr_81_4 {n : Nat} {hr : HP} (W : CW n hr) : hr 81 4 = 86 ∧ ai_ok n 86 50 ∧ ai_l 86 = 875 := ⟨W.2 (81, 4, 86) (List.mem_of_getElem? (i := 102) rfl), ok_86 W.1, rfl⟩
theorem cr_81_5 {n : Nat} {hr : HP} (W : CW n hr) : hr 81 5 = 87 ∧ ai_ok n 87 50 ∧ ai_l 87 = 875 := ⟨W.2 (81, 5, 87) (List.mem_of_getElem? (i := 103) rfl), ok_87 W.1, rfl⟩
theorem cr_81_6 {n : Nat} {hr : HP} (W : CW n hr) : hr 81 6 = 45 ∧ ai_ok n 45 50 ∧ ai_l 45 = 4550 := ⟨W.2 (81, 6, 45) (List.mem_of_getElem? (i := 104) rfl), ok_45 W.1, rfl⟩
theorem cr_88_0 {n : Nat} {hr : HP} (W : CW n hr) : hr 88 0 = 89 ∧ ai_ok n 89 50 ∧ ai_l 89 = 253 := ⟨W.2 (88, 0, 89) (List.mem_of_getElem? (i := 105) rfl), ok_89 W.1, rfl⟩
theorem cr_88_1 {n : Nat} {hr : HP} (W : CW n hr) : hr 88 1 = 90 ∧ ai_ok n 90 50 ∧ ai_l 90 = 253 := ⟨W.2 (88, 1, 90) (List.mem_of_getElem? (i := 106) rfl), ok_90 W.1, rfl⟩
theorem cr_88_2 {n : Nat} {hr : HP} (W : CW n hr) : hr 88 2 = 91 ∧ ai_ok n 91 50 ∧ ai_l 91 = 253 := ⟨W.2 (88, 2, 91) (List.mem_of_getElem? (i := 107) rfl), ok_91 W.1, rfl⟩
theorem cr_88_3 {n : Nat} {hr : HP} (W : CW n hr) : hr 88 3 = 92 ∧ ai_ok n 92 50 ∧ ai_l 92 = 1 := ⟨W.2 (88, 3, 92) (List.mem_of_getElem? (i := 108) rfl), ok_92 W.1, rfl⟩
theorem cr_88_4 {n : Nat} {hr : HP} (W : CW n hr) : hr 88 4 = 93 ∧ ai_ok n 93 50 ∧ ai_l 93 = 1 := ⟨W.2 (88, 4, 93) (List.mem_of_getElem? (i := 109) rfl), ok_93 W.1, rfl⟩
theorem cr_88_5 {n : Nat} {hr : HP} (W : CW n hr) : hr 88 5 = 94 ∧ ai_ok n 94 50 ∧ ai_l 94 = 1 := ⟨W.2 (88, 5, 94) (List.mem_of_getElem? (i := 110) rfl), ok_94 W.1, rfl⟩
theorem cr_88_6 {n : Nat} {hr : HP} (W : CW n hr) : hr 88 6 = 45 ∧ ai_ok n 45 50 ∧ ai_l 45 = 4550 := ⟨W.2 (88, 6, 45) (List.mem_of_getElem? (i := 111) rfl), ok_45 W.1, rfl⟩
theorem cr_95_0 {n : Nat} {hr : HP} (W : CW n hr) : hr 95 0 = 96 ∧ ai_ok n 96 50 ∧ ai_l 96 = 253 := ⟨W.2 (95, 0, 96) (List.mem_of_getElem? (i := 112) rfl), ok_96 W.1, rfl⟩
theorem cr_95_1 {n : Nat} {hr : HP} (W : CW n hr) : hr 95 1 = 97 ∧ ai_ok n 97 50 ∧ ai_l 97 = 253 := ⟨W.2 (95, 1, 97) (List.mem_of_getElem? (i := 113) rfl), ok_97 W.1, rfl⟩
theorem cr_95_2 {n : Nat} {hr : HP} (W : CW n hr) : hr 95 2 = 98 ∧ ai_ok n 98 50 ∧ ai_l 98 = 253 := ⟨W.2 (95, 2, 98) (List.mem_of_getElem? (i := 114) rfl), ok_98 W.1, rfl⟩
theorem cr_95_3 {n : Nat} {hr : HP} (W : CW n hr) : hr 95 3 = 99 ∧ ai_ok n 99 50 ∧ ai_l 99 = 1 := ⟨W.2 (95, 3, 99) (List.mem_of_getElem? (i := 115) rfl), ok_99 W.1, rfl⟩
theorem cr_95_4 {n : Nat} {hr : HP} (W : CW n hr) : hr 95 4 = 100 ∧ ai_ok n 100 50 ∧ ai_l 100 = 1 := ⟨W.2 (95, 4, 100) (List.mem_of_getElem? (i := 116) rfl), ok_100 W.1, rfl⟩
theorem cr_95_5 {n : Nat} {hr : HP} (W : CW n hr) : hr 95 5 = 101 ∧ ai_ok n 101 50 ∧ ai_l 101 = 1 := ⟨W.2 (95, 5, 101) (List.mem_of_getElem? (i := 117) rfl), ok_101 W.1, rfl⟩
theorem cr_95_6 {n : Nat} {hr : HP} (W : CW n hr) : hr 95 6 = 45 ∧ ai_ok n 45 50 ∧ ai_l 45 = 4550 := ⟨W.2 (95, 6, 45) (List.mem_of_getElem? (i := 118) rfl), ok_45 W.1, rfl⟩
theorem cr_102_0 {n : Nat} {hr : HP} (W : CW n hr) : hr 102 0 = 13 ∧ ai_ok n 13 1 := ⟨W.2 (102, 0, 13) (List.mem_of_getElem? (i := 119) rfl), ok_13 W.1⟩
theorem cr_102_1 {n : Nat} {hr : HP} (W : CW n hr) : hr 102 1 = 19 ∧ ai_ok n 19 9 := ⟨W.2 (102, 1, 19) (List.mem_of_getElem? (i := 120) rfl), ok_19 W.1⟩
theorem cr_102_2 {n : Nat} {hr : HP} (W : CW n hr) : hr 102 2 = 27 ∧ ai_ok n 27 5 := ⟨W.2 (102, 2, 27) (List.mem_of_getElem? (i := 121) rfl), ok_27 W.1⟩
theorem cr_102_3 {n : Nat} {hr : HP} (W : CW n hr) : hr 102 3 = 103 ∧ ai_ok n 103 1 := ⟨W.2 (102, 3, 103) (List.mem_of_getElem? (i := 122) rfl), ok_103 W.1⟩
theorem cr_102_4 {n : Nat} {hr : HP} (W : CW n hr) : hr 102 4 = 106 ∧ ai_ok n 106 1 := ⟨W.2 (102, 4, 106) (List.mem_of_getElem? (i := 123) rfl), ok_106 W.1⟩
theorem cr_102_5 {n : Nat} {hr : HP} (W : CW n hr) : hr 102 5 = 109 ∧ ai_ok n 109 50 ∧ ai_l 109 = 252 := ⟨W.2 (102, 5, 109) (List.mem_of_getElem? (i := 124) rfl), ok_109 W.1, rfl⟩
theorem cr_102_6 {n : Nat} {hr : HP} (W : CW n hr) : hr 102 6 = 110 ∧ ai_ok n 110 52 ∧ ai_l 110 = 252 := ⟨W.2 (102, 6, 110) (List.mem_of_getElem? (i := 125) rfl), ok_110 W.1, rfl⟩
theorem cr_102_7 {n : Nat} {hr : HP} (W : CW n hr) : hr 102 7 = 111 ∧ ai_ok n 111 50 ∧ ai_l 111 = 4 := ⟨W.2 (102, 7, 111) (List.mem_of_getElem? (i := 126) rfl), ok_111 W.1, rfl⟩
theorem cr_102_8 {n : Nat} {hr : HP} (W : CW n hr) : hr 102 8 = 112 ∧ ai_ok n 112 50 ∧ ai_l 112 = 4 := ⟨W.2 (102, 8, 112) (List.mem_of_getElem? (i := 127) rfl), ok_112 W.1, rfl⟩
theorem cr_102_9 {n : Nat} {hr : HP} (W : CW n hr) : hr 102 9 = 113 ∧ ai_ok n 113 50 ∧ ai_l 113 = 2 := ⟨W.2 (102, 9, 113) (List.mem_of_getElem? (i := 128) rfl), ok_113 W.1, rfl⟩
theorem cr_102_10 {n : Nat} {hr : HP} (W : CW n hr) : hr 102 10 = 114 ∧ ai_ok n 114 50 ∧ ai_l 114 = 4 := ⟨W.2 (102, 10, 114) (List.mem_of_getElem? (i := 129) rfl), ok_114 W.1, rfl⟩
theorem cr_102_11 {n : Nat} {hr : HP} (W : CW n hr) : hr 102 11 = 115 ∧ ai_ok n 115 50 ∧ ai_l 115 = 4 := ⟨W.2 (102, 11, 115) (List.mem_of_getElem? (i := 130) rfl), ok_115 W.1, rfl⟩
theorem cr_102_12 {n : Nat} {hr : HP} (W : CW n hr) : hr 102 12 = 116 ∧ ai_ok n 116 50 ∧ ai_l 116 = 7000 := ⟨W.2 (102, 12, 116) (List.mem_of_getElem? (i := 131) rfl), ok_116 W.1, rfl⟩
theorem cr_102_13 {n : Nat} {hr : HP} (W : CW n hr) : hr 102 13 = 117 ∧ ai_ok n 117 50 ∧ ai_l 117 = 8 := ⟨W.2 (102, 13, 117) (List.mem_of_getElem? (i := 132) rfl), ok_117 W.1, rfl⟩
theorem cr_103_0 {n : Nat} {hr : HP} (W : CW n hr) : hr 103 0 = 104 ∧ ai_ok n 104 50 ∧ ai_l 104 = 24 := ⟨W.2 (103, 0, 104) (List.mem_of_getElem? (i := 133) rfl), ok_104 W.1, rfl⟩
theorem cr_103_1 {n : Nat} {hr : HP} (W : CW n hr) : hr 103 1 = 105 ∧ ai_ok n 105 50 ∧ ai_l 105 = 24 := ⟨W.2 (103, 1, 105) (List.mem_of_getElem? (i := 134) rfl), ok_105 W.1, rfl⟩
theorem cr_106_0 {n : Nat} {hr : HP} (W : CW n hr) : hr 106 0 = 107 ∧ ai_ok n 107 50 ∧ ai_l 107 = 24 := ⟨W.2 (106, 0, 107) (List.mem_of_getElem? (i := 135) rfl), ok_107 W.1, rfl⟩
theorem cr_106_1 {n : Nat} {hr : HP} (W : CW n hr) : hr 106 1 = 108 ∧ ai_ok n 108 50 ∧ ai_l 108 = 24 := ⟨W.2 (106, 1, 108) (List.mem_of_getElem? (i := 136) rfl), ok_108 W.1, rfl⟩
theorem cr_118_0 {n : Nat} {hr : HP} (W : CW n hr) : hr 118 0 = 119 ∧ ai_ok n 119 50 ∧ ai_l 119 = 20 := ⟨W.2 (118, 0, 119) (List.mem_of_getElem? (i := 137) rfl), ok_119 W.1, rfl⟩
theorem cr_118_1 {n : Nat} {hr : HP} (W : CW n hr) : hr 118 1 = 120 ∧ ai_ok n 120 51 ∧ ai_l 120 = 20 := ⟨W.2 (118, 1, 120) (List.mem_of_getElem? (i := 138) rfl), ok_120 W.1, rfl⟩
theorem cr_121_0 {n : Nat} {hr : HP} (W : CW n hr) : hr 121 0 = 13 ∧ ai_ok n 13 1 := ⟨W.2 (121, 0, 13) (List.mem_of_getElem? (i := 139) rfl), ok_13 W.1⟩
theorem cr_121_1 {n : Nat} {hr : HP} (W : CW n hr) : hr 121 1 = 102 ∧ ai_ok n 102 2 := ⟨W.2 (121, 1, 102) (List.mem_of_getElem? (i := 140) rfl), ok_102 W.1⟩
theorem cr_121_2 {n : Nat} {hr : HP} (W : CW n hr) : hr 121 2 = 118 ∧ ai_ok n 118 0 := ⟨W.2 (121, 2, 118) (List.mem_of_getElem? (i := 141) rfl), ok_118 W.1⟩
theorem cr_121_3 {n : Nat} {hr : HP} (W : CW n hr) : hr 121 3 = 122 ∧ ai_ok n 122 1 := ⟨W.2 (121, 3, 122) (List.mem_of_getElem? (i := 142) rfl), ok_122 W.1⟩
theorem cr_121_4 {n : Nat} {hr : HP} (W : CW n hr) : hr 121 4 = 125 ∧ ai_ok n 125 50 ∧ ai_l 125 = 253 := ⟨W.2 (121, 4, 125) (List.mem_of_getElem? (i := 143) rfl), ok_125 W.1, rfl⟩
theorem cr_121_5 {n : Nat} {hr : HP} (W : CW n hr) : hr 121 5 = 126 ∧ ai_ok n 126 50 ∧ ai_l 126 = 40 := ⟨W.2 (121, 5, 126) (List.mem_of_getElem? (i := 144) rfl), ok_126 W.1, rfl⟩
theorem cr_121_6 {n : Nat} {hr : HP} (W : CW n hr) : hr 121 6 = 127 ∧ ai_ok n 127 50 ∧ ai_l 127 = 16 := ⟨W.2 (121, 6, 127) (List.mem_of_getElem? (i := 145) rfl), ok_127 W.1, rfl⟩
theorem cr_121_7 {n : Nat} {hr : HP} (W : CW n hr) : hr 121 7 = 128 ∧ ai_ok n 128 50 ∧ ai_l 128 = 640 := ⟨W.2 (121, 7, 128) (List.mem_of_getElem? (i := 146) rfl), ok_128 W.1, rfl⟩
theorem cr_121_8 {n : Nat} {hr : HP} (W : CW n hr) : hr 121 8 = 129 ∧ ai_ok n 129 50 ∧ ai_l 129 = 640 := ⟨W.2 (121, 8, 129) (List.mem_of_getElem? (i := 147) rfl), ok_129 W.1, rfl⟩
theorem cr_121_9 {n : Nat} {hr : HP} (W : CW n hr) : hr 121 9 = 130 ∧ ai_ok n 130 50 ∧ ai_l 130 = 400 := ⟨W.2 (121, 9, 130) (List.mem_of_getElem? (i := 148) rfl), ok_130 W.1, rfl⟩
theorem cr_121_10 {n : Nat} {hr : HP} (W : CW n hr) : hr 121 10 = 131 ∧ ai_ok n 131 50 ∧ ai_l 131 = 400 := ⟨W.2 (121, 10, 131) (List.mem_of_getElem? (i := 149) rfl), ok_131 W.1, rfl⟩
theorem cr_121_11 {n : Nat} {hr : HP} (W : CW n hr) : hr 121 11 = 132 ∧ ai_ok n 132 50 ∧ ai_l 132 = 40 := ⟨W.2 (121, 11, 132) (List.mem_of_getElem? (i := 150) rfl), ok_132 W.1, rfl⟩
theorem cr_122_0 {n : Nat} {hr : HP} (W : CW n hr) : hr 122 0 = 123 ∧ ai_ok n 123 50 ∧ ai_l 123 = 24 := ⟨W.2 (122, 0, 123) (List.mem_of_getElem? (i := 151) rfl), ok_123 W.1, rfl⟩
theorem cr_122_1 {n : Nat} {hr : HP} (W : CW n hr) : hr 122 1 = 124 ∧ ai_ok n 124 50 ∧ ai_l 124 = 24 := ⟨W.2 (122, 1, 124) (List.mem_of_getElem? (i := 152) rfl), ok_124 W.1, rfl⟩
theorem cr_135_0 {n : Nat} {hr : HP} (W : CW n hr) : hr 135 0 = 136 ∧ ai_ok n 136 50 ∧ ai_l 136 = 20 := ⟨W.2 (135, 0, 136) (List.mem_of_getElem? (i := 153) rfl), ok_136 W.1, rfl⟩
theorem cr_135_1 {n : Nat} {hr : HP} (W : CW n hr) : hr 135 1 = 137 ∧ ai_ok n 137 51 ∧ ai_l 137 = 20 := ⟨W.2 (135, 1, 137) (List.mem_of_getElem? (i := 154) rfl), ok_137 W.1, rfl⟩
theorem nr_1 {n : Nat} {hr : HP} (W : NW n hr) : hr 138 1 = 139 ∧ ai_ok n 139 50 ∧ ai_l 139 = 700 := ⟨W.2 (138, 1, 139) (List.mem_of_getElem? (i := 0) rfl), ok_139 W.1, rfl⟩
theorem nr_3 {n : Nat} {hr : HP} (W : NW n hr) : hr 138 3 = 140 ∧ ai_ok n 140 50 ∧ ai_l 140 = 10 := ⟨W.2 (138, 3, 140) (List.mem_of_getElem? (i := 1) rfl), ok_140 W.1, rfl⟩
theorem nr_4 {n : Nat} {hr : HP} (W : NW n hr) : hr 138 4 = 141 ∧ ai_ok n 141 50 ∧ ai_l 141 = 16 := ⟨W.2 (138, 4, 141) (List.mem_of_getElem? (i := 2) rfl), ok_141 W.1, rfl⟩
theorem nr_5 {n : Nat} {hr : HP} (W : NW n hr) : hr 138 5 = 142 ∧ ai_ok n 142 50 ∧ ai_l 142 = 6 := ⟨W.2 (138, 5, 142) (List.mem_of_getElem? (i := 3) rfl), ok_142 W.1, rfl⟩
theorem nr_6 {n : Nat} {hr : HP} (W : NW n hr) : hr 138 6 = 143 ∧ ai_ok n 143 50 ∧ ai_l 143 = 36 := ⟨W.2 (138, 6, 143) (List.mem_of_getElem? (i := 4) rfl), ok_143 W.1, rfl⟩
theorem nr_7 {n : Nat} {hr : HP} (W : NW n hr) : hr 138 7 = 144 ∧ ai_ok n 144 50 ∧ ai_l 144 = 36 := ⟨W.2 (138, 7, 144) (List.mem_of_getElem? (i := 5) rfl), ok_144 W.1, rfl⟩
theorem nr_8 {n : Nat} {hr : HP} (W : NW n hr) : hr 138 8 = 145 ∧ ai_ok n 145 50 ∧ ai_l 145 = 48 := ⟨W.2 (138, 8, 145) (List.mem_of_getElem? (i := 6) rfl), ok_145 W.1, rfl⟩
theorem nr_9 {n : Nat} {hr : HP} (W : NW n hr) : hr 138 9 = 146 ∧ ai_ok n 146 50 ∧ ai_l 146 = 48 := ⟨W.2 (138, 9, 146) (List.mem_of_getElem? (i := 7) rfl), ok_146 W.1, rfl⟩
theorem nr_20 {n : Nat} {hr : HP} (W : NW n hr) : hr 138 20 = 147 ∧ ai_ok n 147 50 ∧ ai_l 147 = 96 := ⟨W.2 (138, 20, 147) (List.mem_of_getElem? (i := 8) rfl), ok_147 W.1, rfl⟩
theorem nr_21 {n : Nat} {hr : HP} (W : NW n hr) : hr 138 21 = 148 ∧ ai_ok n 148 50 ∧ ai_l 148 = 96 := ⟨W.2 (138, 21, 148) (List.mem_of_getElem? (i := 9) rfl), ok_148 W.1, rfl⟩
theorem nr_22 {n : Nat} {hr : HP} (W : NW n hr) : hr 138 22 = 149 ∧ ai_ok n 149 50 ∧ ai_l 149 = 6 := ⟨W.2 (138, 22, 149) (List.mem_of_getElem? (i := 10) rfl), ok_149 W.1, rfl⟩
theorem nr_24 {n : Nat} {hr : HP} (W : NW n hr) : hr 138 24 = 150 ∧ ai_ok n 150 50 ∧ ai_l 150 = 64 := ⟨W.2 (138, 24, 150) (List.mem_of_getElem? (i := 11) rfl), ok_150 W.1, rfl⟩
theorem nr_25 {n : Nat} {hr : HP} (W : NW n hr) : hr 138 25 = 151 ∧ ai_ok n 151 50 ∧ ai_l 151 = 64 := ⟨W.2 (138, 25, 151) (List.mem_of_getElem? (i := 12) rfl), ok_151 W.1, rfl⟩
theorem nr_26 {n : Nat} {hr : HP} (W : NW n hr) : hr 138 26 = 152 ∧ ai_ok n 152 52 ∧ ai_l 152 = 64 := ⟨W.2 (138, 26, 152) (List.mem_of_getElem? (i := 13) rfl), ok_152 W.1, rfl⟩
theorem nr_27 {n : Nat} {hr : HP} (W : NW n hr) : hr 138 27 = 153 ∧ ai_ok n 153 50 ∧ ai_l 153 = 36 := ⟨W.2 (138, 27, 153) (List.mem_of_getElem? (i := 14) rfl), ok_153 W.1, rfl⟩
theorem nr_28 {n : Nat} {hr : HP} (W : NW n hr) : hr 138 28 = 154 ∧ ai_ok n 154 50 ∧ ai_l 154 = 16 := ⟨W.2 (138, 28, 154) (List.mem_of_getElem? (i := 15) rfl), ok_154 W.1, rfl⟩
theorem nr_30 {n : Nat} {hr : HP} (W : NW n hr) : hr 138 30 = 155 ∧ ai_ok n 155 50 ∧ ai_l 155 = 6 := ⟨W.2 (138, 30, 155) (List.mem_of_getElem? (i := 16) rfl), ok_155 W.1, rfl⟩
theorem nr_32 {n : Nat} {hr : HP} (W : NW n hr) : hr 138 32 = 156 ∧ ai_ok n 156 50 ∧ ai_l 156 = 800 := ⟨W.2 (138, 32, 156) (List.mem_of_getElem? (i := 17) rfl), ok_156 W.1, rfl⟩
theorem nr_33 {n : Nat} {hr : HP} (W : NW n hr) : hr 138 33 = 157 ∧ ai_ok n 157 50 ∧ ai_l 157 = 2 := ⟨W.2 (138, 33, 157) (List.mem_of_getElem? (i := 18) rfl), ok_157 W.1, rfl⟩
theorem nr_34 {n : Nat} {hr : HP} (W : NW n hr) : hr 138 34 = 158 ∧ ai_ok n 158 52 ∧ ai_l 158 = 2 := ⟨W.2 (138, 34, 158) (List.mem_of_getElem? (i := 19) rfl), ok_158 W.1, rfl⟩
theorem nr_35 {n : Nat} {hr : HP} (W : NW n hr) : hr 138 35 = 159 ∧ ai_ok n 159 52 ∧ ai_l 159 = 18 := ⟨W.2 (138, 35, 159) (List.mem_of_getElem? (i := 20) rfl), ok_159 W.1, rfl⟩
theorem nr_36 {n : Nat} {hr : HP} (W : NW n hr) : hr 138 36 = 160 ∧ ai_ok n 160 50 ∧ ai_l 160 = 6 := ⟨W.2 (138, 36, 160) (List.mem_of_getElem? (i := 21) rfl), ok_160 W.1, rfl⟩
theorem nr_38 {n : Nat} {hr : HP} (W : NW n hr) : hr 138 38 = 161 ∧ ai_ok n 161 50 ∧ ai_l 161 = 7800 := ⟨W.2 (138, 38, 161) (List.mem_of_getElem? (i := 22) rfl), ok_161 W.1, rfl⟩
theorem nr_39 {n : Nat} {hr : HP} (W : NW n hr) : hr 138 39 = 162 ∧ ai_ok n 162 50 ∧ ai_l 162 = 6 := ⟨W.2 (138, 39, 162) (List.mem_of_getElem? (i := 23) rfl), ok_162 W.1, rfl⟩
theorem nr_40 {n : Nat} {hr : HP} (W : NW n hr) : hr 138 40 = 163 ∧ ai_ok n 163 52 ∧ ai_l 163 = 1300 := ⟨W.2 (138, 40, 163) (List.mem_of_getElem? (i := 24) rfl), ok_163 W.1, rfl⟩
theorem nr_47 {n : Nat} {hr : HP} (W : NW n hr) : hr 138 47 = 164 ∧ ai_ok n 164 50 ∧ ai_l 164 = 16 := ⟨W.2 (138, 47, 164) (List.mem_of_getElem? (i := 25) rfl), ok_164 W.1, rfl⟩
theorem nr_48 {n : Nat} {hr : HP} (W : NW n hr) : hr 138 48 = 165 ∧ ai_ok n 165 52 ∧ ai_l 165 = 4 := ⟨W.2 (138, 48, 165) (List.mem_of_getElem? (i := 26) rfl), ok_165 W.1, rfl⟩
theorem nr_49 {n : Nat} {hr : HP} (W : NW n hr) : hr 138 49 = 166 ∧ ai_ok n 166 50 ∧ ai_l 166 = 12 := ⟨W.2 (138, 49, 166) (List.mem_of_getElem? (i := 27) rfl), ok_166 W.1, rfl⟩
theorem nr_50 {n : Nat} {hr : HP} (W : NW n hr) : hr 138 50 = 167 ∧ ai_ok n 167 52 ∧ ai_l 167 = 4 := ⟨W.2 (138, 50, 167) (List.mem_of_getElem? (i := 28) rfl), ok_167 W.1, rfl⟩
theorem nr_51 {n : Nat} {hr : HP} (W : NW n hr) : hr 138 51 = 168 ∧ ai_ok n 168 50 ∧ ai_l 168 = 54 := ⟨W.2 (138, 51, 168) (List.mem_of_getElem? (i := 29) rfl), ok_168 W.1, rfl⟩
theorem nr_52 {n : Nat} {hr : HP} (W : NW n hr) : hr 138 52 = 169 ∧ ai_ok n 169 50 ∧ ai_l 169 = 9 := ⟨W.2 (138, 52, 169) (List.mem_of_getElem? (i := 30) rfl), ok_169 W.1, rfl⟩
theorem nr_53 {n : Nat} {hr : HP} (W : NW n hr) : hr 138 53 = 170 ∧ ai_ok n 170 50 ∧ ai_l 170 = 9 := ⟨W.2 (138, 53, 170) (List.mem_of_getElem? (i := 31) rfl), ok_170 W.1, rfl⟩
theorem nr_54 {n : Nat} {hr : HP} (W : NW n hr) : hr 138 54 = 171 ∧ ai_ok n 171 50 ∧ ai_l 171 = 3 := ⟨W.2 (138, 54, 171) (List.mem_of_getElem? (i := 32) rfl), ok_171 W.1, rfl⟩
theorem nr_55 {n : Nat} {hr : HP} (W : NW n hr) : hr 138 55 = 172 ∧ ai_ok n 172 52 ∧ ai_l 172 = 3 := ⟨W.2 (138, 55, 172) (List.mem_of_getElem? (i := 33) rfl), ok_172 W.1, rfl⟩
theorem nr_56 {n : Nat} {hr : HP} (W : NW n hr) : hr 138 56 = 173 ∧ ai_ok n 173 51 ∧ ai_l 173 = 5200 := ⟨W.2 (138, 56, 173) (List.mem_of_getElem? (i := 34) rfl), ok_173 W.1, rfl⟩
theorem nr_57 {n : Nat} {hr : HP} (W : NW n hr) : hr 138 57 = 174 ∧ ai_ok n 174 51 ∧ ai_l 174 = 4 := ⟨W.2 (138, 57, 174) (List.mem_of_getElem? (i := 35) rfl), ok_174 W.1, rfl⟩
theorem nr_58 {n : Nat} {hr : HP} (W : NW n hr) : hr 138 58 = 175 ∧ ai_ok n 175 50 ∧ ai_l 175 = 2 := ⟨W.2 (138, 58, 175) (List.mem_of_getElem? (i := 36) rfl), ok_175 W.1, rfl⟩
theorem nr_59 {n : Nat} {hr : HP} (W : NW n hr) : hr 138 59 = 176 ∧ ai_ok n 176 50 ∧ ai_l 176 = 40 := ⟨W.2 (138, 59, 176) (List.mem_of_getElem? (i := 37) rfl), ok_176 W.1, rfl⟩
theorem nr_60 {n : Nat} {hr : HP} (W : NW n hr) : hr 138 60 = 177 ∧ ai_ok n 177 51 ∧ ai_l 177 = 40 := ⟨W.2 (138, 60, 177) (List.mem_of_getElem? (i := 38) rfl), ok_177 W.1, rfl⟩
theorem nr_62 {n : Nat} {hr : HP} (W : NW n hr) : hr 138 62 = 178 ∧ ai_ok n 178 50 ∧ ai_l 178 = 253 := ⟨W.2 (138, 62, 178) (List.mem_of_getElem? (i := 39) rfl), ok_178 W.1, rfl⟩
theorem nr_64 {n : Nat} {hr : HP} (W : NW n hr) : hr 138 64 = 179 ∧ ai_ok n 179 51 ∧ ai_l 179 = 40 := ⟨W.2 (138, 64, 179) (List.mem_of_getElem? (i := 40) rfl), ok_179 W.1, rfl⟩
theorem nr_66 {n : Nat} {hr : HP} (W : NW n hr) : hr 138 66 = 180 ∧ ai_ok n 180 50 ∧ ai_l 180 = 1008 := ⟨W.2 (138, 66, 180) (List.mem_of_getElem? (i := 41) rfl), ok_180 W.1, rfl⟩
theorem mr_13 {n : Nat} {hr : HP} (W : CW n hr) : mrow hr 13 n := ⟨ok_13 W.1, (cr_13_0 W).1, (cr_13_1 W).1, ok_14 W.1, ok_15 W.1, rfl, rfl⟩
theorem mr_16 {n : Nat} {hr : HP} (W : CW n hr) : mrow hr 16 n := ⟨ok_16 W.1, (cr_16_0 W).1, (cr_16_1 W).1, ok_17 W.1, ok_18 W.1, rfl, rfl⟩
theorem mr_103 {n : Nat} {hr : HP} (W : CW n hr) : mrow hr 103 n := ⟨ok_103 W.1, (cr_103_0 W).1, (cr_103_1 W).1, ok_104 W.1, ok_105 W.1, rfl, rfl⟩
theorem mr_106 {n : Nat} {hr : HP} (W : CW n hr) : mrow hr 106 n := ⟨ok_106 W.1, (cr_106_0 W).1, (cr_106_1 W).1, ok_107 W.1, ok_108 W.1, rfl, rfl⟩
theorem mr_122 {n : Nat} {hr : HP} (W : CW n hr) : mrow hr 122 n := ⟨ok_122 W.1, (cr_122_0 W).1, (cr_122_1 W).1, ok_123 W.1, ok_124 W.1, rfl, rfl⟩
theorem n0 {n : Nat} {hr : HP} (W : NW n hr) : ai_ok n 138 12 := ok_138 W.1
theorem nrow_of {n : Nat} {hr : HP} (W : NW n hr) : nrow hr n := ⟨n0 W, (nr_20 W).1, (nr_21 W).1, (nr_20 W).2.1, (nr_21 W).2.1, rfl, rfl⟩
