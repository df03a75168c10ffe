theorem am_ck_at {k : Nat} (h : am_ck k = true) {pc : Nat} {ins : Instr} {len : Nat} (e : am_cd k pc = some (ins, len)) : am_oka k pc ins len = true := by
  have hp : pc < am_sz k := by
    have := e
    unfold am_cd at this
    obtain ⟨h1, -⟩ := am_cnd this
    obtain ⟨-, h1⟩ := am_b2 h1
    rw [am_blt] at h1
    exact h1
  have := List.all_eq_true.mp h pc (List.mem_range.mpr hp)
  rw [e] at this
  exact this
theorem am_cr_at {k a n : Nat} (h : am_cr1 k a n = true) {pc : Nat} {ins : Instr} {len : Nat} (e : am_cd k pc = some (ins, len)) (h1 : a ≤ pc) (h2 : pc < a + n) : am_oka k pc ins len = true := by
  have := List.all_eq_true.mp h (pc - a) (List.mem_range.mpr (by omega))
  rw [show a + (pc - a) = pc by omega, e] at this
  exact this
theorem am_law_at {pc : Nat} {ins : Instr} {len : Nat} (e : am_cd 155 pc = some (ins, len)) : am_oka 155 pc ins len = true := by
  have hp : pc < 873 := by
    have := e
    unfold am_cd at this
    obtain ⟨h1, -⟩ := am_cnd this
    obtain ⟨-, h1⟩ := am_b2 h1
    rw [am_blt] at h1
    exact h1
  by_cases h0 : pc < 60
  · exact am_cr_at am_cl_0 e (by omega) (by omega)
  by_cases h60 : pc < 120
  · exact am_cr_at am_cl_60 e (by omega) (by omega)
  by_cases h120 : pc < 180
  · exact am_cr_at am_cl_120 e (by omega) (by omega)
  by_cases h180 : pc < 240
  · exact am_cr_at am_cl_180 e (by omega) (by omega)
  by_cases h240 : pc < 300
  · exact am_cr_at am_cl_240 e (by omega) (by omega)
  by_cases h300 : pc < 360
  · exact am_cr_at am_cl_300 e (by omega) (by omega)
  by_cases h360 : pc < 420
  · exact am_cr_at am_cl_360 e (by omega) (by omega)
  by_cases h420 : pc < 480
  · exact am_cr_at am_cl_420 e (by omega) (by omega)
  by_cases h480 : pc < 540
  · exact am_cr_at am_cl_480 e (by omega) (by omega)
  by_cases h540 : pc < 600
  · exact am_cr_at am_cl_540 e (by omega) (by omega)
  by_cases h600 : pc < 660
  · exact am_cr_at am_cl_600 e (by omega) (by omega)
  by_cases h660 : pc < 720
  · exact am_cr_at am_cl_660 e (by omega) (by omega)
  by_cases h720 : pc < 780
  · exact am_cr_at am_cl_720 e (by omega) (by omega)
  by_cases h780 : pc < 840
  · exact am_cr_at am_cl_780 e (by omega) (by omega)
  exact am_cr_at am_cl_840 e (by omega) (by omega)
/-- the table is the code -/
theorem am_lk_all (k pc : Nat) (ins : Instr) (len : Nat) (e : am_cd k pc = some (ins, len)) : am_oka k pc ins len = true := by
  have hk : k < 156 := by
    have := e
    unfold am_cd at this
    obtain ⟨h1, -⟩ := am_cnd this
    obtain ⟨h1, -⟩ := am_b2 h1
    rw [am_blt] at h1
    exact h1
  match k, hk, e with
  | 0, _, e => exact nomatch (show (none : Option (Instr × Nat)) = some (ins, len) from (by unfold am_cd am_c0 at e; obtain ⟨-, e⟩ := am_cnd e; exact e))
  | 1, _, e => exact am_ck_at am_ck_1 e
  | 2, _, e => exact am_ck_at am_ck_2 e
  | 3, _, e => exact am_ck_at am_ck_3 e
  | 4, _, e => exact am_ck_at am_ck_4 e
  | 5, _, e => exact am_ck_at am_ck_5 e
  | 6, _, e => exact am_ck_at am_ck_6 e
  | 7, _, e => exact am_ck_at am_ck_7 e
  | 8, _, e => exact am_ck_at am_ck_8 e
  | 9, _, e => exact am_ck_at am_ck_9 e
  | 10, _, e => exact am_ck_at am_ck_10 e
  | 11, _, e => exact am_ck_at am_ck_11 e
  | 12, _, e => exact am_ck_at am_ck_12 e
  | 13, _, e => exact am_ck_at am_ck_13 e
  | 14, _, e => exact am_ck_at am_ck_14 e
  | 15, _, e => exact am_ck_at am_ck_15 e
  | 16, _, e => exact am_ck_at am_ck_16 e
  | 17, _, e => exact am_ck_at am_ck_17 e
  | 18, _, e => exact am_ck_at am_ck_18 e
  | 19, _, e => exact am_ck_at am_ck_19 e
  | 20, _, e => exact am_ck_at am_ck_20 e
  | 21, _, e => exact am_ck_at am_ck_21 e
  | 22, _, e => exact am_ck_at am_ck_22 e
  | 23, _, e => exact am_ck_at am_ck_23 e
  | 24, _, e => exact am_ck_at am_ck_24 e
  | 25, _, e => exact am_ck_at am_ck_25 e
  | 26, _, e => exact am_ck_at am_ck_26 e
  | 27, _, e => exact am_ck_at am_ck_27 e
  | 28, _, e => exact am_ck_at am_ck_28 e
  | 29, _, e => exact am_ck_at am_ck_29 e
  | 30, _, e => exact am_ck_at am_ck_30 e
  | 31, _, e => exact am_ck_at am_ck_31 e
  | 32, _, e => exact am_ck_at am_ck_32 e
  | 33, _, e => exact am_ck_at am_ck_33 e
  | 34, _, e => exact am_ck_at am_ck_34 e
  | 35, _, e => exact am_ck_at am_ck_35 e
  | 36, _, e => exact am_ck_at am_ck_36 e
  | 37, _, e => exact am_ck_at am_ck_37 e
  | 38, _, e => exact am_ck_at am_ck_38 e
  | 39, _, e => exact am_ck_at am_ck_39 e
  | 40, _, e => exact am_ck_at am_ck_40 e
  | 41, _, e => exact am_ck_at am_ck_41 e
  | 42, _, e => exact am_ck_at am_ck_42 e
  | 43, _, e => exact am_ck_at am_ck_43 e
  | 44, _, e => exact am_ck_at am_ck_44 e
  | 45, _, e => exact am_ck_at am_ck_45 e
  | 46, _, e => exact am_ck_at am_ck_46 e
  | 47, _, e => exact am_ck_at am_ck_47 e
  | 48, _, e => exact am_ck_at am_ck_48 e
  | 49, _, e => exact am_ck_at am_ck_49 e
  | 50, _, e => exact am_ck_at am_ck_50 e
  | 51, _, e => exact am_ck_at am_ck_51 e
  | 52, _, e => exact am_ck_at am_ck_52 e
  | 53, _, e => exact am_ck_at am_ck_53 e
  | 54, _, e => exact am_ck_at am_ck_54 e
  | 55, _, e => exact am_ck_at am_ck_55 e
  | 56, _, e => exact am_ck_at am_ck_56 e
  | 57, _, e => exact am_ck_at am_ck_57 e
  | 58, _, e => exact am_ck_at am_ck_58 e
  | 59, _, e => exact am_ck_at am_ck_59 e
  | 60, _, e => exact am_ck_at am_ck_60 e
  | 61, _, e => exact am_ck_at am_ck_61 e
  | 62, _, e => exact am_ck_at am_ck_62 e
  | 63, _, e => exact am_ck_at am_ck_63 e
  | 64, _, e => exact am_ck_at am_ck_64 e
  | 65, _, e => exact am_ck_at am_ck_65 e
  | 66, _, e => exact am_ck_at am_ck_66 e
  | 67, _, e => exact am_ck_at am_ck_67 e
  | 68, _, e => exact am_ck_at am_ck_68 e
  | 69, _, e => exact am_ck_at am_ck_69 e
  | 70, _, e => exact am_ck_at am_ck_70 e
  | 71, _, e => exact am_ck_at am_ck_71 e
  | 72, _, e => exact am_ck_at am_ck_72 e
  | 73, _, e => exact am_ck_at am_ck_73 e
  | 74, _, e => exact am_ck_at am_ck_74 e
  | 75, _, e => exact am_ck_at am_ck_75 e
  | 76, _, e => exact am_ck_at am_ck_76 e
  | 77, _, e => exact am_ck_at am_ck_77 e
  | 78, _, e => exact am_ck_at am_ck_78 e
  | 79, _, e => exact am_ck_at am_ck_79 e
  | 80, _, e => exact am_ck_at am_ck_80 e
  | 81, _, e => exact am_ck_at am_ck_81 e
  | 82, _, e => exact am_ck_at am_ck_82 e
  | 83, _, e => exact am_ck_at am_ck_83 e
  | 84, _, e => exact am_ck_at am_ck_84 e
  | 85, _, e => exact am_ck_at am_ck_85 e
  | 86, _, e => exact am_ck_at am_ck_86 e
  | 87, _, e => exact am_ck_at am_ck_87 e
  | 88, _, e => exact am_ck_at am_ck_88 e
  | 89, _, e => exact am_ck_at am_ck_89 e
  | 90, _, e => exact am_ck_at am_ck_90 e
  | 91, _, e => exact am_ck_at am_ck_91 e
  | 92, _, e => exact am_ck_at am_ck_92 e
  | 93, _, e => exact am_ck_at am_ck_93 e
  | 94, _, e => exact am_ck_at am_ck_94 e
  | 95, _, e => exact am_ck_at am_ck_95 e
  | 96, _, e => exact am_ck_at am_ck_96 e
  | 97, _, e => exact am_ck_at am_ck_97 e
  | 98, _, e => exact am_ck_at am_ck_98 e
  | 99, _, e => exact am_ck_at am_ck_99 e
  | 100, _, e => exact am_ck_at am_ck_100 e
  | 101, _, e => exact am_ck_at am_ck_101 e
  | 102, _, e => exact am_ck_at am_ck_102 e
  | 103, _, e => exact am_ck_at am_ck_103 e
  | 104, _, e => exact am_ck_at am_ck_104 e
  | 105, _, e => exact am_ck_at am_ck_105 e
  | 106, _, e => exact am_ck_at am_ck_106 e
  | 107, _, e => exact am_ck_at am_ck_107 e
  | 108, _, e => exact am_ck_at am_ck_108 e
  | 109, _, e => exact am_ck_at am_ck_109 e
  | 110, _, e => exact am_ck_at am_ck_110 e
  | 111, _, e => exact am_ck_at am_ck_111 e
  | 112, _, e => exact am_ck_at am_ck_112 e
  | 113, _, e => exact am_ck_at am_ck_113 e
  | 114, _, e => exact am_ck_at am_ck_114 e
  | 115, _, e => exact am_ck_at am_ck_115 e
  | 116, _, e => exact am_ck_at am_ck_116 e
  | 117, _, e => exact am_ck_at am_ck_117 e
  | 118, _, e => exact am_ck_at am_ck_118 e
  | 119, _, e => exact am_ck_at am_ck_119 e
  | 120, _, e => exact am_ck_at am_ck_120 e
  | 121, _, e => exact am_ck_at am_ck_121 e
  | 122, _, e => exact am_ck_at am_ck_122 e
  | 123, _, e => exact am_ck_at am_ck_123 e
  | 124, _, e => exact am_ck_at am_ck_124 e
  | 125, _, e => exact am_ck_at am_ck_125 e
  | 126, _, e => exact am_ck_at am_ck_126 e
  | 127, _, e => exact am_ck_at am_ck_127 e
  | 128, _, e => exact am_ck_at am_ck_128 e
  | 129, _, e => exact am_ck_at am_ck_129 e
  | 130, _, e => exact am_ck_at am_ck_130 e
  | 131, _, e => exact am_ck_at am_ck_131 e
  | 132, _, e => exact am_ck_at am_ck_132 e
  | 133, _, e => exact am_ck_at am_ck_133 e
  | 134, _, e => exact am_ck_at am_ck_134 e
  | 135, _, e => exact am_ck_at am_ck_135 e
  | 136, _, e => exact am_ck_at am_ck_136 e
  | 137, _, e => exact am_ck_at am_ck_137 e
  | 138, _, e => exact am_ck_at am_ck_138 e
  | 139, _, e => exact am_ck_at am_ck_139 e
  | 140, _, e => exact am_ck_at am_ck_140 e
  | 141, _, e => exact am_ck_at am_ck_141 e
  | 142, _, e => exact am_ck_at am_ck_142 e
  | 143, _, e => exact am_ck_at am_ck_143 e
  | 144, _, e => exact am_ck_at am_ck_144 e
  | 145, _, e => exact am_ck_at am_ck_145 e
  | 146, _, e => exact am_ck_at am_ck_146 e
  | 147, _, e => exact am_ck_at am_ck_147 e
  | 148, _, e => exact am_ck_at am_ck_148 e
  | 149, _, e => exact am_ck_at am_ck_149 e
  | 150, _, e => exact am_ck_at am_ck_150 e
  | 151, _, e => exact am_ck_at am_ck_151 e
  | 152, _, e => exact am_ck_at am_ck_152 e
  | 153, _, e => exact am_ck_at am_ck_153 e
  | 154, _, e => exact am_ck_at am_ck_154 e
  | 155, _, e => exact am_law_at e
theorem am_km_lt (j : Nat) (h1 : 1 ≤ j) (h2 : j < 155) : am_okm j = true := by
  match j, h1, h2 with
  | 1, _, _ => exact am_km_1
  | 2, _, _ => exact am_km_2
  | 3, _, _ => exact am_km_3
  | 4, _, _ => exact am_km_4
  | 5, _, _ => exact am_km_5
  | 6, _, _ => exact am_km_6
  | 7, _, _ => exact am_km_7
  | 8, _, _ => exact am_km_8
  | 9, _, _ => exact am_km_9
  | 10, _, _ => exact am_km_10
  | 11, _, _ => exact am_km_11
  | 12, _, _ => exact am_km_12
  | 13, _, _ => exact am_km_13
  | 14, _, _ => exact am_km_14
  | 15, _, _ => exact am_km_15
  | 16, _, _ => exact am_km_16
  | 17, _, _ => exact am_km_17
  | 18, _, _ => exact am_km_18
  | 19, _, _ => exact am_km_19
  | 20, _, _ => exact am_km_20
  | 21, _, _ => exact am_km_21
  | 22, _, _ => exact am_km_22
  | 23, _, _ => exact am_km_23
  | 24, _, _ => exact am_km_24
  | 25, _, _ => exact am_km_25
  | 26, _, _ => exact am_km_26
  | 27, _, _ => exact am_km_27
  | 28, _, _ => exact am_km_28
  | 29, _, _ => exact am_km_29
  | 30, _, _ => exact am_km_30
  | 31, _, _ => exact am_km_31
  | 32, _, _ => exact am_km_32
  | 33, _, _ => exact am_km_33
  | 34, _, _ => exact am_km_34
  | 35, _, _ => exact am_km_35
  | 36, _, _ => exact am_km_36
  | 37, _, _ => exact am_km_37
  | 38, _, _ => exact am_km_38
  | 39, _, _ => exact am_km_39
  | 40, _, _ => exact am_km_40
  | 41, _, _ => exact am_km_41
  | 42, _, _ => exact am_km_42
  | 43, _, _ => exact am_km_43
  | 44, _, _ => exact am_km_44
  | 45, _, _ => exact am_km_45
  | 46, _, _ => exact am_km_46
  | 47, _, _ => exact am_km_47
  | 48, _, _ => exact am_km_48
  | 49, _, _ => exact am_km_49
  | 50, _, _ => exact am_km_50
  | 51, _, _ => exact am_km_51
  | 52, _, _ => exact am_km_52
  | 53, _, _ => exact am_km_53
  | 54, _, _ => exact am_km_54
  | 55, _, _ => exact am_km_55
  | 56, _, _ => exact am_km_56
  | 57, _, _ => exact am_km_57
  | 58, _, _ => exact am_km_58
  | 59, _, _ => exact am_km_59
  | 60, _, _ => exact am_km_60
  | 61, _, _ => exact am_km_61
  | 62, _, _ => exact am_km_62
  | 63, _, _ => exact am_km_63
  | 64, _, _ => exact am_km_64
  | 65, _, _ => exact am_km_65
  | 66, _, _ => exact am_km_66
  | 67, _, _ => exact am_km_67
  | 68, _, _ => exact am_km_68
  | 69, _, _ => exact am_km_69
  | 70, _, _ => exact am_km_70
  | 71, _, _ => exact am_km_71
  | 72, _, _ => exact am_km_72
  | 73, _, _ => exact am_km_73
  | 74, _, _ => exact am_km_74
  | 75, _, _ => exact am_km_75
  | 76, _, _ => exact am_km_76
  | 77, _, _ => exact am_km_77
  | 78, _, _ => exact am_km_78
  | 79, _, _ => exact am_km_79
  | 80, _, _ => exact am_km_80
  | 81, _, _ => exact am_km_81
  | 82, _, _ => exact am_km_82
  | 83, _, _ => exact am_km_83
  | 84, _, _ => exact am_km_84
  | 85, _, _ => exact am_km_85
  | 86, _, _ => exact am_km_86
  | 87, _, _ => exact am_km_87
  | 88, _, _ => exact am_km_88
  | 89, _, _ => exact am_km_89
  | 90, _, _ => exact am_km_90
  | 91, _, _ => exact am_km_91
  | 92, _, _ => exact am_km_92
  | 93, _, _ => exact am_km_93
  | 94, _, _ => exact am_km_94
  | 95, _, _ => exact am_km_95
  | 96, _, _ => exact am_km_96
  | 97, _, _ => exact am_km_97
  | 98, _, _ => exact am_km_98
  | 99, _, _ => exact am_km_99
  | 100, _, _ => exact am_km_100
  | 101, _, _ => exact am_km_101
  | 102, _, _ => exact am_km_102
  | 103, _, _ => exact am_km_103
  | 104, _, _ => exact am_km_104
  | 105, _, _ => exact am_km_105
  | 106, _, _ => exact am_km_106
  | 107, _, _ => exact am_km_107
  | 108, _, _ => exact am_km_108
  | 109, _, _ => exact am_km_109
  | 110, _, _ => exact am_km_110
  | 111, _, _ => exact am_km_111
  | 112, _, _ => exact am_km_112
  | 113, _, _ => exact am_km_113
  | 114, _, _ => exact am_km_114
  | 115, _, _ => exact am_km_115
  | 116, _, _ => exact am_km_116
  | 117, _, _ => exact am_km_117
  | 118, _, _ => exact am_km_118
  | 119, _, _ => exact am_km_119
  | 120, _, _ => exact am_km_120
  | 121, _, _ => exact am_km_121
  | 122, _, _ => exact am_km_122
  | 123, _, _ => exact am_km_123
  | 124, _, _ => exact am_km_124
  | 125, _, _ => exact am_km_125
  | 126, _, _ => exact am_km_126
  | 127, _, _ => exact am_km_127
  | 128, _, _ => exact am_km_128
  | 129, _, _ => exact am_km_129
  | 130, _, _ => exact am_km_130
  | 131, _, _ => exact am_km_131
  | 132, _, _ => exact am_km_132
  | 133, _, _ => exact am_km_133
  | 134, _, _ => exact am_km_134
  | 135, _, _ => exact am_km_135
  | 136, _, _ => exact am_km_136
  | 137, _, _ => exact am_km_137
  | 138, _, _ => exact am_km_138
  | 139, _, _ => exact am_km_139
  | 140, _, _ => exact am_km_140
  | 141, _, _ => exact am_km_141
  | 142, _, _ => exact am_km_142
  | 143, _, _ => exact am_km_143
  | 144, _, _ => exact am_km_144
  | 145, _, _ => exact am_km_145
  | 146, _, _ => exact am_km_146
  | 147, _, _ => exact am_km_147
  | 148, _, _ => exact am_km_148
  | 149, _, _ => exact am_km_149
  | 150, _, _ => exact am_km_150
  | 151, _, _ => exact am_km_151
  | 152, _, _ => exact am_km_152
  | 153, _, _ => exact am_km_153
  | 154, _, _ => exact am_km_154
  | n + 155, _, h => exact absurd h (by omega)
theorem am_km_all (j : Nat) (h1 : 1 ≤ j) (h2 : j ≤ 154) : am_okm j = true := am_km_lt j h1 (by omega)
