/-! ALL TABLES; THE CLEAN MACHINE IS SOUND -/
def cdL : List Cd := [cd_0, cd_1, cd_2, cd_3, cd_4, cd_5, cd_6, cd_7, cd_8, cd_9, cd_10, cd_11, cd_12, cd_13, cd_14, cd_15, cd_16, cd_17, cd_18, cd_19, cd_20, cd_21, cd_22, cd_23, cd_24, cd_25, cd_26, cd_27, cd_28, cd_29, cd_30, cd_31, cd_32, cd_33, cd_34, cd_35, cd_36, cd_37, cd_38, cd_39, cd_40, cd_41, cd_42, cd_43, cd_44, cd_45, cd_46, cd_47, cd_48, cd_49, cd_50, cd_51, cd_52, cd_53, cd_54, cd_55, cd_56, cd_57, cd_58, cd_59, cd_60, cd_61, cd_62, cd_63, cd_64, cd_65, cd_66, cd_67, cd_68, cd_69, cd_70, cd_71, cd_72, cd_73, cd_74, cd_75, cd_76, cd_77, cd_78, cd_79, cd_80, cd_81, cd_82, cd_83, cd_84, cd_85, cd_86, cd_87, cd_88, cd_89, cd_90, cd_91, cd_92, cd_93, cd_94, cd_95, cd_96, cd_97, cd_98, cd_99, cd_100, cd_101, cd_102, cd_103, cd_104, cd_105, cd_106, cd_107, cd_108, cd_109, cd_110, cd_111, cd_112, cd_113, cd_114, cd_115, cd_116, cd_117, cd_118, cd_119, cd_120, cd_121, cd_122, cd_123, cd_124, cd_125, cd_126, cd_127, cd_128, cd_129, cd_130, cd_131, cd_132, cd_133, cd_134, cd_135, cd_136, cd_137, cd_138, cd_139, cd_140, cd_141, cd_142, cd_143, cd_144, cd_145, cd_146, cd_147, cd_148, cd_149, cd_150, cd_151, cd_152, cd_153, cd_154, cd_155, cd_156, cd_157, cd_158, cd_159, cd_160, cd_161, cd_162, cd_163, cd_164, cd_165, cd_166, cd_167, cd_168, cd_169, cd_170, cd_171, cd_172, cd_173, cd_174, cd_175, cd_176, cd_177, cd_178, cd_179, cd_180, cd_181, cd_182]
def cdTab (μ : Nat) : Cd := cdL.getD μ []
def allC (P : Nat → Cd → Prop) : Nat → List Cd → Prop
  | _, [] => True
  | i, c :: r => P i c ∧ allC P (i + 1) r
theorem allC_get {P : Nat → Cd → Prop} : ∀ {l : List Cd} {i j : Nat} {c : Cd}, allC P i l → l[j]? = some c → P (i + j) c
  | [], _, j, _, _, h => by simp at h
  | a :: r, i, j, c, h, hj => by
    cases j with
    | zero => simp at hj; subst hj; exact h.1
    | succ j =>
      have := allC_get h.2 (j := j) (c := c) (by simpa using hj)
      rw [show i + (j + 1) = i + 1 + j by omega]
      exact this
def tbP (i : Nat) (c : Cd) : Prop := tabOk true (mOwn i) i (mB i) c = true
set_option maxRecDepth 100000 in
theorem tb_0 : tbP 0 cd_0 := ck_0
set_option maxRecDepth 100000 in
theorem tb_1 : tbP 1 cd_1 := ck_1
set_option maxRecDepth 100000 in
theorem tb_2 : tbP 2 cd_2 := ck_2
set_option maxRecDepth 100000 in
theorem tb_3 : tbP 3 cd_3 := ck_3
set_option maxRecDepth 100000 in
theorem tb_4 : tbP 4 cd_4 := ck_4
set_option maxRecDepth 100000 in
theorem tb_5 : tbP 5 cd_5 := ck_5
set_option maxRecDepth 100000 in
theorem tb_6 : tbP 6 cd_6 := ck_6
set_option maxRecDepth 100000 in
theorem tb_7 : tbP 7 cd_7 := ck_7
set_option maxRecDepth 100000 in
theorem tb_8 : tbP 8 cd_8 := ck_8
set_option maxRecDepth 100000 in
theorem tb_9 : tbP 9 cd_9 := ck_9
set_option maxRecDepth 100000 in
theorem tb_10 : tbP 10 cd_10 := ck_10
set_option maxRecDepth 100000 in
theorem tb_11 : tbP 11 cd_11 := ck_11
set_option maxRecDepth 100000 in
theorem tb_12 : tbP 12 cd_12 := ck_12
set_option maxRecDepth 100000 in
theorem tb_13 : tbP 13 cd_13 := ck_13
set_option maxRecDepth 100000 in
theorem tb_14 : tbP 14 cd_14 := ck_14
set_option maxRecDepth 100000 in
theorem tb_15 : tbP 15 cd_15 := ck_15
set_option maxRecDepth 100000 in
theorem tb_16 : tbP 16 cd_16 := ck_16
set_option maxRecDepth 100000 in
theorem tb_17 : tbP 17 cd_17 := ck_17
set_option maxRecDepth 100000 in
theorem tb_18 : tbP 18 cd_18 := ck_18
set_option maxRecDepth 100000 in
theorem tb_19 : tbP 19 cd_19 := ck_19
set_option maxRecDepth 100000 in
theorem tb_20 : tbP 20 cd_20 := ck_20
set_option maxRecDepth 100000 in
theorem tb_21 : tbP 21 cd_21 := ck_21
set_option maxRecDepth 100000 in
theorem tb_22 : tbP 22 cd_22 := ck_22
set_option maxRecDepth 100000 in
theorem tb_23 : tbP 23 cd_23 := ck_23
set_option maxRecDepth 100000 in
theorem tb_24 : tbP 24 cd_24 := ck_24
set_option maxRecDepth 100000 in
theorem tb_25 : tbP 25 cd_25 := ck_25
set_option maxRecDepth 100000 in
theorem tb_26 : tbP 26 cd_26 := ck_26
set_option maxRecDepth 100000 in
theorem tb_27 : tbP 27 cd_27 := ck_27
set_option maxRecDepth 100000 in
theorem tb_28 : tbP 28 cd_28 := ck_28
set_option maxRecDepth 100000 in
theorem tb_29 : tbP 29 cd_29 := ck_29
set_option maxRecDepth 100000 in
theorem tb_30 : tbP 30 cd_30 := ck_30
set_option maxRecDepth 100000 in
theorem tb_31 : tbP 31 cd_31 := ck_31
set_option maxRecDepth 100000 in
theorem tb_32 : tbP 32 cd_32 := ck_32
set_option maxRecDepth 100000 in
theorem tb_33 : tbP 33 cd_33 := ck_33
set_option maxRecDepth 100000 in
theorem tb_34 : tbP 34 cd_34 := ck_34
set_option maxRecDepth 100000 in
theorem tb_35 : tbP 35 cd_35 := ck_35
set_option maxRecDepth 100000 in
theorem tb_36 : tbP 36 cd_36 := ck_36
set_option maxRecDepth 100000 in
theorem tb_37 : tbP 37 cd_37 := ck_37
set_option maxRecDepth 100000 in
theorem tb_38 : tbP 38 cd_38 := ck_38
set_option maxRecDepth 100000 in
theorem tb_39 : tbP 39 cd_39 := ck_39
set_option maxRecDepth 100000 in
theorem tb_40 : tbP 40 cd_40 := ck_40
set_option maxRecDepth 100000 in
theorem tb_41 : tbP 41 cd_41 := ck_41
set_option maxRecDepth 100000 in
theorem tb_42 : tbP 42 cd_42 := ck_42
set_option maxRecDepth 100000 in
theorem tb_43 : tbP 43 cd_43 := ck_43
set_option maxRecDepth 100000 in
theorem tb_44 : tbP 44 cd_44 := ck_44
set_option maxRecDepth 100000 in
theorem tb_45 : tbP 45 cd_45 := ck_45
set_option maxRecDepth 100000 in
theorem tb_46 : tbP 46 cd_46 := ck_46
set_option maxRecDepth 100000 in
theorem tb_47 : tbP 47 cd_47 := ck_47
set_option maxRecDepth 100000 in
theorem tb_48 : tbP 48 cd_48 := ck_48
set_option maxRecDepth 100000 in
theorem tb_49 : tbP 49 cd_49 := ck_49
set_option maxRecDepth 100000 in
theorem tb_50 : tbP 50 cd_50 := ck_50
set_option maxRecDepth 100000 in
theorem tb_51 : tbP 51 cd_51 := ck_51
set_option maxRecDepth 100000 in
theorem tb_52 : tbP 52 cd_52 := ck_52
set_option maxRecDepth 100000 in
theorem tb_53 : tbP 53 cd_53 := ck_53
set_option maxRecDepth 100000 in
theorem tb_54 : tbP 54 cd_54 := ck_54
set_option maxRecDepth 100000 in
theorem tb_55 : tbP 55 cd_55 := ck_55
set_option maxRecDepth 100000 in
theorem tb_56 : tbP 56 cd_56 := ck_56
set_option maxRecDepth 100000 in
theorem tb_57 : tbP 57 cd_57 := ck_57
set_option maxRecDepth 100000 in
theorem tb_58 : tbP 58 cd_58 := ck_58
set_option maxRecDepth 100000 in
theorem tb_59 : tbP 59 cd_59 := ck_59
set_option maxRecDepth 100000 in
theorem tb_60 : tbP 60 cd_60 := ck_60
set_option maxRecDepth 100000 in
theorem tb_61 : tbP 61 cd_61 := ck_61
set_option maxRecDepth 100000 in
theorem tb_62 : tbP 62 cd_62 := ck_62
set_option maxRecDepth 100000 in
theorem tb_63 : tbP 63 cd_63 := ck_63
set_option maxRecDepth 100000 in
theorem tb_64 : tbP 64 cd_64 := ck_64
set_option maxRecDepth 100000 in
theorem tb_65 : tbP 65 cd_65 := ck_65
set_option maxRecDepth 100000 in
theorem tb_66 : tbP 66 cd_66 := ck_66
set_option maxRecDepth 100000 in
theorem tb_67 : tbP 67 cd_67 := ck_67
set_option maxRecDepth 100000 in
theorem tb_68 : tbP 68 cd_68 := ck_68
set_option maxRecDepth 100000 in
theorem tb_69 : tbP 69 cd_69 := ck_69
set_option maxRecDepth 100000 in
theorem tb_70 : tbP 70 cd_70 := ck_70
set_option maxRecDepth 100000 in
theorem tb_71 : tbP 71 cd_71 := ck_71
set_option maxRecDepth 100000 in
theorem tb_72 : tbP 72 cd_72 := ck_72
set_option maxRecDepth 100000 in
theorem tb_73 : tbP 73 cd_73 := ck_73
set_option maxRecDepth 100000 in
theorem tb_74 : tbP 74 cd_74 := ck_74
set_option maxRecDepth 100000 in
theorem tb_75 : tbP 75 cd_75 := ck_75
set_option maxRecDepth 100000 in
theorem tb_76 : tbP 76 cd_76 := ck_76
set_option maxRecDepth 100000 in
theorem tb_77 : tbP 77 cd_77 := ck_77
set_option maxRecDepth 100000 in
theorem tb_78 : tbP 78 cd_78 := ck_78
set_option maxRecDepth 100000 in
theorem tb_79 : tbP 79 cd_79 := ck_79
set_option maxRecDepth 100000 in
theorem tb_80 : tbP 80 cd_80 := ck_80
set_option maxRecDepth 100000 in
theorem tb_81 : tbP 81 cd_81 := ck_81
set_option maxRecDepth 100000 in
theorem tb_82 : tbP 82 cd_82 := ck_82
set_option maxRecDepth 100000 in
theorem tb_83 : tbP 83 cd_83 := ck_83
set_option maxRecDepth 100000 in
theorem tb_84 : tbP 84 cd_84 := ck_84
set_option maxRecDepth 100000 in
theorem tb_85 : tbP 85 cd_85 := ck_85
set_option maxRecDepth 100000 in
theorem tb_86 : tbP 86 cd_86 := ck_86
set_option maxRecDepth 100000 in
theorem tb_87 : tbP 87 cd_87 := ck_87
set_option maxRecDepth 100000 in
theorem tb_88 : tbP 88 cd_88 := ck_88
set_option maxRecDepth 100000 in
theorem tb_89 : tbP 89 cd_89 := ck_89
set_option maxRecDepth 100000 in
theorem tb_90 : tbP 90 cd_90 := ck_90
set_option maxRecDepth 100000 in
theorem tb_91 : tbP 91 cd_91 := ck_91
set_option maxRecDepth 100000 in
theorem tb_92 : tbP 92 cd_92 := ck_92
set_option maxRecDepth 100000 in
theorem tb_93 : tbP 93 cd_93 := ck_93
set_option maxRecDepth 100000 in
theorem tb_94 : tbP 94 cd_94 := ck_94
set_option maxRecDepth 100000 in
theorem tb_95 : tbP 95 cd_95 := ck_95
set_option maxRecDepth 100000 in
theorem tb_96 : tbP 96 cd_96 := ck_96
set_option maxRecDepth 100000 in
theorem tb_97 : tbP 97 cd_97 := ck_97
set_option maxRecDepth 100000 in
theorem tb_98 : tbP 98 cd_98 := ck_98
set_option maxRecDepth 100000 in
theorem tb_99 : tbP 99 cd_99 := ck_99
set_option maxRecDepth 100000 in
theorem tb_100 : tbP 100 cd_100 := ck_100
set_option maxRecDepth 100000 in
theorem tb_101 : tbP 101 cd_101 := ck_101
set_option maxRecDepth 100000 in
theorem tb_102 : tbP 102 cd_102 := ck_102
set_option maxRecDepth 100000 in
theorem tb_103 : tbP 103 cd_103 := ck_103
set_option maxRecDepth 100000 in
theorem tb_104 : tbP 104 cd_104 := ck_104
set_option maxRecDepth 100000 in
theorem tb_105 : tbP 105 cd_105 := ck_105
set_option maxRecDepth 100000 in
theorem tb_106 : tbP 106 cd_106 := ck_106
set_option maxRecDepth 100000 in
theorem tb_107 : tbP 107 cd_107 := ck_107
set_option maxRecDepth 100000 in
theorem tb_108 : tbP 108 cd_108 := ck_108
set_option maxRecDepth 100000 in
theorem tb_109 : tbP 109 cd_109 := ck_109
set_option maxRecDepth 100000 in
theorem tb_110 : tbP 110 cd_110 := ck_110
set_option maxRecDepth 100000 in
theorem tb_111 : tbP 111 cd_111 := ck_111
set_option maxRecDepth 100000 in
theorem tb_112 : tbP 112 cd_112 := ck_112
set_option maxRecDepth 100000 in
theorem tb_113 : tbP 113 cd_113 := ck_113
set_option maxRecDepth 100000 in
theorem tb_114 : tbP 114 cd_114 := ck_114
set_option maxRecDepth 100000 in
theorem tb_115 : tbP 115 cd_115 := ck_115
set_option maxRecDepth 100000 in
theorem tb_116 : tbP 116 cd_116 := ck_116
set_option maxRecDepth 100000 in
theorem tb_117 : tbP 117 cd_117 := ck_117
set_option maxRecDepth 100000 in
theorem tb_118 : tbP 118 cd_118 := ck_118
set_option maxRecDepth 100000 in
theorem tb_119 : tbP 119 cd_119 := ck_119
set_option maxRecDepth 100000 in
theorem tb_120 : tbP 120 cd_120 := ck_120
set_option maxRecDepth 100000 in
theorem tb_121 : tbP 121 cd_121 := ck_121
set_option maxRecDepth 100000 in
theorem tb_122 : tbP 122 cd_122 := ck_122
set_option maxRecDepth 100000 in
theorem tb_123 : tbP 123 cd_123 := ck_123
set_option maxRecDepth 100000 in
theorem tb_124 : tbP 124 cd_124 := ck_124
set_option maxRecDepth 100000 in
theorem tb_125 : tbP 125 cd_125 := ck_125
set_option maxRecDepth 100000 in
theorem tb_126 : tbP 126 cd_126 := ck_126
set_option maxRecDepth 100000 in
theorem tb_127 : tbP 127 cd_127 := ck_127
set_option maxRecDepth 100000 in
theorem tb_128 : tbP 128 cd_128 := ck_128
set_option maxRecDepth 100000 in
theorem tb_129 : tbP 129 cd_129 := ck_129
set_option maxRecDepth 100000 in
theorem tb_130 : tbP 130 cd_130 := ck_130
set_option maxRecDepth 100000 in
theorem tb_131 : tbP 131 cd_131 := ck_131
set_option maxRecDepth 100000 in
theorem tb_132 : tbP 132 cd_132 := ck_132
set_option maxRecDepth 100000 in
theorem tb_133 : tbP 133 cd_133 := ck_133
set_option maxRecDepth 100000 in
theorem tb_134 : tbP 134 cd_134 := ck_134
set_option maxRecDepth 100000 in
theorem tb_135 : tbP 135 cd_135 := ck_135
set_option maxRecDepth 100000 in
theorem tb_136 : tbP 136 cd_136 := ck_136
set_option maxRecDepth 100000 in
theorem tb_137 : tbP 137 cd_137 := ck_137
set_option maxRecDepth 100000 in
theorem tb_138 : tbP 138 cd_138 := ck_138
set_option maxRecDepth 100000 in
theorem tb_139 : tbP 139 cd_139 := ck_139
set_option maxRecDepth 100000 in
theorem tb_140 : tbP 140 cd_140 := ck_140
set_option maxRecDepth 100000 in
theorem tb_141 : tbP 141 cd_141 := ck_141
set_option maxRecDepth 100000 in
theorem tb_142 : tbP 142 cd_142 := ck_142
set_option maxRecDepth 100000 in
theorem tb_143 : tbP 143 cd_143 := ck_143
set_option maxRecDepth 100000 in
theorem tb_144 : tbP 144 cd_144 := ck_144
set_option maxRecDepth 100000 in
theorem tb_145 : tbP 145 cd_145 := ck_145
set_option maxRecDepth 100000 in
theorem tb_146 : tbP 146 cd_146 := ck_146
set_option maxRecDepth 100000 in
theorem tb_147 : tbP 147 cd_147 := ck_147
set_option maxRecDepth 100000 in
theorem tb_148 : tbP 148 cd_148 := ck_148
set_option maxRecDepth 100000 in
theorem tb_149 : tbP 149 cd_149 := ck_149
set_option maxRecDepth 100000 in
theorem tb_150 : tbP 150 cd_150 := ck_150
set_option maxRecDepth 100000 in
theorem tb_151 : tbP 151 cd_151 := ck_151
set_option maxRecDepth 100000 in
theorem tb_152 : tbP 152 cd_152 := ck_152
set_option maxRecDepth 100000 in
theorem tb_153 : tbP 153 cd_153 := ck_153
set_option maxRecDepth 100000 in
theorem tb_154 : tbP 154 cd_154 := ck_154
set_option maxRecDepth 100000 in
theorem tb_155 : tbP 155 cd_155 := ck_155
set_option maxRecDepth 100000 in
theorem tb_156 : tbP 156 cd_156 := ck_156
set_option maxRecDepth 100000 in
theorem tb_157 : tbP 157 cd_157 := ck_157
set_option maxRecDepth 100000 in
theorem tb_158 : tbP 158 cd_158 := ck_158
set_option maxRecDepth 100000 in
theorem tb_159 : tbP 159 cd_159 := ck_159
set_option maxRecDepth 100000 in
theorem tb_160 : tbP 160 cd_160 := ck_160
set_option maxRecDepth 100000 in
theorem tb_161 : tbP 161 cd_161 := ck_161
set_option maxRecDepth 100000 in
theorem tb_162 : tbP 162 cd_162 := ck_162
set_option maxRecDepth 100000 in
theorem tb_163 : tbP 163 cd_163 := ck_163
set_option maxRecDepth 100000 in
theorem tb_164 : tbP 164 cd_164 := ck_164
set_option maxRecDepth 100000 in
theorem tb_165 : tbP 165 cd_165 := ck_165
set_option maxRecDepth 100000 in
theorem tb_166 : tbP 166 cd_166 := ck_166
set_option maxRecDepth 100000 in
theorem tb_167 : tbP 167 cd_167 := ck_167
set_option maxRecDepth 100000 in
theorem tb_168 : tbP 168 cd_168 := ck_168
set_option maxRecDepth 100000 in
theorem tb_169 : tbP 169 cd_169 := ck_169
set_option maxRecDepth 100000 in
theorem tb_170 : tbP 170 cd_170 := ck_170
set_option maxRecDepth 100000 in
theorem tb_171 : tbP 171 cd_171 := ck_171
set_option maxRecDepth 100000 in
theorem tb_172 : tbP 172 cd_172 := ck_172
set_option maxRecDepth 100000 in
theorem tb_173 : tbP 173 cd_173 := ck_173
set_option maxRecDepth 100000 in
theorem tb_174 : tbP 174 cd_174 := ck_174
set_option maxRecDepth 100000 in
theorem tb_175 : tbP 175 cd_175 := ck_175
set_option maxRecDepth 100000 in
theorem tb_176 : tbP 176 cd_176 := ck_176
set_option maxRecDepth 100000 in
theorem tb_177 : tbP 177 cd_177 := ck_177
set_option maxRecDepth 100000 in
theorem tb_178 : tbP 178 cd_178 := ck_178
set_option maxRecDepth 100000 in
theorem tb_179 : tbP 179 cd_179 := ck_179
set_option maxRecDepth 100000 in
theorem tb_180 : tbP 180 cd_180 := ck_180
set_option maxRecDepth 100000 in
theorem tb_181 : tbP 181 cd_181 := ck_181
set_option maxRecDepth 100000 in
theorem tb_182 : tbP 182 cd_182 := ck_182
set_option maxRecDepth 100000 in
theorem tb_all : allC tbP 0 cdL := ⟨tb_0, tb_1, tb_2, tb_3, tb_4, tb_5, tb_6, tb_7, tb_8, tb_9, tb_10, tb_11, tb_12, tb_13, tb_14, tb_15, tb_16, tb_17, tb_18, tb_19, tb_20, tb_21, tb_22, tb_23, tb_24, tb_25, tb_26, tb_27, tb_28, tb_29, tb_30, tb_31, tb_32, tb_33, tb_34, tb_35, tb_36, tb_37, tb_38, tb_39, tb_40, tb_41, tb_42, tb_43, tb_44, tb_45, tb_46, tb_47, tb_48, tb_49, tb_50, tb_51, tb_52, tb_53, tb_54, tb_55, tb_56, tb_57, tb_58, tb_59, tb_60, tb_61, tb_62, tb_63, tb_64, tb_65, tb_66, tb_67, tb_68, tb_69, tb_70, tb_71, tb_72, tb_73, tb_74, tb_75, tb_76, tb_77, tb_78, tb_79, tb_80, tb_81, tb_82, tb_83, tb_84, tb_85, tb_86, tb_87, tb_88, tb_89, tb_90, tb_91, tb_92, tb_93, tb_94, tb_95, tb_96, tb_97, tb_98, tb_99, tb_100, tb_101, tb_102, tb_103, tb_104, tb_105, tb_106, tb_107, tb_108, tb_109, tb_110, tb_111, tb_112, tb_113, tb_114, tb_115, tb_116, tb_117, tb_118, tb_119, tb_120, tb_121, tb_122, tb_123, tb_124, tb_125, tb_126, tb_127, tb_128, tb_129, tb_130, tb_131, tb_132, tb_133, tb_134, tb_135, tb_136, tb_137, tb_138, tb_139, tb_140, tb_141, tb_142, tb_143, tb_144, tb_145, tb_146, tb_147, tb_148, tb_149, tb_150, tb_151, tb_152, tb_153, tb_154, tb_155, tb_156, tb_157, tb_158, tb_159, tb_160, tb_161, tb_162, tb_163, tb_164, tb_165, tb_166, tb_167, tb_168, tb_169, tb_170, tb_171, tb_172, tb_173, tb_174, tb_175, tb_176, tb_177, tb_178, tb_179, tb_180, tb_181, tb_182, trivial⟩
theorem tb_ok : ∀ μ, μ < 183 → tabOk true (mOwn μ) μ (mB μ) (cdTab μ) = true := by
  intro μ h
  have hl : μ < cdL.length := h
  have h1 := allC_get tb_all (j := μ) (c := cdL[μ]) (List.getElem?_eq_getElem hl)
  rw [Nat.zero_add] at h1
  have e : cdTab μ = cdL[μ] := by simp [cdTab, List.getD_eq_getElem?_getD, List.getElem?_eq_getElem hl]
  rw [e]
  exact h1
/-! THE CLEAN MACHINE IS SOUND: what it comes to, the machine comes to -/
/-- a method's run, d calls deep at most -/
def EE : Nat → Er
  | 0 => fun _ _ _ _ => False
  | d + 1 => fun μ as M Q => (exL as).length ≤ mN μ ∧ GoG (decide (μ = 15)) (EE d) (cdTab μ) Q 0 (iniL (mN μ) as) [] M
theorem EE_mono (d : Nat) : erM (EE d) := by
  induction d with
  | zero => exact fun _ _ _ _ _ _ h => h
  | succ d ih => exact fun μ as M Q Q' hQ h => ⟨h.1, h.2.mono ih hQ⟩
theorem exL_args {g : Gx} {A : Nat → Nat} (hX : (gX g).category = 1) : ∀ (as : List Vl) (i j : Nat) (v : Vl), (exL as)[j]? = some v → isU v = false → (i + j, rv g A v) ∈ lv_args i (as.map (rv g A))
  | [], i, j, v, h, _ => by simp [exL] at h
  | a :: r, i, j, v, h, hu => by
    have ih := exL_args (g := g) (A := A) hX r
    have hc := rv_cat (g := g) (A := A) (v := a) hX
    have one : zcat a = 1 → (a :: exL r)[j]? = some v → (i + j, rv g A v) ∈ lv_args i ((a :: r).map (rv g A)) := by
      intro h1 h2
      rw [h1] at hc
      show _ ∈ (i, rv g A a) :: lv_args (if (rv g A a).category = 2 then i + 2 else i + 1) (r.map (rv g A))
      rw [hc, if_neg (by decide)]
      cases j with
      | zero => simp at h2; subst h2; exact List.mem_cons_self
      | succ j =>
        have h3 := ih (i + 1) j v (by simpa using h2) hu
        rw [show i + (j + 1) = i + 1 + j by omega]
        exact List.mem_cons_of_mem _ h3
    rcases a with x | x | k | ⟨k, w⟩ | t | t | u
    · exact one rfl h
    · have h2 : (vL x :: vU :: exL r)[j]? = some v := h
      show _ ∈ (i, rv g A (vL x)) :: lv_args (if (rv g A (vL x)).category = 2 then i + 2 else i + 1) (r.map (rv g A))
      rw [if_pos (show (rv g A (vL x)).category = 2 from rfl)]
      cases j with
      | zero => simp at h2; subst h2; exact List.mem_cons_self
      | succ j =>
        cases j with
        | zero => simp at h2; subst h2; cases hu
        | succ j =>
          have h3 := ih (i + 2) j v (by simpa using h2) hu
          rw [show i + (j + 1 + 1) = i + 2 + j by omega]
          exact List.mem_cons_of_mem _ h3
    · exact one rfl h
    · exact one rfl h
    · exact one rfl h
    · exact one rfl h
    · exact one rfl h
theorem exL_len {g : Gx} {A : Nat → Nat} (hX : (gX g).category = 1) : ∀ (as : List Vl), (lg_sl (as.map (rv g A))).length = (exL as).length
  | [] => rfl
  | a :: r => by
    have ih := exL_len (g := g) (A := A) hX r
    have hc := rv_cat (g := g) (A := A) (v := a) hX
    have e0 : lg_sl ((a :: r).map (rv g A)) = (if (rv g A a).category = 2 then [Slot.val (rv g A a), .second] else [.val (rv g A a)]) ++ lg_sl (r.map (rv g A)) := by simp [lg_sl]
    rw [e0, List.length_append, ih, hc]
    rcases a with x | x | k | ⟨k, w⟩ | t | t | u
    · show 1 + _ = (vI x :: exL r).length
      simp; omega
    · show 2 + _ = (vL x :: vU :: exL r).length
      simp; omega
    · show 1 + _ = (vR k :: exL r).length
      simp; omega
    · show 1 + _ = (vW k w :: exL r).length
      simp; omega
    · show 1 + _ = (vT t :: exL r).length
      simp; omega
    · show 1 + _ = (vK t :: exL r).length
      simp; omega
    · show 1 + _ = (Sum.inr (.inr (.inr (.inr (.inr (.inr u))))) :: exL r).length
      simp; omega
theorem exL_ok : ∀ {as : List Vl}, oks as → oks (exL as)
  | [], _ => fun _ h => by cases h
  | a :: r, h => by
    have ih := exL_ok (oks_tl h)
    have ha := oks_hd h
    rcases a with x | x | k | ⟨k, w⟩ | t | t | u
    · exact oks_cons (v := vI x) ha ih
    · exact oks_cons (v := vL x) ha (oks_cons (v := vU) trivial ih)
    · exact oks_cons (v := vR k) ha ih
    · exact oks_cons (v := vW k w) ha ih
    · exact oks_cons (v := vT t) ha ih
    · exact oks_cons (v := vK t) ha ih
    · exact oks_cons (v := vU) trivial ih
theorem iniL_ok {n : Nat} {as : List Vl} (h : oks as) : oks (iniL n as) := by
  intro v hv
  rcases List.mem_append.mp hv with h1 | h1
  · exact exL_ok h v h1
  · rw [(List.mem_replicate.mp h1).2]; exact trivial
theorem iniL_has {g : Gx} {A : Nat → Nat} (hX : (gX g).category = 1) {n : Nat} {as : List Vl} {lsA : Array Slot} (h : lv_has lsA n (lv_args 0 (as.map (rv g A)))) : lv_has lsA n (prs g A (iniL n as)) := by
  refine ⟨h.1, h.2.1, fun q hq => ?_⟩
  obtain ⟨j, v, h1, h2, h3⟩ := prs_mem.mp hq
  unfold iniL at h1
  by_cases hj : j < (exL as).length
  · rw [List.getElem?_append_left hj] at h1
    have h4 := exL_args (g := g) (A := A) hX as 0 j v h1 h2
    rw [Nat.zero_add] at h4
    rw [h3]
    exact h.2.2 _ h4
  · rw [List.getElem?_append_right (by omega)] at h1
    have h4 := List.mem_of_getElem? h1
    rw [(List.mem_replicate.mp h4).2] at h2
    cases h2
set_option maxHeartbeats 4000000 in
theorem EE_ok (l : Launch) (g : Gx) (A0 : Nat → Prop) (d : Nat) : ∀ μ as M Q A, EE d μ as M Q → μ < 183 → okM g M → oks as → adr A0 A → MetU l g A0 d A μ as M Q := by
  induction d with
  | zero => intro μ as M Q A h; exact h.elim
  | succ d ih =>
    intro μ as M Q A h hμ hM has hA
    obtain ⟨hlen, hG⟩ := h
    have hmt := mt_ok hμ
    simp only [mtC, Bool.and_eq_true, decide_eq_true_eq] at hmt
    have hpn : plainName (mY μ).cls = true := hmt.1.1.1.1.2
    refine Met.ofW (cc := mB μ) (maxL := mN μ) (ret := mR μ) hpn rfl ?_
    intro p e s m args below meth c s₁ B hml hv
    obtain ⟨rfl, hctx, hP⟩ := hv
    have F : Fr p s m c g A0 (mN μ) (mB μ) (mOwn μ) := ⟨B.exec, B.bytes, hml, findClass_of_methodNamed B.named, hctx⟩
    have hX := gxC F
    rw [lg_entry_eq]
    have hl := lv_entry (as.map (rv g A)) (n := mN μ) (by rw [exL_len hX]; exact hlen)
    have hl := iniL_has hX hl
    generalize ((lg_sl (as.map (rv g A)) ++ List.replicate (mN μ - (lg_sl (as.map (rv g A))).length) Slot.unset).toArray) = lsA at hl ⊢
    have key := hG (XK p l e (rmD (d + 1)) s m (as.map (rv g A)).toArray below meth c 0 0 (MQ below (QcU g A0 μ A Q) (as.map (rv g A)).toArray s 0 0 A0) g A0 (decide (μ = 15)) A (mN μ)) (by
      intro pc ls st M' hop
      unfold opK at hop
      split at hop
      · exact hop.elim
      · rename_i op nx xs hlk
        have hrow := tab_row (tb_ok μ hμ) hlk
        exact chkM_ok (d := d) F ⟨Nat.le_refl _, by show 40 * d + 40 ≤ 40 * (d + 1); omega⟩ ⟨Nat.zero_le _, Nat.zero_le _⟩ ih hμ B.returns B.notSynchronized (fun q => of_decide_eq_true q) hrow hop)
    exact key A s.heap [] lsA ⟨hA, Or.inl rfl⟩ hP va_S.rf hl (by unfold iniL; rw [List.length_append, List.length_replicate]; omega) hM (iniL_ok has) (fun _ h => by cases h)
