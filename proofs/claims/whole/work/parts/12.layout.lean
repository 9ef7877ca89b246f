/-! the layout of the memory once both objects are made (written by a program) -/
def SH : jS := [(20, 14), (14, 15), (16, 6), (0, 2000), (0, 401), (0, 401), (1, 401), (1, 22), (1, 21), (0, 21), (0, 400), (19, 15), (3, 3), (11, 9), (0, 100), (0, 100), (0, 100), (0, 100), (0, 20), (0, 100), (0, 100), (0, 20), (0, 20), (0, 3), (0, 3), (0, 432), (0, 5), (18, 19), (0, 24), (0, 24), (0, 24), (0, 24), (0, 3), (0, 3), (0, 6), (0, 8), (0, 400), (0, 7), (0, 32), (18, 19), (0, 24), (0, 24), (0, 24), (0, 24), (0, 3), (0, 3), (0, 6), (0, 8), (0, 400), (0, 7), (0, 32), (18, 19), (0, 24), (0, 24), (0, 24), (0, 24), (0, 3), (0, 3), (0, 6), (0, 8), (0, 400), (0, 7), (0, 32), (4, 3), (13, 18), (0, 6), (0, 64), (2, 64), (0, 6), (0, 6), (0, 6), (0, 6), (0, 36), (0, 384), (0, 64), (0, 64), (0, 64), (0, 64), (13, 18), (0, 6), (0, 64), (2, 64), (0, 6), (0, 6), (0, 6), (0, 6), (0, 36), (0, 384), (0, 64), (0, 64), (0, 64), (0, 64), (13, 18), (0, 6), (0, 64), (2, 64), (0, 6), (0, 6), (0, 6), (0, 6), (0, 36), (0, 384), (0, 64), (0, 64), (0, 64), (0, 64), (12, 18), (0, 3), (0, 18), (0, 18), (0, 18), (0, 3), (0, 3), (0, 3), (0, 486), (0, 18), (0, 18), (0, 18), (0, 18), (0, 19), (17, 9), (0, 1024), (0, 20), (0, 20), (0, 20), (0, 1024), (2, 1024), (10, 7), (0, 10), (0, 8), (2, 8), (0, 10), (0, 2816), (15, 6), (0, 12), (0, 30), (0, 30), (0, 30), (0, 12), (21, 105), (0, 2000), (0, 2001), (0, 2001), (0, 2001), (1, 2001), (0, 3), (0, 21), (0, 3), (0, 3), (0, 72), (0, 72), (0, 72), (0, 72), (2, 72), (0, 3), (0, 9), (0, 9), (0, 3), (0, 18), (0, 3), (0, 24), (0, 24), (0, 3), (0, 1500), (0, 1500), (0, 3), (2, 600), (0, 600), (0, 600), (0, 600), (0, 600), (0, 600), (1, 30), (0, 30), (0, 100), (0, 100), (0, 100), (0, 100), (0, 100), (0, 20), (0, 20), (0, 20), (0, 20), (0, 8), (2, 8), (0, 10), (0, 30), (0, 30), (0, 30), (0, 500), (2, 24), (0, 432), (0, 5), (0, 500), (2, 20), (0, 6), (0, 6), (0, 64), (0, 384), (2, 64), (0, 64), (0, 20), (0, 6), (0, 64), (0, 64), (0, 6), (0, 18), (0, 18), (0, 18), (0, 3), (0, 18), (2, 18), (0, 18), (0, 18), (0, 3), (0, 1024), (0, 2816), (0, 12)]
theorem at_0 : jat SH 0 20 14 := ⟨by decide, by decide +kernel⟩
theorem at_1 : jat SH 1 14 15 := ⟨by decide, by decide +kernel⟩
theorem at_2 : jat SH 2 16 6 := ⟨by decide, by decide +kernel⟩
theorem at_3 : jat SH 3 0 2000 := ⟨by decide, by decide +kernel⟩
theorem at_4 : jat SH 4 0 401 := ⟨by decide, by decide +kernel⟩
theorem at_5 : jat SH 5 0 401 := ⟨by decide, by decide +kernel⟩
theorem at_6 : jat SH 6 1 401 := ⟨by decide, by decide +kernel⟩
theorem at_7 : jat SH 7 1 22 := ⟨by decide, by decide +kernel⟩
theorem at_8 : jat SH 8 1 21 := ⟨by decide, by decide +kernel⟩
theorem at_9 : jat SH 9 0 21 := ⟨by decide, by decide +kernel⟩
theorem at_10 : jat SH 10 0 400 := ⟨by decide, by decide +kernel⟩
theorem at_11 : jat SH 11 19 15 := ⟨by decide, by decide +kernel⟩
theorem at_12 : jat SH 12 3 3 := ⟨by decide, by decide +kernel⟩
theorem at_13 : jat SH 13 11 9 := ⟨by decide, by decide +kernel⟩
theorem at_14 : jat SH 14 0 100 := ⟨by decide, by decide +kernel⟩
theorem at_15 : jat SH 15 0 100 := ⟨by decide, by decide +kernel⟩
theorem at_16 : jat SH 16 0 100 := ⟨by decide, by decide +kernel⟩
theorem at_17 : jat SH 17 0 100 := ⟨by decide, by decide +kernel⟩
theorem at_18 : jat SH 18 0 20 := ⟨by decide, by decide +kernel⟩
theorem at_19 : jat SH 19 0 100 := ⟨by decide, by decide +kernel⟩
theorem at_20 : jat SH 20 0 100 := ⟨by decide, by decide +kernel⟩
theorem at_21 : jat SH 21 0 20 := ⟨by decide, by decide +kernel⟩
theorem at_22 : jat SH 22 0 20 := ⟨by decide, by decide +kernel⟩
theorem at_23 : jat SH 23 0 3 := ⟨by decide, by decide +kernel⟩
theorem at_24 : jat SH 24 0 3 := ⟨by decide, by decide +kernel⟩
theorem at_25 : jat SH 25 0 432 := ⟨by decide, by decide +kernel⟩
theorem at_26 : jat SH 26 0 5 := ⟨by decide, by decide +kernel⟩
theorem at_27 : jat SH 27 18 19 := ⟨by decide, by decide +kernel⟩
theorem at_28 : jat SH 28 0 24 := ⟨by decide, by decide +kernel⟩
theorem at_29 : jat SH 29 0 24 := ⟨by decide, by decide +kernel⟩
theorem at_30 : jat SH 30 0 24 := ⟨by decide, by decide +kernel⟩
theorem at_31 : jat SH 31 0 24 := ⟨by decide, by decide +kernel⟩
theorem at_32 : jat SH 32 0 3 := ⟨by decide, by decide +kernel⟩
theorem at_33 : jat SH 33 0 3 := ⟨by decide, by decide +kernel⟩
theorem at_34 : jat SH 34 0 6 := ⟨by decide, by decide +kernel⟩
theorem at_35 : jat SH 35 0 8 := ⟨by decide, by decide +kernel⟩
theorem at_36 : jat SH 36 0 400 := ⟨by decide, by decide +kernel⟩
theorem at_37 : jat SH 37 0 7 := ⟨by decide, by decide +kernel⟩
theorem at_38 : jat SH 38 0 32 := ⟨by decide, by decide +kernel⟩
theorem at_39 : jat SH 39 18 19 := ⟨by decide, by decide +kernel⟩
theorem at_40 : jat SH 40 0 24 := ⟨by decide, by decide +kernel⟩
theorem at_41 : jat SH 41 0 24 := ⟨by decide, by decide +kernel⟩
theorem at_42 : jat SH 42 0 24 := ⟨by decide, by decide +kernel⟩
theorem at_43 : jat SH 43 0 24 := ⟨by decide, by decide +kernel⟩
theorem at_44 : jat SH 44 0 3 := ⟨by decide, by decide +kernel⟩
theorem at_45 : jat SH 45 0 3 := ⟨by decide, by decide +kernel⟩
theorem at_46 : jat SH 46 0 6 := ⟨by decide, by decide +kernel⟩
theorem at_47 : jat SH 47 0 8 := ⟨by decide, by decide +kernel⟩
theorem at_48 : jat SH 48 0 400 := ⟨by decide, by decide +kernel⟩
theorem at_49 : jat SH 49 0 7 := ⟨by decide, by decide +kernel⟩
theorem at_50 : jat SH 50 0 32 := ⟨by decide, by decide +kernel⟩
theorem at_51 : jat SH 51 18 19 := ⟨by decide, by decide +kernel⟩
theorem at_52 : jat SH 52 0 24 := ⟨by decide, by decide +kernel⟩
theorem at_53 : jat SH 53 0 24 := ⟨by decide, by decide +kernel⟩
theorem at_54 : jat SH 54 0 24 := ⟨by decide, by decide +kernel⟩
theorem at_55 : jat SH 55 0 24 := ⟨by decide, by decide +kernel⟩
theorem at_56 : jat SH 56 0 3 := ⟨by decide, by decide +kernel⟩
theorem at_57 : jat SH 57 0 3 := ⟨by decide, by decide +kernel⟩
theorem at_58 : jat SH 58 0 6 := ⟨by decide, by decide +kernel⟩
theorem at_59 : jat SH 59 0 8 := ⟨by decide, by decide +kernel⟩
theorem at_60 : jat SH 60 0 400 := ⟨by decide, by decide +kernel⟩
theorem at_61 : jat SH 61 0 7 := ⟨by decide, by decide +kernel⟩
theorem at_62 : jat SH 62 0 32 := ⟨by decide, by decide +kernel⟩
theorem at_63 : jat SH 63 4 3 := ⟨by decide, by decide +kernel⟩
theorem at_64 : jat SH 64 13 18 := ⟨by decide, by decide +kernel⟩
theorem at_65 : jat SH 65 0 6 := ⟨by decide, by decide +kernel⟩
theorem at_66 : jat SH 66 0 64 := ⟨by decide, by decide +kernel⟩
theorem at_67 : jat SH 67 2 64 := ⟨by decide, by decide +kernel⟩
theorem at_68 : jat SH 68 0 6 := ⟨by decide, by decide +kernel⟩
theorem at_69 : jat SH 69 0 6 := ⟨by decide, by decide +kernel⟩
theorem at_70 : jat SH 70 0 6 := ⟨by decide, by decide +kernel⟩
theorem at_71 : jat SH 71 0 6 := ⟨by decide, by decide +kernel⟩
theorem at_72 : jat SH 72 0 36 := ⟨by decide, by decide +kernel⟩
theorem at_73 : jat SH 73 0 384 := ⟨by decide, by decide +kernel⟩
theorem at_74 : jat SH 74 0 64 := ⟨by decide, by decide +kernel⟩
theorem at_75 : jat SH 75 0 64 := ⟨by decide, by decide +kernel⟩
theorem at_76 : jat SH 76 0 64 := ⟨by decide, by decide +kernel⟩
theorem at_77 : jat SH 77 0 64 := ⟨by decide, by decide +kernel⟩
theorem at_78 : jat SH 78 13 18 := ⟨by decide, by decide +kernel⟩
theorem at_79 : jat SH 79 0 6 := ⟨by decide, by decide +kernel⟩
theorem at_80 : jat SH 80 0 64 := ⟨by decide, by decide +kernel⟩
theorem at_81 : jat SH 81 2 64 := ⟨by decide, by decide +kernel⟩
theorem at_82 : jat SH 82 0 6 := ⟨by decide, by decide +kernel⟩
theorem at_83 : jat SH 83 0 6 := ⟨by decide, by decide +kernel⟩
theorem at_84 : jat SH 84 0 6 := ⟨by decide, by decide +kernel⟩
theorem at_85 : jat SH 85 0 6 := ⟨by decide, by decide +kernel⟩
theorem at_86 : jat SH 86 0 36 := ⟨by decide, by decide +kernel⟩
theorem at_87 : jat SH 87 0 384 := ⟨by decide, by decide +kernel⟩
theorem at_88 : jat SH 88 0 64 := ⟨by decide, by decide +kernel⟩
theorem at_89 : jat SH 89 0 64 := ⟨by decide, by decide +kernel⟩
theorem at_90 : jat SH 90 0 64 := ⟨by decide, by decide +kernel⟩
theorem at_91 : jat SH 91 0 64 := ⟨by decide, by decide +kernel⟩
theorem at_92 : jat SH 92 13 18 := ⟨by decide, by decide +kernel⟩
theorem at_93 : jat SH 93 0 6 := ⟨by decide, by decide +kernel⟩
theorem at_94 : jat SH 94 0 64 := ⟨by decide, by decide +kernel⟩
theorem at_95 : jat SH 95 2 64 := ⟨by decide, by decide +kernel⟩
theorem at_96 : jat SH 96 0 6 := ⟨by decide, by decide +kernel⟩
theorem at_97 : jat SH 97 0 6 := ⟨by decide, by decide +kernel⟩
theorem at_98 : jat SH 98 0 6 := ⟨by decide, by decide +kernel⟩
theorem at_99 : jat SH 99 0 6 := ⟨by decide, by decide +kernel⟩
theorem at_100 : jat SH 100 0 36 := ⟨by decide, by decide +kernel⟩
theorem at_101 : jat SH 101 0 384 := ⟨by decide, by decide +kernel⟩
theorem at_102 : jat SH 102 0 64 := ⟨by decide, by decide +kernel⟩
theorem at_103 : jat SH 103 0 64 := ⟨by decide, by decide +kernel⟩
theorem at_104 : jat SH 104 0 64 := ⟨by decide, by decide +kernel⟩
theorem at_105 : jat SH 105 0 64 := ⟨by decide, by decide +kernel⟩
theorem at_106 : jat SH 106 12 18 := ⟨by decide, by decide +kernel⟩
theorem at_107 : jat SH 107 0 3 := ⟨by decide, by decide +kernel⟩
theorem at_108 : jat SH 108 0 18 := ⟨by decide, by decide +kernel⟩
theorem at_109 : jat SH 109 0 18 := ⟨by decide, by decide +kernel⟩
theorem at_110 : jat SH 110 0 18 := ⟨by decide, by decide +kernel⟩
theorem at_111 : jat SH 111 0 3 := ⟨by decide, by decide +kernel⟩
theorem at_112 : jat SH 112 0 3 := ⟨by decide, by decide +kernel⟩
theorem at_113 : jat SH 113 0 3 := ⟨by decide, by decide +kernel⟩
theorem at_114 : jat SH 114 0 486 := ⟨by decide, by decide +kernel⟩
theorem at_115 : jat SH 115 0 18 := ⟨by decide, by decide +kernel⟩
theorem at_116 : jat SH 116 0 18 := ⟨by decide, by decide +kernel⟩
theorem at_117 : jat SH 117 0 18 := ⟨by decide, by decide +kernel⟩
theorem at_118 : jat SH 118 0 18 := ⟨by decide, by decide +kernel⟩
theorem at_119 : jat SH 119 0 19 := ⟨by decide, by decide +kernel⟩
theorem at_120 : jat SH 120 17 9 := ⟨by decide, by decide +kernel⟩
theorem at_121 : jat SH 121 0 1024 := ⟨by decide, by decide +kernel⟩
theorem at_122 : jat SH 122 0 20 := ⟨by decide, by decide +kernel⟩
theorem at_123 : jat SH 123 0 20 := ⟨by decide, by decide +kernel⟩
theorem at_124 : jat SH 124 0 20 := ⟨by decide, by decide +kernel⟩
theorem at_125 : jat SH 125 0 1024 := ⟨by decide, by decide +kernel⟩
theorem at_126 : jat SH 126 2 1024 := ⟨by decide, by decide +kernel⟩
theorem at_127 : jat SH 127 10 7 := ⟨by decide, by decide +kernel⟩
theorem at_128 : jat SH 128 0 10 := ⟨by decide, by decide +kernel⟩
theorem at_129 : jat SH 129 0 8 := ⟨by decide, by decide +kernel⟩
theorem at_130 : jat SH 130 2 8 := ⟨by decide, by decide +kernel⟩
theorem at_131 : jat SH 131 0 10 := ⟨by decide, by decide +kernel⟩
theorem at_132 : jat SH 132 0 2816 := ⟨by decide, by decide +kernel⟩
theorem at_133 : jat SH 133 15 6 := ⟨by decide, by decide +kernel⟩
theorem at_134 : jat SH 134 0 12 := ⟨by decide, by decide +kernel⟩
theorem at_135 : jat SH 135 0 30 := ⟨by decide, by decide +kernel⟩
theorem at_136 : jat SH 136 0 30 := ⟨by decide, by decide +kernel⟩
theorem at_137 : jat SH 137 0 30 := ⟨by decide, by decide +kernel⟩
theorem at_138 : jat SH 138 0 12 := ⟨by decide, by decide +kernel⟩
theorem at_139 : jat SH 139 21 105 := ⟨by decide, by decide +kernel⟩
theorem at_140 : jat SH 140 0 2000 := ⟨by decide, by decide +kernel⟩
theorem at_141 : jat SH 141 0 2001 := ⟨by decide, by decide +kernel⟩
theorem at_142 : jat SH 142 0 2001 := ⟨by decide, by decide +kernel⟩
theorem at_143 : jat SH 143 0 2001 := ⟨by decide, by decide +kernel⟩
theorem at_144 : jat SH 144 1 2001 := ⟨by decide, by decide +kernel⟩
theorem at_145 : jat SH 145 0 3 := ⟨by decide, by decide +kernel⟩
theorem at_146 : jat SH 146 0 21 := ⟨by decide, by decide +kernel⟩
theorem at_147 : jat SH 147 0 3 := ⟨by decide, by decide +kernel⟩
theorem at_148 : jat SH 148 0 3 := ⟨by decide, by decide +kernel⟩
theorem at_149 : jat SH 149 0 72 := ⟨by decide, by decide +kernel⟩
theorem at_150 : jat SH 150 0 72 := ⟨by decide, by decide +kernel⟩
theorem at_151 : jat SH 151 0 72 := ⟨by decide, by decide +kernel⟩
theorem at_152 : jat SH 152 0 72 := ⟨by decide, by decide +kernel⟩
theorem at_153 : jat SH 153 2 72 := ⟨by decide, by decide +kernel⟩
theorem at_154 : jat SH 154 0 3 := ⟨by decide, by decide +kernel⟩
theorem at_155 : jat SH 155 0 9 := ⟨by decide, by decide +kernel⟩
theorem at_156 : jat SH 156 0 9 := ⟨by decide, by decide +kernel⟩
theorem at_157 : jat SH 157 0 3 := ⟨by decide, by decide +kernel⟩
theorem at_158 : jat SH 158 0 18 := ⟨by decide, by decide +kernel⟩
theorem at_159 : jat SH 159 0 3 := ⟨by decide, by decide +kernel⟩
theorem at_160 : jat SH 160 0 24 := ⟨by decide, by decide +kernel⟩
theorem at_161 : jat SH 161 0 24 := ⟨by decide, by decide +kernel⟩
theorem at_162 : jat SH 162 0 3 := ⟨by decide, by decide +kernel⟩
theorem at_163 : jat SH 163 0 1500 := ⟨by decide, by decide +kernel⟩
theorem at_164 : jat SH 164 0 1500 := ⟨by decide, by decide +kernel⟩
theorem at_165 : jat SH 165 0 3 := ⟨by decide, by decide +kernel⟩
theorem at_166 : jat SH 166 2 600 := ⟨by decide, by decide +kernel⟩
theorem at_167 : jat SH 167 0 600 := ⟨by decide, by decide +kernel⟩
theorem at_168 : jat SH 168 0 600 := ⟨by decide, by decide +kernel⟩
theorem at_169 : jat SH 169 0 600 := ⟨by decide, by decide +kernel⟩
theorem at_170 : jat SH 170 0 600 := ⟨by decide, by decide +kernel⟩
theorem at_171 : jat SH 171 0 600 := ⟨by decide, by decide +kernel⟩
theorem at_172 : jat SH 172 1 30 := ⟨by decide, by decide +kernel⟩
theorem at_173 : jat SH 173 0 30 := ⟨by decide, by decide +kernel⟩
theorem at_174 : jat SH 174 0 100 := ⟨by decide, by decide +kernel⟩
theorem at_175 : jat SH 175 0 100 := ⟨by decide, by decide +kernel⟩
theorem at_176 : jat SH 176 0 100 := ⟨by decide, by decide +kernel⟩
theorem at_177 : jat SH 177 0 100 := ⟨by decide, by decide +kernel⟩
theorem at_178 : jat SH 178 0 100 := ⟨by decide, by decide +kernel⟩
theorem at_179 : jat SH 179 0 20 := ⟨by decide, by decide +kernel⟩
theorem at_180 : jat SH 180 0 20 := ⟨by decide, by decide +kernel⟩
theorem at_181 : jat SH 181 0 20 := ⟨by decide, by decide +kernel⟩
theorem at_182 : jat SH 182 0 20 := ⟨by decide, by decide +kernel⟩
theorem at_183 : jat SH 183 0 8 := ⟨by decide, by decide +kernel⟩
theorem at_184 : jat SH 184 2 8 := ⟨by decide, by decide +kernel⟩
theorem at_185 : jat SH 185 0 10 := ⟨by decide, by decide +kernel⟩
theorem at_186 : jat SH 186 0 30 := ⟨by decide, by decide +kernel⟩
theorem at_187 : jat SH 187 0 30 := ⟨by decide, by decide +kernel⟩
theorem at_188 : jat SH 188 0 30 := ⟨by decide, by decide +kernel⟩
theorem at_189 : jat SH 189 0 500 := ⟨by decide, by decide +kernel⟩
theorem at_190 : jat SH 190 2 24 := ⟨by decide, by decide +kernel⟩
theorem at_191 : jat SH 191 0 432 := ⟨by decide, by decide +kernel⟩
theorem at_192 : jat SH 192 0 5 := ⟨by decide, by decide +kernel⟩
theorem at_193 : jat SH 193 0 500 := ⟨by decide, by decide +kernel⟩
theorem at_194 : jat SH 194 2 20 := ⟨by decide, by decide +kernel⟩
theorem at_195 : jat SH 195 0 6 := ⟨by decide, by decide +kernel⟩
theorem at_196 : jat SH 196 0 6 := ⟨by decide, by decide +kernel⟩
theorem at_197 : jat SH 197 0 64 := ⟨by decide, by decide +kernel⟩
theorem at_198 : jat SH 198 0 384 := ⟨by decide, by decide +kernel⟩
theorem at_199 : jat SH 199 2 64 := ⟨by decide, by decide +kernel⟩
theorem at_200 : jat SH 200 0 64 := ⟨by decide, by decide +kernel⟩
theorem at_201 : jat SH 201 0 20 := ⟨by decide, by decide +kernel⟩
theorem at_202 : jat SH 202 0 6 := ⟨by decide, by decide +kernel⟩
theorem at_203 : jat SH 203 0 64 := ⟨by decide, by decide +kernel⟩
theorem at_204 : jat SH 204 0 64 := ⟨by decide, by decide +kernel⟩
theorem at_205 : jat SH 205 0 6 := ⟨by decide, by decide +kernel⟩
theorem at_206 : jat SH 206 0 18 := ⟨by decide, by decide +kernel⟩
theorem at_207 : jat SH 207 0 18 := ⟨by decide, by decide +kernel⟩
theorem at_208 : jat SH 208 0 18 := ⟨by decide, by decide +kernel⟩
theorem at_209 : jat SH 209 0 3 := ⟨by decide, by decide +kernel⟩
theorem at_210 : jat SH 210 0 18 := ⟨by decide, by decide +kernel⟩
theorem at_211 : jat SH 211 2 18 := ⟨by decide, by decide +kernel⟩
theorem at_212 : jat SH 212 0 18 := ⟨by decide, by decide +kernel⟩
theorem at_213 : jat SH 213 0 18 := ⟨by decide, by decide +kernel⟩
theorem at_214 : jat SH 214 0 3 := ⟨by decide, by decide +kernel⟩
theorem at_215 : jat SH 215 0 1024 := ⟨by decide, by decide +kernel⟩
theorem at_216 : jat SH 216 0 2816 := ⟨by decide, by decide +kernel⟩
theorem at_217 : jat SH 217 0 12 := ⟨by decide, by decide +kernel⟩
def jTx (p : Int) : Prop := p = 27 ∨ p = 39 ∨ p = 51
def jPl (p : Int) : Prop := p = 64 ∨ p = 78 ∨ p = 92
theorem atT_0 {p : Int} (h : jTx p) : jat SH (p + 0) 18 19 := by rcases h with rfl | rfl | rfl <;> exact ⟨by decide, by decide +kernel⟩
theorem atT_1 {p : Int} (h : jTx p) : jat SH (p + 1) 0 24 := by rcases h with rfl | rfl | rfl <;> exact ⟨by decide, by decide +kernel⟩
theorem atT_2 {p : Int} (h : jTx p) : jat SH (p + 2) 0 24 := by rcases h with rfl | rfl | rfl <;> exact ⟨by decide, by decide +kernel⟩
theorem atT_3 {p : Int} (h : jTx p) : jat SH (p + 3) 0 24 := by rcases h with rfl | rfl | rfl <;> exact ⟨by decide, by decide +kernel⟩
theorem atT_4 {p : Int} (h : jTx p) : jat SH (p + 4) 0 24 := by rcases h with rfl | rfl | rfl <;> exact ⟨by decide, by decide +kernel⟩
theorem atT_5 {p : Int} (h : jTx p) : jat SH (p + 5) 0 3 := by rcases h with rfl | rfl | rfl <;> exact ⟨by decide, by decide +kernel⟩
theorem atT_6 {p : Int} (h : jTx p) : jat SH (p + 6) 0 3 := by rcases h with rfl | rfl | rfl <;> exact ⟨by decide, by decide +kernel⟩
theorem atT_7 {p : Int} (h : jTx p) : jat SH (p + 7) 0 6 := by rcases h with rfl | rfl | rfl <;> exact ⟨by decide, by decide +kernel⟩
theorem atT_8 {p : Int} (h : jTx p) : jat SH (p + 8) 0 8 := by rcases h with rfl | rfl | rfl <;> exact ⟨by decide, by decide +kernel⟩
theorem atT_9 {p : Int} (h : jTx p) : jat SH (p + 9) 0 400 := by rcases h with rfl | rfl | rfl <;> exact ⟨by decide, by decide +kernel⟩
theorem atT_10 {p : Int} (h : jTx p) : jat SH (p + 10) 0 7 := by rcases h with rfl | rfl | rfl <;> exact ⟨by decide, by decide +kernel⟩
theorem atT_11 {p : Int} (h : jTx p) : jat SH (p + 11) 0 32 := by rcases h with rfl | rfl | rfl <;> exact ⟨by decide, by decide +kernel⟩
theorem atT {p : Int} (h : jTx p) : jat SH p 18 19 := by rcases h with rfl | rfl | rfl <;> exact ⟨by decide, by decide +kernel⟩
theorem atP_0 {p : Int} (h : jPl p) : jat SH (p + 0) 13 18 := by rcases h with rfl | rfl | rfl <;> exact ⟨by decide, by decide +kernel⟩
theorem atP_1 {p : Int} (h : jPl p) : jat SH (p + 1) 0 6 := by rcases h with rfl | rfl | rfl <;> exact ⟨by decide, by decide +kernel⟩
theorem atP_2 {p : Int} (h : jPl p) : jat SH (p + 2) 0 64 := by rcases h with rfl | rfl | rfl <;> exact ⟨by decide, by decide +kernel⟩
theorem atP_3 {p : Int} (h : jPl p) : jat SH (p + 3) 2 64 := by rcases h with rfl | rfl | rfl <;> exact ⟨by decide, by decide +kernel⟩
theorem atP_4 {p : Int} (h : jPl p) : jat SH (p + 4) 0 6 := by rcases h with rfl | rfl | rfl <;> exact ⟨by decide, by decide +kernel⟩
theorem atP_5 {p : Int} (h : jPl p) : jat SH (p + 5) 0 6 := by rcases h with rfl | rfl | rfl <;> exact ⟨by decide, by decide +kernel⟩
theorem atP_6 {p : Int} (h : jPl p) : jat SH (p + 6) 0 6 := by rcases h with rfl | rfl | rfl <;> exact ⟨by decide, by decide +kernel⟩
theorem atP_7 {p : Int} (h : jPl p) : jat SH (p + 7) 0 6 := by rcases h with rfl | rfl | rfl <;> exact ⟨by decide, by decide +kernel⟩
theorem atP_8 {p : Int} (h : jPl p) : jat SH (p + 8) 0 36 := by rcases h with rfl | rfl | rfl <;> exact ⟨by decide, by decide +kernel⟩
theorem atP_9 {p : Int} (h : jPl p) : jat SH (p + 9) 0 384 := by rcases h with rfl | rfl | rfl <;> exact ⟨by decide, by decide +kernel⟩
theorem atP_10 {p : Int} (h : jPl p) : jat SH (p + 10) 0 64 := by rcases h with rfl | rfl | rfl <;> exact ⟨by decide, by decide +kernel⟩
theorem atP_11 {p : Int} (h : jPl p) : jat SH (p + 11) 0 64 := by rcases h with rfl | rfl | rfl <;> exact ⟨by decide, by decide +kernel⟩
theorem atP_12 {p : Int} (h : jPl p) : jat SH (p + 12) 0 64 := by rcases h with rfl | rfl | rfl <;> exact ⟨by decide, by decide +kernel⟩
theorem atP_13 {p : Int} (h : jPl p) : jat SH (p + 13) 0 64 := by rcases h with rfl | rfl | rfl <;> exact ⟨by decide, by decide +kernel⟩
theorem atP {p : Int} (h : jPl p) : jat SH p 13 18 := by rcases h with rfl | rfl | rfl <;> exact ⟨by decide, by decide +kernel⟩
def layL : List (Int × Int × Int) := [(0, 0, 1), (0, 1, 2), (0, 2, 11), (0, 3, 12), (0, 4, 13), (0, 5, 63), (0, 6, 106), (0, 7, 120), (0, 8, 127), (0, 9, 133), (1, 2, 2), (1, 6, 8), (1, 7, 9), (1, 9, 10), (2, 0, 3), (2, 2, 4), (2, 3, 5), (2, 4, 6), (2, 5, 7), (11, 0, 12), (11, 1, 13), (11, 7, 21), (11, 8, 22), (11, 10, 23), (11, 11, 24), (11, 12, 25), (11, 14, 26), (12, 0, 27), (12, 1, 39), (12, 2, 51), (13, 2, 14), (13, 3, 15), (13, 4, 16), (13, 5, 17), (13, 6, 18), (13, 7, 19), (13, 8, 20), (27, 3, 28), (27, 4, 29), (27, 5, 30), (27, 6, 31), (27, 9, 32), (27, 10, 33), (27, 12, 34), (27, 14, 35), (27, 15, 36), (27, 17, 37), (27, 18, 38), (39, 3, 40), (39, 4, 41), (39, 5, 42), (39, 6, 43), (39, 9, 44), (39, 10, 45), (39, 12, 46), (39, 14, 47), (39, 15, 48), (39, 17, 49), (39, 18, 50), (51, 3, 52), (51, 4, 53), (51, 5, 54), (51, 6, 55), (51, 9, 56), (51, 10, 57), (51, 12, 58), (51, 14, 59), (51, 15, 60), (51, 17, 61), (51, 18, 62), (63, 0, 64), (63, 1, 78), (63, 2, 92), (64, 1, 65), (64, 2, 66), (64, 3, 67), (64, 5, 68), (64, 7, 69), (64, 10, 70), (64, 11, 71), (64, 12, 72), (64, 13, 73), (64, 14, 74), (64, 15, 75), (64, 16, 76), (64, 17, 77), (78, 1, 79), (78, 2, 80), (78, 3, 81), (78, 5, 82), (78, 7, 83), (78, 10, 84), (78, 11, 85), (78, 12, 86), (78, 13, 87), (78, 14, 88), (78, 15, 89), (78, 16, 90), (78, 17, 91), (92, 1, 93), (92, 2, 94), (92, 3, 95), (92, 5, 96), (92, 7, 97), (92, 10, 98), (92, 11, 99), (92, 12, 100), (92, 13, 101), (92, 14, 102), (92, 15, 103), (92, 16, 104), (92, 17, 105), (106, 2, 107), (106, 6, 108), (106, 7, 109), (106, 8, 110), (106, 9, 111), (106, 10, 112), (106, 11, 113), (106, 12, 114), (106, 13, 115), (106, 14, 116), (106, 15, 117), (106, 16, 118), (106, 17, 119), (120, 1, 121), (120, 2, 122), (120, 3, 123), (120, 4, 124), (120, 5, 125), (120, 6, 126), (127, 1, 128), (127, 2, 129), (127, 3, 130), (127, 4, 131), (127, 5, 132), (133, 1, 134), (133, 2, 135), (133, 3, 136), (133, 4, 137), (133, 5, 138), (139, 1, 140), (139, 3, 141), (139, 4, 142), (139, 5, 143), (139, 6, 144), (139, 14, 145), (139, 15, 146), (139, 16, 147), (139, 17, 148), (139, 18, 149), (139, 19, 150), (139, 20, 151), (139, 21, 152), (139, 22, 153), (139, 23, 154), (139, 24, 155), (139, 25, 156), (139, 26, 157), (139, 27, 158), (139, 28, 159), (139, 29, 160), (139, 30, 161), (139, 31, 162), (139, 32, 163), (139, 33, 164), (139, 34, 165), (139, 35, 166), (139, 36, 167), (139, 37, 168), (139, 38, 169), (139, 39, 170), (139, 40, 171), (139, 42, 172), (139, 43, 173), (139, 45, 174), (139, 46, 175), (139, 47, 176), (139, 48, 177), (139, 49, 178), (139, 51, 179), (139, 53, 180), (139, 54, 181), (139, 55, 182), (139, 57, 183), (139, 58, 184), (139, 59, 185), (139, 61, 186), (139, 62, 187), (139, 63, 188), (139, 66, 189), (139, 70, 190), (139, 71, 191), (139, 72, 192), (139, 73, 193), (139, 74, 194), (139, 76, 195), (139, 77, 196), (139, 78, 197), (139, 79, 198), (139, 80, 199), (139, 81, 200), (139, 82, 201), (139, 83, 202), (139, 84, 203), (139, 85, 204), (139, 87, 205), (139, 90, 206), (139, 91, 207), (139, 92, 208), (139, 93, 209), (139, 94, 210), (139, 95, 211), (139, 96, 212), (139, 97, 213), (139, 98, 214), (139, 99, 215), (139, 100, 216), (139, 101, 217), (-3, -1, 7), (-3, 0, 20), (-3, 1, 45), (-3, 2, 1000), (-3, 3, 5), (-3, 4, 30), (-3, 5, 100), (-3, 6, 2)]
/-- where the references lead; nothing of it changes once the objects are made, but for the view's text -/
def Lay (m : jM) : Prop := (∀ q ∈ layL, m q.1 q.2.1 = q.2.2) ∧ jTx (m 11 2)
theorem ly_0_0 {m : jM} (h : Lay m) : m 0 0 = 1 := h.1 (0, 0, 1) (List.mem_of_getElem? (i := 0) (by decide +kernel))
theorem ly_0_1 {m : jM} (h : Lay m) : m 0 1 = 2 := h.1 (0, 1, 2) (List.mem_of_getElem? (i := 1) (by decide +kernel))
theorem ly_0_2 {m : jM} (h : Lay m) : m 0 2 = 11 := h.1 (0, 2, 11) (List.mem_of_getElem? (i := 2) (by decide +kernel))
theorem ly_0_3 {m : jM} (h : Lay m) : m 0 3 = 12 := h.1 (0, 3, 12) (List.mem_of_getElem? (i := 3) (by decide +kernel))
theorem ly_0_4 {m : jM} (h : Lay m) : m 0 4 = 13 := h.1 (0, 4, 13) (List.mem_of_getElem? (i := 4) (by decide +kernel))
theorem ly_0_5 {m : jM} (h : Lay m) : m 0 5 = 63 := h.1 (0, 5, 63) (List.mem_of_getElem? (i := 5) (by decide +kernel))
theorem ly_0_6 {m : jM} (h : Lay m) : m 0 6 = 106 := h.1 (0, 6, 106) (List.mem_of_getElem? (i := 6) (by decide +kernel))
theorem ly_0_7 {m : jM} (h : Lay m) : m 0 7 = 120 := h.1 (0, 7, 120) (List.mem_of_getElem? (i := 7) (by decide +kernel))
theorem ly_0_8 {m : jM} (h : Lay m) : m 0 8 = 127 := h.1 (0, 8, 127) (List.mem_of_getElem? (i := 8) (by decide +kernel))
theorem ly_0_9 {m : jM} (h : Lay m) : m 0 9 = 133 := h.1 (0, 9, 133) (List.mem_of_getElem? (i := 9) (by decide +kernel))
theorem ly_1_2 {m : jM} (h : Lay m) : m 1 2 = 2 := h.1 (1, 2, 2) (List.mem_of_getElem? (i := 10) (by decide +kernel))
theorem ly_1_6 {m : jM} (h : Lay m) : m 1 6 = 8 := h.1 (1, 6, 8) (List.mem_of_getElem? (i := 11) (by decide +kernel))
theorem ly_1_7 {m : jM} (h : Lay m) : m 1 7 = 9 := h.1 (1, 7, 9) (List.mem_of_getElem? (i := 12) (by decide +kernel))
theorem ly_1_9 {m : jM} (h : Lay m) : m 1 9 = 10 := h.1 (1, 9, 10) (List.mem_of_getElem? (i := 13) (by decide +kernel))
theorem ly_2_0 {m : jM} (h : Lay m) : m 2 0 = 3 := h.1 (2, 0, 3) (List.mem_of_getElem? (i := 14) (by decide +kernel))
theorem ly_2_2 {m : jM} (h : Lay m) : m 2 2 = 4 := h.1 (2, 2, 4) (List.mem_of_getElem? (i := 15) (by decide +kernel))
theorem ly_2_3 {m : jM} (h : Lay m) : m 2 3 = 5 := h.1 (2, 3, 5) (List.mem_of_getElem? (i := 16) (by decide +kernel))
theorem ly_2_4 {m : jM} (h : Lay m) : m 2 4 = 6 := h.1 (2, 4, 6) (List.mem_of_getElem? (i := 17) (by decide +kernel))
theorem ly_2_5 {m : jM} (h : Lay m) : m 2 5 = 7 := h.1 (2, 5, 7) (List.mem_of_getElem? (i := 18) (by decide +kernel))
theorem ly_11_0 {m : jM} (h : Lay m) : m 11 0 = 12 := h.1 (11, 0, 12) (List.mem_of_getElem? (i := 19) (by decide +kernel))
theorem ly_11_1 {m : jM} (h : Lay m) : m 11 1 = 13 := h.1 (11, 1, 13) (List.mem_of_getElem? (i := 20) (by decide +kernel))
theorem ly_11_7 {m : jM} (h : Lay m) : m 11 7 = 21 := h.1 (11, 7, 21) (List.mem_of_getElem? (i := 21) (by decide +kernel))
theorem ly_11_8 {m : jM} (h : Lay m) : m 11 8 = 22 := h.1 (11, 8, 22) (List.mem_of_getElem? (i := 22) (by decide +kernel))
theorem ly_11_10 {m : jM} (h : Lay m) : m 11 10 = 23 := h.1 (11, 10, 23) (List.mem_of_getElem? (i := 23) (by decide +kernel))
theorem ly_11_11 {m : jM} (h : Lay m) : m 11 11 = 24 := h.1 (11, 11, 24) (List.mem_of_getElem? (i := 24) (by decide +kernel))
theorem ly_11_12 {m : jM} (h : Lay m) : m 11 12 = 25 := h.1 (11, 12, 25) (List.mem_of_getElem? (i := 25) (by decide +kernel))
theorem ly_11_14 {m : jM} (h : Lay m) : m 11 14 = 26 := h.1 (11, 14, 26) (List.mem_of_getElem? (i := 26) (by decide +kernel))
theorem ly_12_0 {m : jM} (h : Lay m) : m 12 0 = 27 := h.1 (12, 0, 27) (List.mem_of_getElem? (i := 27) (by decide +kernel))
theorem ly_12_1 {m : jM} (h : Lay m) : m 12 1 = 39 := h.1 (12, 1, 39) (List.mem_of_getElem? (i := 28) (by decide +kernel))
theorem ly_12_2 {m : jM} (h : Lay m) : m 12 2 = 51 := h.1 (12, 2, 51) (List.mem_of_getElem? (i := 29) (by decide +kernel))
theorem ly_13_2 {m : jM} (h : Lay m) : m 13 2 = 14 := h.1 (13, 2, 14) (List.mem_of_getElem? (i := 30) (by decide +kernel))
theorem ly_13_3 {m : jM} (h : Lay m) : m 13 3 = 15 := h.1 (13, 3, 15) (List.mem_of_getElem? (i := 31) (by decide +kernel))
theorem ly_13_4 {m : jM} (h : Lay m) : m 13 4 = 16 := h.1 (13, 4, 16) (List.mem_of_getElem? (i := 32) (by decide +kernel))
theorem ly_13_5 {m : jM} (h : Lay m) : m 13 5 = 17 := h.1 (13, 5, 17) (List.mem_of_getElem? (i := 33) (by decide +kernel))
theorem ly_13_6 {m : jM} (h : Lay m) : m 13 6 = 18 := h.1 (13, 6, 18) (List.mem_of_getElem? (i := 34) (by decide +kernel))
theorem ly_13_7 {m : jM} (h : Lay m) : m 13 7 = 19 := h.1 (13, 7, 19) (List.mem_of_getElem? (i := 35) (by decide +kernel))
theorem ly_13_8 {m : jM} (h : Lay m) : m 13 8 = 20 := h.1 (13, 8, 20) (List.mem_of_getElem? (i := 36) (by decide +kernel))
theorem ly_27_3 {m : jM} (h : Lay m) : m 27 3 = 28 := h.1 (27, 3, 28) (List.mem_of_getElem? (i := 37) (by decide +kernel))
theorem ly_27_4 {m : jM} (h : Lay m) : m 27 4 = 29 := h.1 (27, 4, 29) (List.mem_of_getElem? (i := 38) (by decide +kernel))
theorem ly_27_5 {m : jM} (h : Lay m) : m 27 5 = 30 := h.1 (27, 5, 30) (List.mem_of_getElem? (i := 39) (by decide +kernel))
theorem ly_27_6 {m : jM} (h : Lay m) : m 27 6 = 31 := h.1 (27, 6, 31) (List.mem_of_getElem? (i := 40) (by decide +kernel))
theorem ly_27_9 {m : jM} (h : Lay m) : m 27 9 = 32 := h.1 (27, 9, 32) (List.mem_of_getElem? (i := 41) (by decide +kernel))
theorem ly_27_10 {m : jM} (h : Lay m) : m 27 10 = 33 := h.1 (27, 10, 33) (List.mem_of_getElem? (i := 42) (by decide +kernel))
theorem ly_27_12 {m : jM} (h : Lay m) : m 27 12 = 34 := h.1 (27, 12, 34) (List.mem_of_getElem? (i := 43) (by decide +kernel))
theorem ly_27_14 {m : jM} (h : Lay m) : m 27 14 = 35 := h.1 (27, 14, 35) (List.mem_of_getElem? (i := 44) (by decide +kernel))
theorem ly_27_15 {m : jM} (h : Lay m) : m 27 15 = 36 := h.1 (27, 15, 36) (List.mem_of_getElem? (i := 45) (by decide +kernel))
theorem ly_27_17 {m : jM} (h : Lay m) : m 27 17 = 37 := h.1 (27, 17, 37) (List.mem_of_getElem? (i := 46) (by decide +kernel))
theorem ly_27_18 {m : jM} (h : Lay m) : m 27 18 = 38 := h.1 (27, 18, 38) (List.mem_of_getElem? (i := 47) (by decide +kernel))
theorem ly_39_3 {m : jM} (h : Lay m) : m 39 3 = 40 := h.1 (39, 3, 40) (List.mem_of_getElem? (i := 48) (by decide +kernel))
theorem ly_39_4 {m : jM} (h : Lay m) : m 39 4 = 41 := h.1 (39, 4, 41) (List.mem_of_getElem? (i := 49) (by decide +kernel))
theorem ly_39_5 {m : jM} (h : Lay m) : m 39 5 = 42 := h.1 (39, 5, 42) (List.mem_of_getElem? (i := 50) (by decide +kernel))
theorem ly_39_6 {m : jM} (h : Lay m) : m 39 6 = 43 := h.1 (39, 6, 43) (List.mem_of_getElem? (i := 51) (by decide +kernel))
theorem ly_39_9 {m : jM} (h : Lay m) : m 39 9 = 44 := h.1 (39, 9, 44) (List.mem_of_getElem? (i := 52) (by decide +kernel))
theorem ly_39_10 {m : jM} (h : Lay m) : m 39 10 = 45 := h.1 (39, 10, 45) (List.mem_of_getElem? (i := 53) (by decide +kernel))
theorem ly_39_12 {m : jM} (h : Lay m) : m 39 12 = 46 := h.1 (39, 12, 46) (List.mem_of_getElem? (i := 54) (by decide +kernel))
theorem ly_39_14 {m : jM} (h : Lay m) : m 39 14 = 47 := h.1 (39, 14, 47) (List.mem_of_getElem? (i := 55) (by decide +kernel))
theorem ly_39_15 {m : jM} (h : Lay m) : m 39 15 = 48 := h.1 (39, 15, 48) (List.mem_of_getElem? (i := 56) (by decide +kernel))
theorem ly_39_17 {m : jM} (h : Lay m) : m 39 17 = 49 := h.1 (39, 17, 49) (List.mem_of_getElem? (i := 57) (by decide +kernel))
theorem ly_39_18 {m : jM} (h : Lay m) : m 39 18 = 50 := h.1 (39, 18, 50) (List.mem_of_getElem? (i := 58) (by decide +kernel))
theorem ly_51_3 {m : jM} (h : Lay m) : m 51 3 = 52 := h.1 (51, 3, 52) (List.mem_of_getElem? (i := 59) (by decide +kernel))
theorem ly_51_4 {m : jM} (h : Lay m) : m 51 4 = 53 := h.1 (51, 4, 53) (List.mem_of_getElem? (i := 60) (by decide +kernel))
theorem ly_51_5 {m : jM} (h : Lay m) : m 51 5 = 54 := h.1 (51, 5, 54) (List.mem_of_getElem? (i := 61) (by decide +kernel))
theorem ly_51_6 {m : jM} (h : Lay m) : m 51 6 = 55 := h.1 (51, 6, 55) (List.mem_of_getElem? (i := 62) (by decide +kernel))
theorem ly_51_9 {m : jM} (h : Lay m) : m 51 9 = 56 := h.1 (51, 9, 56) (List.mem_of_getElem? (i := 63) (by decide +kernel))
theorem ly_51_10 {m : jM} (h : Lay m) : m 51 10 = 57 := h.1 (51, 10, 57) (List.mem_of_getElem? (i := 64) (by decide +kernel))
theorem ly_51_12 {m : jM} (h : Lay m) : m 51 12 = 58 := h.1 (51, 12, 58) (List.mem_of_getElem? (i := 65) (by decide +kernel))
theorem ly_51_14 {m : jM} (h : Lay m) : m 51 14 = 59 := h.1 (51, 14, 59) (List.mem_of_getElem? (i := 66) (by decide +kernel))
theorem ly_51_15 {m : jM} (h : Lay m) : m 51 15 = 60 := h.1 (51, 15, 60) (List.mem_of_getElem? (i := 67) (by decide +kernel))
theorem ly_51_17 {m : jM} (h : Lay m) : m 51 17 = 61 := h.1 (51, 17, 61) (List.mem_of_getElem? (i := 68) (by decide +kernel))
theorem ly_51_18 {m : jM} (h : Lay m) : m 51 18 = 62 := h.1 (51, 18, 62) (List.mem_of_getElem? (i := 69) (by decide +kernel))
theorem ly_63_0 {m : jM} (h : Lay m) : m 63 0 = 64 := h.1 (63, 0, 64) (List.mem_of_getElem? (i := 70) (by decide +kernel))
theorem ly_63_1 {m : jM} (h : Lay m) : m 63 1 = 78 := h.1 (63, 1, 78) (List.mem_of_getElem? (i := 71) (by decide +kernel))
theorem ly_63_2 {m : jM} (h : Lay m) : m 63 2 = 92 := h.1 (63, 2, 92) (List.mem_of_getElem? (i := 72) (by decide +kernel))
theorem ly_64_1 {m : jM} (h : Lay m) : m 64 1 = 65 := h.1 (64, 1, 65) (List.mem_of_getElem? (i := 73) (by decide +kernel))
theorem ly_64_2 {m : jM} (h : Lay m) : m 64 2 = 66 := h.1 (64, 2, 66) (List.mem_of_getElem? (i := 74) (by decide +kernel))
theorem ly_64_3 {m : jM} (h : Lay m) : m 64 3 = 67 := h.1 (64, 3, 67) (List.mem_of_getElem? (i := 75) (by decide +kernel))
theorem ly_64_5 {m : jM} (h : Lay m) : m 64 5 = 68 := h.1 (64, 5, 68) (List.mem_of_getElem? (i := 76) (by decide +kernel))
theorem ly_64_7 {m : jM} (h : Lay m) : m 64 7 = 69 := h.1 (64, 7, 69) (List.mem_of_getElem? (i := 77) (by decide +kernel))
theorem ly_64_10 {m : jM} (h : Lay m) : m 64 10 = 70 := h.1 (64, 10, 70) (List.mem_of_getElem? (i := 78) (by decide +kernel))
theorem ly_64_11 {m : jM} (h : Lay m) : m 64 11 = 71 := h.1 (64, 11, 71) (List.mem_of_getElem? (i := 79) (by decide +kernel))
theorem ly_64_12 {m : jM} (h : Lay m) : m 64 12 = 72 := h.1 (64, 12, 72) (List.mem_of_getElem? (i := 80) (by decide +kernel))
theorem ly_64_13 {m : jM} (h : Lay m) : m 64 13 = 73 := h.1 (64, 13, 73) (List.mem_of_getElem? (i := 81) (by decide +kernel))
theorem ly_64_14 {m : jM} (h : Lay m) : m 64 14 = 74 := h.1 (64, 14, 74) (List.mem_of_getElem? (i := 82) (by decide +kernel))
theorem ly_64_15 {m : jM} (h : Lay m) : m 64 15 = 75 := h.1 (64, 15, 75) (List.mem_of_getElem? (i := 83) (by decide +kernel))
theorem ly_64_16 {m : jM} (h : Lay m) : m 64 16 = 76 := h.1 (64, 16, 76) (List.mem_of_getElem? (i := 84) (by decide +kernel))
theorem ly_64_17 {m : jM} (h : Lay m) : m 64 17 = 77 := h.1 (64, 17, 77) (List.mem_of_getElem? (i := 85) (by decide +kernel))
theorem ly_78_1 {m : jM} (h : Lay m) : m 78 1 = 79 := h.1 (78, 1, 79) (List.mem_of_getElem? (i := 86) (by decide +kernel))
theorem ly_78_2 {m : jM} (h : Lay m) : m 78 2 = 80 := h.1 (78, 2, 80) (List.mem_of_getElem? (i := 87) (by decide +kernel))
theorem ly_78_3 {m : jM} (h : Lay m) : m 78 3 = 81 := h.1 (78, 3, 81) (List.mem_of_getElem? (i := 88) (by decide +kernel))
theorem ly_78_5 {m : jM} (h : Lay m) : m 78 5 = 82 := h.1 (78, 5, 82) (List.mem_of_getElem? (i := 89) (by decide +kernel))
theorem ly_78_7 {m : jM} (h : Lay m) : m 78 7 = 83 := h.1 (78, 7, 83) (List.mem_of_getElem? (i := 90) (by decide +kernel))
theorem ly_78_10 {m : jM} (h : Lay m) : m 78 10 = 84 := h.1 (78, 10, 84) (List.mem_of_getElem? (i := 91) (by decide +kernel))
theorem ly_78_11 {m : jM} (h : Lay m) : m 78 11 = 85 := h.1 (78, 11, 85) (List.mem_of_getElem? (i := 92) (by decide +kernel))
theorem ly_78_12 {m : jM} (h : Lay m) : m 78 12 = 86 := h.1 (78, 12, 86) (List.mem_of_getElem? (i := 93) (by decide +kernel))
theorem ly_78_13 {m : jM} (h : Lay m) : m 78 13 = 87 := h.1 (78, 13, 87) (List.mem_of_getElem? (i := 94) (by decide +kernel))
theorem ly_78_14 {m : jM} (h : Lay m) : m 78 14 = 88 := h.1 (78, 14, 88) (List.mem_of_getElem? (i := 95) (by decide +kernel))
theorem ly_78_15 {m : jM} (h : Lay m) : m 78 15 = 89 := h.1 (78, 15, 89) (List.mem_of_getElem? (i := 96) (by decide +kernel))
theorem ly_78_16 {m : jM} (h : Lay m) : m 78 16 = 90 := h.1 (78, 16, 90) (List.mem_of_getElem? (i := 97) (by decide +kernel))
theorem ly_78_17 {m : jM} (h : Lay m) : m 78 17 = 91 := h.1 (78, 17, 91) (List.mem_of_getElem? (i := 98) (by decide +kernel))
theorem ly_92_1 {m : jM} (h : Lay m) : m 92 1 = 93 := h.1 (92, 1, 93) (List.mem_of_getElem? (i := 99) (by decide +kernel))
theorem ly_92_2 {m : jM} (h : Lay m) : m 92 2 = 94 := h.1 (92, 2, 94) (List.mem_of_getElem? (i := 100) (by decide +kernel))
theorem ly_92_3 {m : jM} (h : Lay m) : m 92 3 = 95 := h.1 (92, 3, 95) (List.mem_of_getElem? (i := 101) (by decide +kernel))
theorem ly_92_5 {m : jM} (h : Lay m) : m 92 5 = 96 := h.1 (92, 5, 96) (List.mem_of_getElem? (i := 102) (by decide +kernel))
theorem ly_92_7 {m : jM} (h : Lay m) : m 92 7 = 97 := h.1 (92, 7, 97) (List.mem_of_getElem? (i := 103) (by decide +kernel))
theorem ly_92_10 {m : jM} (h : Lay m) : m 92 10 = 98 := h.1 (92, 10, 98) (List.mem_of_getElem? (i := 104) (by decide +kernel))
theorem ly_92_11 {m : jM} (h : Lay m) : m 92 11 = 99 := h.1 (92, 11, 99) (List.mem_of_getElem? (i := 105) (by decide +kernel))
theorem ly_92_12 {m : jM} (h : Lay m) : m 92 12 = 100 := h.1 (92, 12, 100) (List.mem_of_getElem? (i := 106) (by decide +kernel))
theorem ly_92_13 {m : jM} (h : Lay m) : m 92 13 = 101 := h.1 (92, 13, 101) (List.mem_of_getElem? (i := 107) (by decide +kernel))
theorem ly_92_14 {m : jM} (h : Lay m) : m 92 14 = 102 := h.1 (92, 14, 102) (List.mem_of_getElem? (i := 108) (by decide +kernel))
theorem ly_92_15 {m : jM} (h : Lay m) : m 92 15 = 103 := h.1 (92, 15, 103) (List.mem_of_getElem? (i := 109) (by decide +kernel))
theorem ly_92_16 {m : jM} (h : Lay m) : m 92 16 = 104 := h.1 (92, 16, 104) (List.mem_of_getElem? (i := 110) (by decide +kernel))
theorem ly_92_17 {m : jM} (h : Lay m) : m 92 17 = 105 := h.1 (92, 17, 105) (List.mem_of_getElem? (i := 111) (by decide +kernel))
theorem ly_106_2 {m : jM} (h : Lay m) : m 106 2 = 107 := h.1 (106, 2, 107) (List.mem_of_getElem? (i := 112) (by decide +kernel))
theorem ly_106_6 {m : jM} (h : Lay m) : m 106 6 = 108 := h.1 (106, 6, 108) (List.mem_of_getElem? (i := 113) (by decide +kernel))
theorem ly_106_7 {m : jM} (h : Lay m) : m 106 7 = 109 := h.1 (106, 7, 109) (List.mem_of_getElem? (i := 114) (by decide +kernel))
theorem ly_106_8 {m : jM} (h : Lay m) : m 106 8 = 110 := h.1 (106, 8, 110) (List.mem_of_getElem? (i := 115) (by decide +kernel))
theorem ly_106_9 {m : jM} (h : Lay m) : m 106 9 = 111 := h.1 (106, 9, 111) (List.mem_of_getElem? (i := 116) (by decide +kernel))
theorem ly_106_10 {m : jM} (h : Lay m) : m 106 10 = 112 := h.1 (106, 10, 112) (List.mem_of_getElem? (i := 117) (by decide +kernel))
theorem ly_106_11 {m : jM} (h : Lay m) : m 106 11 = 113 := h.1 (106, 11, 113) (List.mem_of_getElem? (i := 118) (by decide +kernel))
theorem ly_106_12 {m : jM} (h : Lay m) : m 106 12 = 114 := h.1 (106, 12, 114) (List.mem_of_getElem? (i := 119) (by decide +kernel))
theorem ly_106_13 {m : jM} (h : Lay m) : m 106 13 = 115 := h.1 (106, 13, 115) (List.mem_of_getElem? (i := 120) (by decide +kernel))
theorem ly_106_14 {m : jM} (h : Lay m) : m 106 14 = 116 := h.1 (106, 14, 116) (List.mem_of_getElem? (i := 121) (by decide +kernel))
theorem ly_106_15 {m : jM} (h : Lay m) : m 106 15 = 117 := h.1 (106, 15, 117) (List.mem_of_getElem? (i := 122) (by decide +kernel))
theorem ly_106_16 {m : jM} (h : Lay m) : m 106 16 = 118 := h.1 (106, 16, 118) (List.mem_of_getElem? (i := 123) (by decide +kernel))
theorem ly_106_17 {m : jM} (h : Lay m) : m 106 17 = 119 := h.1 (106, 17, 119) (List.mem_of_getElem? (i := 124) (by decide +kernel))
theorem ly_120_1 {m : jM} (h : Lay m) : m 120 1 = 121 := h.1 (120, 1, 121) (List.mem_of_getElem? (i := 125) (by decide +kernel))
theorem ly_120_2 {m : jM} (h : Lay m) : m 120 2 = 122 := h.1 (120, 2, 122) (List.mem_of_getElem? (i := 126) (by decide +kernel))
theorem ly_120_3 {m : jM} (h : Lay m) : m 120 3 = 123 := h.1 (120, 3, 123) (List.mem_of_getElem? (i := 127) (by decide +kernel))
theorem ly_120_4 {m : jM} (h : Lay m) : m 120 4 = 124 := h.1 (120, 4, 124) (List.mem_of_getElem? (i := 128) (by decide +kernel))
theorem ly_120_5 {m : jM} (h : Lay m) : m 120 5 = 125 := h.1 (120, 5, 125) (List.mem_of_getElem? (i := 129) (by decide +kernel))
theorem ly_120_6 {m : jM} (h : Lay m) : m 120 6 = 126 := h.1 (120, 6, 126) (List.mem_of_getElem? (i := 130) (by decide +kernel))
theorem ly_127_1 {m : jM} (h : Lay m) : m 127 1 = 128 := h.1 (127, 1, 128) (List.mem_of_getElem? (i := 131) (by decide +kernel))
theorem ly_127_2 {m : jM} (h : Lay m) : m 127 2 = 129 := h.1 (127, 2, 129) (List.mem_of_getElem? (i := 132) (by decide +kernel))
theorem ly_127_3 {m : jM} (h : Lay m) : m 127 3 = 130 := h.1 (127, 3, 130) (List.mem_of_getElem? (i := 133) (by decide +kernel))
theorem ly_127_4 {m : jM} (h : Lay m) : m 127 4 = 131 := h.1 (127, 4, 131) (List.mem_of_getElem? (i := 134) (by decide +kernel))
theorem ly_127_5 {m : jM} (h : Lay m) : m 127 5 = 132 := h.1 (127, 5, 132) (List.mem_of_getElem? (i := 135) (by decide +kernel))
theorem ly_133_1 {m : jM} (h : Lay m) : m 133 1 = 134 := h.1 (133, 1, 134) (List.mem_of_getElem? (i := 136) (by decide +kernel))
theorem ly_133_2 {m : jM} (h : Lay m) : m 133 2 = 135 := h.1 (133, 2, 135) (List.mem_of_getElem? (i := 137) (by decide +kernel))
theorem ly_133_3 {m : jM} (h : Lay m) : m 133 3 = 136 := h.1 (133, 3, 136) (List.mem_of_getElem? (i := 138) (by decide +kernel))
theorem ly_133_4 {m : jM} (h : Lay m) : m 133 4 = 137 := h.1 (133, 4, 137) (List.mem_of_getElem? (i := 139) (by decide +kernel))
theorem ly_133_5 {m : jM} (h : Lay m) : m 133 5 = 138 := h.1 (133, 5, 138) (List.mem_of_getElem? (i := 140) (by decide +kernel))
theorem ly_139_1 {m : jM} (h : Lay m) : m 139 1 = 140 := h.1 (139, 1, 140) (List.mem_of_getElem? (i := 141) (by decide +kernel))
theorem ly_139_3 {m : jM} (h : Lay m) : m 139 3 = 141 := h.1 (139, 3, 141) (List.mem_of_getElem? (i := 142) (by decide +kernel))
theorem ly_139_4 {m : jM} (h : Lay m) : m 139 4 = 142 := h.1 (139, 4, 142) (List.mem_of_getElem? (i := 143) (by decide +kernel))
theorem ly_139_5 {m : jM} (h : Lay m) : m 139 5 = 143 := h.1 (139, 5, 143) (List.mem_of_getElem? (i := 144) (by decide +kernel))
theorem ly_139_6 {m : jM} (h : Lay m) : m 139 6 = 144 := h.1 (139, 6, 144) (List.mem_of_getElem? (i := 145) (by decide +kernel))
theorem ly_139_14 {m : jM} (h : Lay m) : m 139 14 = 145 := h.1 (139, 14, 145) (List.mem_of_getElem? (i := 146) (by decide +kernel))
theorem ly_139_15 {m : jM} (h : Lay m) : m 139 15 = 146 := h.1 (139, 15, 146) (List.mem_of_getElem? (i := 147) (by decide +kernel))
theorem ly_139_16 {m : jM} (h : Lay m) : m 139 16 = 147 := h.1 (139, 16, 147) (List.mem_of_getElem? (i := 148) (by decide +kernel))
theorem ly_139_17 {m : jM} (h : Lay m) : m 139 17 = 148 := h.1 (139, 17, 148) (List.mem_of_getElem? (i := 149) (by decide +kernel))
theorem ly_139_18 {m : jM} (h : Lay m) : m 139 18 = 149 := h.1 (139, 18, 149) (List.mem_of_getElem? (i := 150) (by decide +kernel))
theorem ly_139_19 {m : jM} (h : Lay m) : m 139 19 = 150 := h.1 (139, 19, 150) (List.mem_of_getElem? (i := 151) (by decide +kernel))
theorem ly_139_20 {m : jM} (h : Lay m) : m 139 20 = 151 := h.1 (139, 20, 151) (List.mem_of_getElem? (i := 152) (by decide +kernel))
theorem ly_139_21 {m : jM} (h : Lay m) : m 139 21 = 152 := h.1 (139, 21, 152) (List.mem_of_getElem? (i := 153) (by decide +kernel))
theorem ly_139_22 {m : jM} (h : Lay m) : m 139 22 = 153 := h.1 (139, 22, 153) (List.mem_of_getElem? (i := 154) (by decide +kernel))
theorem ly_139_23 {m : jM} (h : Lay m) : m 139 23 = 154 := h.1 (139, 23, 154) (List.mem_of_getElem? (i := 155) (by decide +kernel))
theorem ly_139_24 {m : jM} (h : Lay m) : m 139 24 = 155 := h.1 (139, 24, 155) (List.mem_of_getElem? (i := 156) (by decide +kernel))
theorem ly_139_25 {m : jM} (h : Lay m) : m 139 25 = 156 := h.1 (139, 25, 156) (List.mem_of_getElem? (i := 157) (by decide +kernel))
theorem ly_139_26 {m : jM} (h : Lay m) : m 139 26 = 157 := h.1 (139, 26, 157) (List.mem_of_getElem? (i := 158) (by decide +kernel))
theorem ly_139_27 {m : jM} (h : Lay m) : m 139 27 = 158 := h.1 (139, 27, 158) (List.mem_of_getElem? (i := 159) (by decide +kernel))
theorem ly_139_28 {m : jM} (h : Lay m) : m 139 28 = 159 := h.1 (139, 28, 159) (List.mem_of_getElem? (i := 160) (by decide +kernel))
theorem ly_139_29 {m : jM} (h : Lay m) : m 139 29 = 160 := h.1 (139, 29, 160) (List.mem_of_getElem? (i := 161) (by decide +kernel))
theorem ly_139_30 {m : jM} (h : Lay m) : m 139 30 = 161 := h.1 (139, 30, 161) (List.mem_of_getElem? (i := 162) (by decide +kernel))
theorem ly_139_31 {m : jM} (h : Lay m) : m 139 31 = 162 := h.1 (139, 31, 162) (List.mem_of_getElem? (i := 163) (by decide +kernel))
theorem ly_139_32 {m : jM} (h : Lay m) : m 139 32 = 163 := h.1 (139, 32, 163) (List.mem_of_getElem? (i := 164) (by decide +kernel))
theorem ly_139_33 {m : jM} (h : Lay m) : m 139 33 = 164 := h.1 (139, 33, 164) (List.mem_of_getElem? (i := 165) (by decide +kernel))
theorem ly_139_34 {m : jM} (h : Lay m) : m 139 34 = 165 := h.1 (139, 34, 165) (List.mem_of_getElem? (i := 166) (by decide +kernel))
theorem ly_139_35 {m : jM} (h : Lay m) : m 139 35 = 166 := h.1 (139, 35, 166) (List.mem_of_getElem? (i := 167) (by decide +kernel))
theorem ly_139_36 {m : jM} (h : Lay m) : m 139 36 = 167 := h.1 (139, 36, 167) (List.mem_of_getElem? (i := 168) (by decide +kernel))
theorem ly_139_37 {m : jM} (h : Lay m) : m 139 37 = 168 := h.1 (139, 37, 168) (List.mem_of_getElem? (i := 169) (by decide +kernel))
theorem ly_139_38 {m : jM} (h : Lay m) : m 139 38 = 169 := h.1 (139, 38, 169) (List.mem_of_getElem? (i := 170) (by decide +kernel))
theorem ly_139_39 {m : jM} (h : Lay m) : m 139 39 = 170 := h.1 (139, 39, 170) (List.mem_of_getElem? (i := 171) (by decide +kernel))
theorem ly_139_40 {m : jM} (h : Lay m) : m 139 40 = 171 := h.1 (139, 40, 171) (List.mem_of_getElem? (i := 172) (by decide +kernel))
theorem ly_139_42 {m : jM} (h : Lay m) : m 139 42 = 172 := h.1 (139, 42, 172) (List.mem_of_getElem? (i := 173) (by decide +kernel))
theorem ly_139_43 {m : jM} (h : Lay m) : m 139 43 = 173 := h.1 (139, 43, 173) (List.mem_of_getElem? (i := 174) (by decide +kernel))
theorem ly_139_45 {m : jM} (h : Lay m) : m 139 45 = 174 := h.1 (139, 45, 174) (List.mem_of_getElem? (i := 175) (by decide +kernel))
theorem ly_139_46 {m : jM} (h : Lay m) : m 139 46 = 175 := h.1 (139, 46, 175) (List.mem_of_getElem? (i := 176) (by decide +kernel))
theorem ly_139_47 {m : jM} (h : Lay m) : m 139 47 = 176 := h.1 (139, 47, 176) (List.mem_of_getElem? (i := 177) (by decide +kernel))
theorem ly_139_48 {m : jM} (h : Lay m) : m 139 48 = 177 := h.1 (139, 48, 177) (List.mem_of_getElem? (i := 178) (by decide +kernel))
theorem ly_139_49 {m : jM} (h : Lay m) : m 139 49 = 178 := h.1 (139, 49, 178) (List.mem_of_getElem? (i := 179) (by decide +kernel))
theorem ly_139_51 {m : jM} (h : Lay m) : m 139 51 = 179 := h.1 (139, 51, 179) (List.mem_of_getElem? (i := 180) (by decide +kernel))
theorem ly_139_53 {m : jM} (h : Lay m) : m 139 53 = 180 := h.1 (139, 53, 180) (List.mem_of_getElem? (i := 181) (by decide +kernel))
theorem ly_139_54 {m : jM} (h : Lay m) : m 139 54 = 181 := h.1 (139, 54, 181) (List.mem_of_getElem? (i := 182) (by decide +kernel))
theorem ly_139_55 {m : jM} (h : Lay m) : m 139 55 = 182 := h.1 (139, 55, 182) (List.mem_of_getElem? (i := 183) (by decide +kernel))
theorem ly_139_57 {m : jM} (h : Lay m) : m 139 57 = 183 := h.1 (139, 57, 183) (List.mem_of_getElem? (i := 184) (by decide +kernel))
theorem ly_139_58 {m : jM} (h : Lay m) : m 139 58 = 184 := h.1 (139, 58, 184) (List.mem_of_getElem? (i := 185) (by decide +kernel))
theorem ly_139_59 {m : jM} (h : Lay m) : m 139 59 = 185 := h.1 (139, 59, 185) (List.mem_of_getElem? (i := 186) (by decide +kernel))
theorem ly_139_61 {m : jM} (h : Lay m) : m 139 61 = 186 := h.1 (139, 61, 186) (List.mem_of_getElem? (i := 187) (by decide +kernel))
theorem ly_139_62 {m : jM} (h : Lay m) : m 139 62 = 187 := h.1 (139, 62, 187) (List.mem_of_getElem? (i := 188) (by decide +kernel))
theorem ly_139_63 {m : jM} (h : Lay m) : m 139 63 = 188 := h.1 (139, 63, 188) (List.mem_of_getElem? (i := 189) (by decide +kernel))
theorem ly_139_66 {m : jM} (h : Lay m) : m 139 66 = 189 := h.1 (139, 66, 189) (List.mem_of_getElem? (i := 190) (by decide +kernel))
theorem ly_139_70 {m : jM} (h : Lay m) : m 139 70 = 190 := h.1 (139, 70, 190) (List.mem_of_getElem? (i := 191) (by decide +kernel))
theorem ly_139_71 {m : jM} (h : Lay m) : m 139 71 = 191 := h.1 (139, 71, 191) (List.mem_of_getElem? (i := 192) (by decide +kernel))
theorem ly_139_72 {m : jM} (h : Lay m) : m 139 72 = 192 := h.1 (139, 72, 192) (List.mem_of_getElem? (i := 193) (by decide +kernel))
theorem ly_139_73 {m : jM} (h : Lay m) : m 139 73 = 193 := h.1 (139, 73, 193) (List.mem_of_getElem? (i := 194) (by decide +kernel))
theorem ly_139_74 {m : jM} (h : Lay m) : m 139 74 = 194 := h.1 (139, 74, 194) (List.mem_of_getElem? (i := 195) (by decide +kernel))
theorem ly_139_76 {m : jM} (h : Lay m) : m 139 76 = 195 := h.1 (139, 76, 195) (List.mem_of_getElem? (i := 196) (by decide +kernel))
theorem ly_139_77 {m : jM} (h : Lay m) : m 139 77 = 196 := h.1 (139, 77, 196) (List.mem_of_getElem? (i := 197) (by decide +kernel))
theorem ly_139_78 {m : jM} (h : Lay m) : m 139 78 = 197 := h.1 (139, 78, 197) (List.mem_of_getElem? (i := 198) (by decide +kernel))
theorem ly_139_79 {m : jM} (h : Lay m) : m 139 79 = 198 := h.1 (139, 79, 198) (List.mem_of_getElem? (i := 199) (by decide +kernel))
theorem ly_139_80 {m : jM} (h : Lay m) : m 139 80 = 199 := h.1 (139, 80, 199) (List.mem_of_getElem? (i := 200) (by decide +kernel))
theorem ly_139_81 {m : jM} (h : Lay m) : m 139 81 = 200 := h.1 (139, 81, 200) (List.mem_of_getElem? (i := 201) (by decide +kernel))
theorem ly_139_82 {m : jM} (h : Lay m) : m 139 82 = 201 := h.1 (139, 82, 201) (List.mem_of_getElem? (i := 202) (by decide +kernel))
theorem ly_139_83 {m : jM} (h : Lay m) : m 139 83 = 202 := h.1 (139, 83, 202) (List.mem_of_getElem? (i := 203) (by decide +kernel))
theorem ly_139_84 {m : jM} (h : Lay m) : m 139 84 = 203 := h.1 (139, 84, 203) (List.mem_of_getElem? (i := 204) (by decide +kernel))
theorem ly_139_85 {m : jM} (h : Lay m) : m 139 85 = 204 := h.1 (139, 85, 204) (List.mem_of_getElem? (i := 205) (by decide +kernel))
theorem ly_139_87 {m : jM} (h : Lay m) : m 139 87 = 205 := h.1 (139, 87, 205) (List.mem_of_getElem? (i := 206) (by decide +kernel))
theorem ly_139_90 {m : jM} (h : Lay m) : m 139 90 = 206 := h.1 (139, 90, 206) (List.mem_of_getElem? (i := 207) (by decide +kernel))
theorem ly_139_91 {m : jM} (h : Lay m) : m 139 91 = 207 := h.1 (139, 91, 207) (List.mem_of_getElem? (i := 208) (by decide +kernel))
theorem ly_139_92 {m : jM} (h : Lay m) : m 139 92 = 208 := h.1 (139, 92, 208) (List.mem_of_getElem? (i := 209) (by decide +kernel))
theorem ly_139_93 {m : jM} (h : Lay m) : m 139 93 = 209 := h.1 (139, 93, 209) (List.mem_of_getElem? (i := 210) (by decide +kernel))
theorem ly_139_94 {m : jM} (h : Lay m) : m 139 94 = 210 := h.1 (139, 94, 210) (List.mem_of_getElem? (i := 211) (by decide +kernel))
theorem ly_139_95 {m : jM} (h : Lay m) : m 139 95 = 211 := h.1 (139, 95, 211) (List.mem_of_getElem? (i := 212) (by decide +kernel))
theorem ly_139_96 {m : jM} (h : Lay m) : m 139 96 = 212 := h.1 (139, 96, 212) (List.mem_of_getElem? (i := 213) (by decide +kernel))
theorem ly_139_97 {m : jM} (h : Lay m) : m 139 97 = 213 := h.1 (139, 97, 213) (List.mem_of_getElem? (i := 214) (by decide +kernel))
theorem ly_139_98 {m : jM} (h : Lay m) : m 139 98 = 214 := h.1 (139, 98, 214) (List.mem_of_getElem? (i := 215) (by decide +kernel))
theorem ly_139_99 {m : jM} (h : Lay m) : m 139 99 = 215 := h.1 (139, 99, 215) (List.mem_of_getElem? (i := 216) (by decide +kernel))
theorem ly_139_100 {m : jM} (h : Lay m) : m 139 100 = 216 := h.1 (139, 100, 216) (List.mem_of_getElem? (i := 217) (by decide +kernel))
theorem ly_139_101 {m : jM} (h : Lay m) : m 139 101 = 217 := h.1 (139, 101, 217) (List.mem_of_getElem? (i := 218) (by decide +kernel))
theorem ly_n3_n1 {m : jM} (h : Lay m) : m (-3) (-1) = 7 := h.1 (-3, -1, 7) (List.mem_of_getElem? (i := 219) (by decide +kernel))
theorem ly_n3_0 {m : jM} (h : Lay m) : m (-3) (0) = 20 := h.1 (-3, 0, 20) (List.mem_of_getElem? (i := 220) (by decide +kernel))
theorem ly_n3_1 {m : jM} (h : Lay m) : m (-3) (1) = 45 := h.1 (-3, 1, 45) (List.mem_of_getElem? (i := 221) (by decide +kernel))
theorem ly_n3_2 {m : jM} (h : Lay m) : m (-3) (2) = 1000 := h.1 (-3, 2, 1000) (List.mem_of_getElem? (i := 222) (by decide +kernel))
theorem ly_n3_3 {m : jM} (h : Lay m) : m (-3) (3) = 5 := h.1 (-3, 3, 5) (List.mem_of_getElem? (i := 223) (by decide +kernel))
theorem ly_n3_4 {m : jM} (h : Lay m) : m (-3) (4) = 30 := h.1 (-3, 4, 30) (List.mem_of_getElem? (i := 224) (by decide +kernel))
theorem ly_n3_5 {m : jM} (h : Lay m) : m (-3) (5) = 100 := h.1 (-3, 5, 100) (List.mem_of_getElem? (i := 225) (by decide +kernel))
theorem ly_n3_6 {m : jM} (h : Lay m) : m (-3) (6) = 2 := h.1 (-3, 6, 2) (List.mem_of_getElem? (i := 226) (by decide +kernel))
theorem lyT_3 {m : jM} {p : Int} (h : Lay m) (hp : jTx p) : m p 3 = p + 1 := by
  rcases hp with rfl | rfl | rfl
  · exact ly_27_3 h
  · exact ly_39_3 h
  · exact ly_51_3 h
theorem lyT_4 {m : jM} {p : Int} (h : Lay m) (hp : jTx p) : m p 4 = p + 2 := by
  rcases hp with rfl | rfl | rfl
  · exact ly_27_4 h
  · exact ly_39_4 h
  · exact ly_51_4 h
theorem lyT_5 {m : jM} {p : Int} (h : Lay m) (hp : jTx p) : m p 5 = p + 3 := by
  rcases hp with rfl | rfl | rfl
  · exact ly_27_5 h
  · exact ly_39_5 h
  · exact ly_51_5 h
theorem lyT_6 {m : jM} {p : Int} (h : Lay m) (hp : jTx p) : m p 6 = p + 4 := by
  rcases hp with rfl | rfl | rfl
  · exact ly_27_6 h
  · exact ly_39_6 h
  · exact ly_51_6 h
theorem lyT_9 {m : jM} {p : Int} (h : Lay m) (hp : jTx p) : m p 9 = p + 5 := by
  rcases hp with rfl | rfl | rfl
  · exact ly_27_9 h
  · exact ly_39_9 h
  · exact ly_51_9 h
theorem lyT_10 {m : jM} {p : Int} (h : Lay m) (hp : jTx p) : m p 10 = p + 6 := by
  rcases hp with rfl | rfl | rfl
  · exact ly_27_10 h
  · exact ly_39_10 h
  · exact ly_51_10 h
theorem lyT_12 {m : jM} {p : Int} (h : Lay m) (hp : jTx p) : m p 12 = p + 7 := by
  rcases hp with rfl | rfl | rfl
  · exact ly_27_12 h
  · exact ly_39_12 h
  · exact ly_51_12 h
theorem lyT_14 {m : jM} {p : Int} (h : Lay m) (hp : jTx p) : m p 14 = p + 8 := by
  rcases hp with rfl | rfl | rfl
  · exact ly_27_14 h
  · exact ly_39_14 h
  · exact ly_51_14 h
theorem lyT_15 {m : jM} {p : Int} (h : Lay m) (hp : jTx p) : m p 15 = p + 9 := by
  rcases hp with rfl | rfl | rfl
  · exact ly_27_15 h
  · exact ly_39_15 h
  · exact ly_51_15 h
theorem lyT_17 {m : jM} {p : Int} (h : Lay m) (hp : jTx p) : m p 17 = p + 10 := by
  rcases hp with rfl | rfl | rfl
  · exact ly_27_17 h
  · exact ly_39_17 h
  · exact ly_51_17 h
theorem lyT_18 {m : jM} {p : Int} (h : Lay m) (hp : jTx p) : m p 18 = p + 11 := by
  rcases hp with rfl | rfl | rfl
  · exact ly_27_18 h
  · exact ly_39_18 h
  · exact ly_51_18 h
theorem lyP_1 {m : jM} {p : Int} (h : Lay m) (hp : jPl p) : m p 1 = p + 1 := by
  rcases hp with rfl | rfl | rfl
  · exact ly_64_1 h
  · exact ly_78_1 h
  · exact ly_92_1 h
theorem lyP_2 {m : jM} {p : Int} (h : Lay m) (hp : jPl p) : m p 2 = p + 2 := by
  rcases hp with rfl | rfl | rfl
  · exact ly_64_2 h
  · exact ly_78_2 h
  · exact ly_92_2 h
theorem lyP_3 {m : jM} {p : Int} (h : Lay m) (hp : jPl p) : m p 3 = p + 3 := by
  rcases hp with rfl | rfl | rfl
  · exact ly_64_3 h
  · exact ly_78_3 h
  · exact ly_92_3 h
theorem lyP_5 {m : jM} {p : Int} (h : Lay m) (hp : jPl p) : m p 5 = p + 4 := by
  rcases hp with rfl | rfl | rfl
  · exact ly_64_5 h
  · exact ly_78_5 h
  · exact ly_92_5 h
theorem lyP_7 {m : jM} {p : Int} (h : Lay m) (hp : jPl p) : m p 7 = p + 5 := by
  rcases hp with rfl | rfl | rfl
  · exact ly_64_7 h
  · exact ly_78_7 h
  · exact ly_92_7 h
theorem lyP_10 {m : jM} {p : Int} (h : Lay m) (hp : jPl p) : m p 10 = p + 6 := by
  rcases hp with rfl | rfl | rfl
  · exact ly_64_10 h
  · exact ly_78_10 h
  · exact ly_92_10 h
theorem lyP_11 {m : jM} {p : Int} (h : Lay m) (hp : jPl p) : m p 11 = p + 7 := by
  rcases hp with rfl | rfl | rfl
  · exact ly_64_11 h
  · exact ly_78_11 h
  · exact ly_92_11 h
theorem lyP_12 {m : jM} {p : Int} (h : Lay m) (hp : jPl p) : m p 12 = p + 8 := by
  rcases hp with rfl | rfl | rfl
  · exact ly_64_12 h
  · exact ly_78_12 h
  · exact ly_92_12 h
theorem lyP_13 {m : jM} {p : Int} (h : Lay m) (hp : jPl p) : m p 13 = p + 9 := by
  rcases hp with rfl | rfl | rfl
  · exact ly_64_13 h
  · exact ly_78_13 h
  · exact ly_92_13 h
theorem lyP_14 {m : jM} {p : Int} (h : Lay m) (hp : jPl p) : m p 14 = p + 10 := by
  rcases hp with rfl | rfl | rfl
  · exact ly_64_14 h
  · exact ly_78_14 h
  · exact ly_92_14 h
theorem lyP_15 {m : jM} {p : Int} (h : Lay m) (hp : jPl p) : m p 15 = p + 11 := by
  rcases hp with rfl | rfl | rfl
  · exact ly_64_15 h
  · exact ly_78_15 h
  · exact ly_92_15 h
theorem lyP_16 {m : jM} {p : Int} (h : Lay m) (hp : jPl p) : m p 16 = p + 12 := by
  rcases hp with rfl | rfl | rfl
  · exact ly_64_16 h
  · exact ly_78_16 h
  · exact ly_92_16 h
theorem lyP_17 {m : jM} {p : Int} (h : Lay m) (hp : jPl p) : m p 17 = p + 13 := by
  rcases hp with rfl | rfl | rfl
  · exact ly_64_17 h
  · exact ly_78_17 h
  · exact ly_92_17 h
theorem Lay_up {m : jM} {p i x : Int} (h : Lay m) (hp : ∀ q ∈ layL, q.1 = p → q.2.1 ≠ i) (h2 : p = 11 → i ≠ 2) : Lay (jup m p i x) := by
  refine ⟨fun q hq => ?_, ?_⟩
  · have := hp q hq
    simp only [jup]
    rw [if_neg (fun ⟨a, b⟩ => this a b)]
    exact h.1 q hq
  · simp only [jup]
    rw [if_neg (fun ⟨a, b⟩ => h2 a.symm b.symm)]
    exact h.2
theorem Lay_up1 {m : jM} {p i x : Int} (h : Lay m) (hp : layL.all (fun q => decide (q.1 ≠ p)) = true) (h2 : p ≠ 11) : Lay (jup m p i x) := Lay_up h (fun q hq e => absurd e (by simpa using List.all_eq_true.mp hp q hq)) (fun e => absurd e h2)
theorem Lay_up2 {m : jM} {p i x : Int} (h : Lay m) (hp : layL.all (fun q => decide (q.1 ≠ p) || decide (q.2.1 ≠ i)) = true) (h2 : p ≠ 11 ∨ i ≠ 2) : Lay (jup m p i x) := Lay_up h (fun q hq e => by have := List.all_eq_true.mp hp q hq; simp [e] at this; exact this) (fun e => h2.resolve_left (fun z => z e))
theorem ny_0_10 {m : jM} {x : Int} (h : Lay m) : Lay (jup m 0 10 x) := Lay_up2 h (by decide +kernel) (by decide)
theorem ny_0_11 {m : jM} {x : Int} (h : Lay m) : Lay (jup m 0 11 x) := Lay_up2 h (by decide +kernel) (by decide)
theorem ny_0_12 {m : jM} {x : Int} (h : Lay m) : Lay (jup m 0 12 x) := Lay_up2 h (by decide +kernel) (by decide)
theorem ny_0_13 {m : jM} {x : Int} (h : Lay m) : Lay (jup m 0 13 x) := Lay_up2 h (by decide +kernel) (by decide)
theorem ny_1_0 {m : jM} {x : Int} (h : Lay m) : Lay (jup m 1 0 x) := Lay_up2 h (by decide +kernel) (by decide)
theorem ny_1_1 {m : jM} {x : Int} (h : Lay m) : Lay (jup m 1 1 x) := Lay_up2 h (by decide +kernel) (by decide)
theorem ny_1_3 {m : jM} {x : Int} (h : Lay m) : Lay (jup m 1 3 x) := Lay_up2 h (by decide +kernel) (by decide)
theorem ny_1_4 {m : jM} {x : Int} (h : Lay m) : Lay (jup m 1 4 x) := Lay_up2 h (by decide +kernel) (by decide)
theorem ny_1_5 {m : jM} {x : Int} (h : Lay m) : Lay (jup m 1 5 x) := Lay_up2 h (by decide +kernel) (by decide)
theorem ny_1_8 {m : jM} {x : Int} (h : Lay m) : Lay (jup m 1 8 x) := Lay_up2 h (by decide +kernel) (by decide)
theorem ny_1_10 {m : jM} {x : Int} (h : Lay m) : Lay (jup m 1 10 x) := Lay_up2 h (by decide +kernel) (by decide)
theorem ny_1_11 {m : jM} {x : Int} (h : Lay m) : Lay (jup m 1 11 x) := Lay_up2 h (by decide +kernel) (by decide)
theorem ny_1_12 {m : jM} {x : Int} (h : Lay m) : Lay (jup m 1 12 x) := Lay_up2 h (by decide +kernel) (by decide)
theorem ny_1_13 {m : jM} {x : Int} (h : Lay m) : Lay (jup m 1 13 x) := Lay_up2 h (by decide +kernel) (by decide)
theorem ny_1_14 {m : jM} {x : Int} (h : Lay m) : Lay (jup m 1 14 x) := Lay_up2 h (by decide +kernel) (by decide)
theorem ny_2_1 {m : jM} {x : Int} (h : Lay m) : Lay (jup m 2 1 x) := Lay_up2 h (by decide +kernel) (by decide)
theorem ny_3 {m : jM} {i x : Int} (h : Lay m) : Lay (jup m 3 i x) := Lay_up1 h (by decide +kernel) (by decide)
theorem ny_4 {m : jM} {i x : Int} (h : Lay m) : Lay (jup m 4 i x) := Lay_up1 h (by decide +kernel) (by decide)
theorem ny_5 {m : jM} {i x : Int} (h : Lay m) : Lay (jup m 5 i x) := Lay_up1 h (by decide +kernel) (by decide)
theorem ny_6 {m : jM} {i x : Int} (h : Lay m) : Lay (jup m 6 i x) := Lay_up1 h (by decide +kernel) (by decide)
theorem ny_7 {m : jM} {i x : Int} (h : Lay m) : Lay (jup m 7 i x) := Lay_up1 h (by decide +kernel) (by decide)
theorem ny_8 {m : jM} {i x : Int} (h : Lay m) : Lay (jup m 8 i x) := Lay_up1 h (by decide +kernel) (by decide)
theorem ny_9 {m : jM} {i x : Int} (h : Lay m) : Lay (jup m 9 i x) := Lay_up1 h (by decide +kernel) (by decide)
theorem ny_10 {m : jM} {i x : Int} (h : Lay m) : Lay (jup m 10 i x) := Lay_up1 h (by decide +kernel) (by decide)
theorem ny_11_3 {m : jM} {x : Int} (h : Lay m) : Lay (jup m 11 3 x) := Lay_up2 h (by decide +kernel) (by decide)
theorem ny_11_4 {m : jM} {x : Int} (h : Lay m) : Lay (jup m 11 4 x) := Lay_up2 h (by decide +kernel) (by decide)
theorem ny_11_5 {m : jM} {x : Int} (h : Lay m) : Lay (jup m 11 5 x) := Lay_up2 h (by decide +kernel) (by decide)
theorem ny_11_6 {m : jM} {x : Int} (h : Lay m) : Lay (jup m 11 6 x) := Lay_up2 h (by decide +kernel) (by decide)
theorem ny_11_9 {m : jM} {x : Int} (h : Lay m) : Lay (jup m 11 9 x) := Lay_up2 h (by decide +kernel) (by decide)
theorem ny_11_13 {m : jM} {x : Int} (h : Lay m) : Lay (jup m 11 13 x) := Lay_up2 h (by decide +kernel) (by decide)
theorem ny_13_0 {m : jM} {x : Int} (h : Lay m) : Lay (jup m 13 0 x) := Lay_up2 h (by decide +kernel) (by decide)
theorem ny_13_1 {m : jM} {x : Int} (h : Lay m) : Lay (jup m 13 1 x) := Lay_up2 h (by decide +kernel) (by decide)
theorem ny_14 {m : jM} {i x : Int} (h : Lay m) : Lay (jup m 14 i x) := Lay_up1 h (by decide +kernel) (by decide)
theorem ny_15 {m : jM} {i x : Int} (h : Lay m) : Lay (jup m 15 i x) := Lay_up1 h (by decide +kernel) (by decide)
theorem ny_16 {m : jM} {i x : Int} (h : Lay m) : Lay (jup m 16 i x) := Lay_up1 h (by decide +kernel) (by decide)
theorem ny_17 {m : jM} {i x : Int} (h : Lay m) : Lay (jup m 17 i x) := Lay_up1 h (by decide +kernel) (by decide)
theorem ny_18 {m : jM} {i x : Int} (h : Lay m) : Lay (jup m 18 i x) := Lay_up1 h (by decide +kernel) (by decide)
theorem ny_19 {m : jM} {i x : Int} (h : Lay m) : Lay (jup m 19 i x) := Lay_up1 h (by decide +kernel) (by decide)
theorem ny_20 {m : jM} {i x : Int} (h : Lay m) : Lay (jup m 20 i x) := Lay_up1 h (by decide +kernel) (by decide)
theorem ny_21 {m : jM} {i x : Int} (h : Lay m) : Lay (jup m 21 i x) := Lay_up1 h (by decide +kernel) (by decide)
theorem ny_22 {m : jM} {i x : Int} (h : Lay m) : Lay (jup m 22 i x) := Lay_up1 h (by decide +kernel) (by decide)
theorem ny_23 {m : jM} {i x : Int} (h : Lay m) : Lay (jup m 23 i x) := Lay_up1 h (by decide +kernel) (by decide)
theorem ny_24 {m : jM} {i x : Int} (h : Lay m) : Lay (jup m 24 i x) := Lay_up1 h (by decide +kernel) (by decide)
theorem ny_25 {m : jM} {i x : Int} (h : Lay m) : Lay (jup m 25 i x) := Lay_up1 h (by decide +kernel) (by decide)
theorem ny_26 {m : jM} {i x : Int} (h : Lay m) : Lay (jup m 26 i x) := Lay_up1 h (by decide +kernel) (by decide)
theorem ny_27_0 {m : jM} {x : Int} (h : Lay m) : Lay (jup m 27 0 x) := Lay_up2 h (by decide +kernel) (by decide)
theorem ny_27_1 {m : jM} {x : Int} (h : Lay m) : Lay (jup m 27 1 x) := Lay_up2 h (by decide +kernel) (by decide)
theorem ny_27_2 {m : jM} {x : Int} (h : Lay m) : Lay (jup m 27 2 x) := Lay_up2 h (by decide +kernel) (by decide)
theorem ny_27_7 {m : jM} {x : Int} (h : Lay m) : Lay (jup m 27 7 x) := Lay_up2 h (by decide +kernel) (by decide)
theorem ny_27_8 {m : jM} {x : Int} (h : Lay m) : Lay (jup m 27 8 x) := Lay_up2 h (by decide +kernel) (by decide)
theorem ny_27_11 {m : jM} {x : Int} (h : Lay m) : Lay (jup m 27 11 x) := Lay_up2 h (by decide +kernel) (by decide)
theorem ny_27_13 {m : jM} {x : Int} (h : Lay m) : Lay (jup m 27 13 x) := Lay_up2 h (by decide +kernel) (by decide)
theorem ny_27_16 {m : jM} {x : Int} (h : Lay m) : Lay (jup m 27 16 x) := Lay_up2 h (by decide +kernel) (by decide)
theorem ny_28 {m : jM} {i x : Int} (h : Lay m) : Lay (jup m 28 i x) := Lay_up1 h (by decide +kernel) (by decide)
theorem ny_29 {m : jM} {i x : Int} (h : Lay m) : Lay (jup m 29 i x) := Lay_up1 h (by decide +kernel) (by decide)
theorem ny_30 {m : jM} {i x : Int} (h : Lay m) : Lay (jup m 30 i x) := Lay_up1 h (by decide +kernel) (by decide)
theorem ny_31 {m : jM} {i x : Int} (h : Lay m) : Lay (jup m 31 i x) := Lay_up1 h (by decide +kernel) (by decide)
theorem ny_32 {m : jM} {i x : Int} (h : Lay m) : Lay (jup m 32 i x) := Lay_up1 h (by decide +kernel) (by decide)
theorem ny_33 {m : jM} {i x : Int} (h : Lay m) : Lay (jup m 33 i x) := Lay_up1 h (by decide +kernel) (by decide)
theorem ny_34 {m : jM} {i x : Int} (h : Lay m) : Lay (jup m 34 i x) := Lay_up1 h (by decide +kernel) (by decide)
theorem ny_35 {m : jM} {i x : Int} (h : Lay m) : Lay (jup m 35 i x) := Lay_up1 h (by decide +kernel) (by decide)
theorem ny_36 {m : jM} {i x : Int} (h : Lay m) : Lay (jup m 36 i x) := Lay_up1 h (by decide +kernel) (by decide)
theorem ny_37 {m : jM} {i x : Int} (h : Lay m) : Lay (jup m 37 i x) := Lay_up1 h (by decide +kernel) (by decide)
theorem ny_38 {m : jM} {i x : Int} (h : Lay m) : Lay (jup m 38 i x) := Lay_up1 h (by decide +kernel) (by decide)
theorem ny_39_0 {m : jM} {x : Int} (h : Lay m) : Lay (jup m 39 0 x) := Lay_up2 h (by decide +kernel) (by decide)
theorem ny_39_1 {m : jM} {x : Int} (h : Lay m) : Lay (jup m 39 1 x) := Lay_up2 h (by decide +kernel) (by decide)
theorem ny_39_2 {m : jM} {x : Int} (h : Lay m) : Lay (jup m 39 2 x) := Lay_up2 h (by decide +kernel) (by decide)
theorem ny_39_7 {m : jM} {x : Int} (h : Lay m) : Lay (jup m 39 7 x) := Lay_up2 h (by decide +kernel) (by decide)
theorem ny_39_8 {m : jM} {x : Int} (h : Lay m) : Lay (jup m 39 8 x) := Lay_up2 h (by decide +kernel) (by decide)
theorem ny_39_11 {m : jM} {x : Int} (h : Lay m) : Lay (jup m 39 11 x) := Lay_up2 h (by decide +kernel) (by decide)
theorem ny_39_13 {m : jM} {x : Int} (h : Lay m) : Lay (jup m 39 13 x) := Lay_up2 h (by decide +kernel) (by decide)
theorem ny_39_16 {m : jM} {x : Int} (h : Lay m) : Lay (jup m 39 16 x) := Lay_up2 h (by decide +kernel) (by decide)
theorem ny_40 {m : jM} {i x : Int} (h : Lay m) : Lay (jup m 40 i x) := Lay_up1 h (by decide +kernel) (by decide)
theorem ny_41 {m : jM} {i x : Int} (h : Lay m) : Lay (jup m 41 i x) := Lay_up1 h (by decide +kernel) (by decide)
theorem ny_42 {m : jM} {i x : Int} (h : Lay m) : Lay (jup m 42 i x) := Lay_up1 h (by decide +kernel) (by decide)
theorem ny_43 {m : jM} {i x : Int} (h : Lay m) : Lay (jup m 43 i x) := Lay_up1 h (by decide +kernel) (by decide)
theorem ny_44 {m : jM} {i x : Int} (h : Lay m) : Lay (jup m 44 i x) := Lay_up1 h (by decide +kernel) (by decide)
theorem ny_45 {m : jM} {i x : Int} (h : Lay m) : Lay (jup m 45 i x) := Lay_up1 h (by decide +kernel) (by decide)
theorem ny_46 {m : jM} {i x : Int} (h : Lay m) : Lay (jup m 46 i x) := Lay_up1 h (by decide +kernel) (by decide)
theorem ny_47 {m : jM} {i x : Int} (h : Lay m) : Lay (jup m 47 i x) := Lay_up1 h (by decide +kernel) (by decide)
theorem ny_48 {m : jM} {i x : Int} (h : Lay m) : Lay (jup m 48 i x) := Lay_up1 h (by decide +kernel) (by decide)
theorem ny_49 {m : jM} {i x : Int} (h : Lay m) : Lay (jup m 49 i x) := Lay_up1 h (by decide +kernel) (by decide)
theorem ny_50 {m : jM} {i x : Int} (h : Lay m) : Lay (jup m 50 i x) := Lay_up1 h (by decide +kernel) (by decide)
theorem ny_51_0 {m : jM} {x : Int} (h : Lay m) : Lay (jup m 51 0 x) := Lay_up2 h (by decide +kernel) (by decide)
theorem ny_51_1 {m : jM} {x : Int} (h : Lay m) : Lay (jup m 51 1 x) := Lay_up2 h (by decide +kernel) (by decide)
theorem ny_51_2 {m : jM} {x : Int} (h : Lay m) : Lay (jup m 51 2 x) := Lay_up2 h (by decide +kernel) (by decide)
theorem ny_51_7 {m : jM} {x : Int} (h : Lay m) : Lay (jup m 51 7 x) := Lay_up2 h (by decide +kernel) (by decide)
theorem ny_51_8 {m : jM} {x : Int} (h : Lay m) : Lay (jup m 51 8 x) := Lay_up2 h (by decide +kernel) (by decide)
theorem ny_51_11 {m : jM} {x : Int} (h : Lay m) : Lay (jup m 51 11 x) := Lay_up2 h (by decide +kernel) (by decide)
theorem ny_51_13 {m : jM} {x : Int} (h : Lay m) : Lay (jup m 51 13 x) := Lay_up2 h (by decide +kernel) (by decide)
theorem ny_51_16 {m : jM} {x : Int} (h : Lay m) : Lay (jup m 51 16 x) := Lay_up2 h (by decide +kernel) (by decide)
theorem ny_52 {m : jM} {i x : Int} (h : Lay m) : Lay (jup m 52 i x) := Lay_up1 h (by decide +kernel) (by decide)
theorem ny_53 {m : jM} {i x : Int} (h : Lay m) : Lay (jup m 53 i x) := Lay_up1 h (by decide +kernel) (by decide)
theorem ny_54 {m : jM} {i x : Int} (h : Lay m) : Lay (jup m 54 i x) := Lay_up1 h (by decide +kernel) (by decide)
theorem ny_55 {m : jM} {i x : Int} (h : Lay m) : Lay (jup m 55 i x) := Lay_up1 h (by decide +kernel) (by decide)
theorem ny_56 {m : jM} {i x : Int} (h : Lay m) : Lay (jup m 56 i x) := Lay_up1 h (by decide +kernel) (by decide)
theorem ny_57 {m : jM} {i x : Int} (h : Lay m) : Lay (jup m 57 i x) := Lay_up1 h (by decide +kernel) (by decide)
theorem ny_58 {m : jM} {i x : Int} (h : Lay m) : Lay (jup m 58 i x) := Lay_up1 h (by decide +kernel) (by decide)
theorem ny_59 {m : jM} {i x : Int} (h : Lay m) : Lay (jup m 59 i x) := Lay_up1 h (by decide +kernel) (by decide)
theorem ny_60 {m : jM} {i x : Int} (h : Lay m) : Lay (jup m 60 i x) := Lay_up1 h (by decide +kernel) (by decide)
theorem ny_61 {m : jM} {i x : Int} (h : Lay m) : Lay (jup m 61 i x) := Lay_up1 h (by decide +kernel) (by decide)
theorem ny_62 {m : jM} {i x : Int} (h : Lay m) : Lay (jup m 62 i x) := Lay_up1 h (by decide +kernel) (by decide)
theorem ny_64_0 {m : jM} {x : Int} (h : Lay m) : Lay (jup m 64 0 x) := Lay_up2 h (by decide +kernel) (by decide)
theorem ny_64_4 {m : jM} {x : Int} (h : Lay m) : Lay (jup m 64 4 x) := Lay_up2 h (by decide +kernel) (by decide)
theorem ny_64_6 {m : jM} {x : Int} (h : Lay m) : Lay (jup m 64 6 x) := Lay_up2 h (by decide +kernel) (by decide)
theorem ny_64_8 {m : jM} {x : Int} (h : Lay m) : Lay (jup m 64 8 x) := Lay_up2 h (by decide +kernel) (by decide)
theorem ny_64_9 {m : jM} {x : Int} (h : Lay m) : Lay (jup m 64 9 x) := Lay_up2 h (by decide +kernel) (by decide)
theorem ny_65 {m : jM} {i x : Int} (h : Lay m) : Lay (jup m 65 i x) := Lay_up1 h (by decide +kernel) (by decide)
theorem ny_66 {m : jM} {i x : Int} (h : Lay m) : Lay (jup m 66 i x) := Lay_up1 h (by decide +kernel) (by decide)
theorem ny_67 {m : jM} {i x : Int} (h : Lay m) : Lay (jup m 67 i x) := Lay_up1 h (by decide +kernel) (by decide)
theorem ny_68 {m : jM} {i x : Int} (h : Lay m) : Lay (jup m 68 i x) := Lay_up1 h (by decide +kernel) (by decide)
theorem ny_69 {m : jM} {i x : Int} (h : Lay m) : Lay (jup m 69 i x) := Lay_up1 h (by decide +kernel) (by decide)
theorem ny_70 {m : jM} {i x : Int} (h : Lay m) : Lay (jup m 70 i x) := Lay_up1 h (by decide +kernel) (by decide)
theorem ny_71 {m : jM} {i x : Int} (h : Lay m) : Lay (jup m 71 i x) := Lay_up1 h (by decide +kernel) (by decide)
theorem ny_72 {m : jM} {i x : Int} (h : Lay m) : Lay (jup m 72 i x) := Lay_up1 h (by decide +kernel) (by decide)
theorem ny_73 {m : jM} {i x : Int} (h : Lay m) : Lay (jup m 73 i x) := Lay_up1 h (by decide +kernel) (by decide)
theorem ny_74 {m : jM} {i x : Int} (h : Lay m) : Lay (jup m 74 i x) := Lay_up1 h (by decide +kernel) (by decide)
theorem ny_75 {m : jM} {i x : Int} (h : Lay m) : Lay (jup m 75 i x) := Lay_up1 h (by decide +kernel) (by decide)
theorem ny_76 {m : jM} {i x : Int} (h : Lay m) : Lay (jup m 76 i x) := Lay_up1 h (by decide +kernel) (by decide)
theorem ny_77 {m : jM} {i x : Int} (h : Lay m) : Lay (jup m 77 i x) := Lay_up1 h (by decide +kernel) (by decide)
theorem ny_78_0 {m : jM} {x : Int} (h : Lay m) : Lay (jup m 78 0 x) := Lay_up2 h (by decide +kernel) (by decide)
theorem ny_78_4 {m : jM} {x : Int} (h : Lay m) : Lay (jup m 78 4 x) := Lay_up2 h (by decide +kernel) (by decide)
theorem ny_78_6 {m : jM} {x : Int} (h : Lay m) : Lay (jup m 78 6 x) := Lay_up2 h (by decide +kernel) (by decide)
theorem ny_78_8 {m : jM} {x : Int} (h : Lay m) : Lay (jup m 78 8 x) := Lay_up2 h (by decide +kernel) (by decide)
theorem ny_78_9 {m : jM} {x : Int} (h : Lay m) : Lay (jup m 78 9 x) := Lay_up2 h (by decide +kernel) (by decide)
theorem ny_79 {m : jM} {i x : Int} (h : Lay m) : Lay (jup m 79 i x) := Lay_up1 h (by decide +kernel) (by decide)
theorem ny_80 {m : jM} {i x : Int} (h : Lay m) : Lay (jup m 80 i x) := Lay_up1 h (by decide +kernel) (by decide)
theorem ny_81 {m : jM} {i x : Int} (h : Lay m) : Lay (jup m 81 i x) := Lay_up1 h (by decide +kernel) (by decide)
theorem ny_82 {m : jM} {i x : Int} (h : Lay m) : Lay (jup m 82 i x) := Lay_up1 h (by decide +kernel) (by decide)
theorem ny_83 {m : jM} {i x : Int} (h : Lay m) : Lay (jup m 83 i x) := Lay_up1 h (by decide +kernel) (by decide)
theorem ny_84 {m : jM} {i x : Int} (h : Lay m) : Lay (jup m 84 i x) := Lay_up1 h (by decide +kernel) (by decide)
theorem ny_85 {m : jM} {i x : Int} (h : Lay m) : Lay (jup m 85 i x) := Lay_up1 h (by decide +kernel) (by decide)
theorem ny_86 {m : jM} {i x : Int} (h : Lay m) : Lay (jup m 86 i x) := Lay_up1 h (by decide +kernel) (by decide)
theorem ny_87 {m : jM} {i x : Int} (h : Lay m) : Lay (jup m 87 i x) := Lay_up1 h (by decide +kernel) (by decide)
theorem ny_88 {m : jM} {i x : Int} (h : Lay m) : Lay (jup m 88 i x) := Lay_up1 h (by decide +kernel) (by decide)
theorem ny_89 {m : jM} {i x : Int} (h : Lay m) : Lay (jup m 89 i x) := Lay_up1 h (by decide +kernel) (by decide)
theorem ny_90 {m : jM} {i x : Int} (h : Lay m) : Lay (jup m 90 i x) := Lay_up1 h (by decide +kernel) (by decide)
theorem ny_91 {m : jM} {i x : Int} (h : Lay m) : Lay (jup m 91 i x) := Lay_up1 h (by decide +kernel) (by decide)
theorem ny_92_0 {m : jM} {x : Int} (h : Lay m) : Lay (jup m 92 0 x) := Lay_up2 h (by decide +kernel) (by decide)
theorem ny_92_4 {m : jM} {x : Int} (h : Lay m) : Lay (jup m 92 4 x) := Lay_up2 h (by decide +kernel) (by decide)
theorem ny_92_6 {m : jM} {x : Int} (h : Lay m) : Lay (jup m 92 6 x) := Lay_up2 h (by decide +kernel) (by decide)
theorem ny_92_8 {m : jM} {x : Int} (h : Lay m) : Lay (jup m 92 8 x) := Lay_up2 h (by decide +kernel) (by decide)
theorem ny_92_9 {m : jM} {x : Int} (h : Lay m) : Lay (jup m 92 9 x) := Lay_up2 h (by decide +kernel) (by decide)
theorem ny_93 {m : jM} {i x : Int} (h : Lay m) : Lay (jup m 93 i x) := Lay_up1 h (by decide +kernel) (by decide)
theorem ny_94 {m : jM} {i x : Int} (h : Lay m) : Lay (jup m 94 i x) := Lay_up1 h (by decide +kernel) (by decide)
theorem ny_95 {m : jM} {i x : Int} (h : Lay m) : Lay (jup m 95 i x) := Lay_up1 h (by decide +kernel) (by decide)
theorem ny_96 {m : jM} {i x : Int} (h : Lay m) : Lay (jup m 96 i x) := Lay_up1 h (by decide +kernel) (by decide)
theorem ny_97 {m : jM} {i x : Int} (h : Lay m) : Lay (jup m 97 i x) := Lay_up1 h (by decide +kernel) (by decide)
theorem ny_98 {m : jM} {i x : Int} (h : Lay m) : Lay (jup m 98 i x) := Lay_up1 h (by decide +kernel) (by decide)
theorem ny_99 {m : jM} {i x : Int} (h : Lay m) : Lay (jup m 99 i x) := Lay_up1 h (by decide +kernel) (by decide)
theorem ny_100 {m : jM} {i x : Int} (h : Lay m) : Lay (jup m 100 i x) := Lay_up1 h (by decide +kernel) (by decide)
theorem ny_101 {m : jM} {i x : Int} (h : Lay m) : Lay (jup m 101 i x) := Lay_up1 h (by decide +kernel) (by decide)
theorem ny_102 {m : jM} {i x : Int} (h : Lay m) : Lay (jup m 102 i x) := Lay_up1 h (by decide +kernel) (by decide)
theorem ny_103 {m : jM} {i x : Int} (h : Lay m) : Lay (jup m 103 i x) := Lay_up1 h (by decide +kernel) (by decide)
theorem ny_104 {m : jM} {i x : Int} (h : Lay m) : Lay (jup m 104 i x) := Lay_up1 h (by decide +kernel) (by decide)
theorem ny_105 {m : jM} {i x : Int} (h : Lay m) : Lay (jup m 105 i x) := Lay_up1 h (by decide +kernel) (by decide)
theorem ny_106_0 {m : jM} {x : Int} (h : Lay m) : Lay (jup m 106 0 x) := Lay_up2 h (by decide +kernel) (by decide)
theorem ny_106_1 {m : jM} {x : Int} (h : Lay m) : Lay (jup m 106 1 x) := Lay_up2 h (by decide +kernel) (by decide)
theorem ny_106_3 {m : jM} {x : Int} (h : Lay m) : Lay (jup m 106 3 x) := Lay_up2 h (by decide +kernel) (by decide)
theorem ny_106_4 {m : jM} {x : Int} (h : Lay m) : Lay (jup m 106 4 x) := Lay_up2 h (by decide +kernel) (by decide)
theorem ny_106_5 {m : jM} {x : Int} (h : Lay m) : Lay (jup m 106 5 x) := Lay_up2 h (by decide +kernel) (by decide)
theorem ny_107 {m : jM} {i x : Int} (h : Lay m) : Lay (jup m 107 i x) := Lay_up1 h (by decide +kernel) (by decide)
theorem ny_108 {m : jM} {i x : Int} (h : Lay m) : Lay (jup m 108 i x) := Lay_up1 h (by decide +kernel) (by decide)
theorem ny_109 {m : jM} {i x : Int} (h : Lay m) : Lay (jup m 109 i x) := Lay_up1 h (by decide +kernel) (by decide)
theorem ny_110 {m : jM} {i x : Int} (h : Lay m) : Lay (jup m 110 i x) := Lay_up1 h (by decide +kernel) (by decide)
theorem ny_111 {m : jM} {i x : Int} (h : Lay m) : Lay (jup m 111 i x) := Lay_up1 h (by decide +kernel) (by decide)
theorem ny_112 {m : jM} {i x : Int} (h : Lay m) : Lay (jup m 112 i x) := Lay_up1 h (by decide +kernel) (by decide)
theorem ny_113 {m : jM} {i x : Int} (h : Lay m) : Lay (jup m 113 i x) := Lay_up1 h (by decide +kernel) (by decide)
theorem ny_114 {m : jM} {i x : Int} (h : Lay m) : Lay (jup m 114 i x) := Lay_up1 h (by decide +kernel) (by decide)
theorem ny_115 {m : jM} {i x : Int} (h : Lay m) : Lay (jup m 115 i x) := Lay_up1 h (by decide +kernel) (by decide)
theorem ny_116 {m : jM} {i x : Int} (h : Lay m) : Lay (jup m 116 i x) := Lay_up1 h (by decide +kernel) (by decide)
theorem ny_117 {m : jM} {i x : Int} (h : Lay m) : Lay (jup m 117 i x) := Lay_up1 h (by decide +kernel) (by decide)
theorem ny_118 {m : jM} {i x : Int} (h : Lay m) : Lay (jup m 118 i x) := Lay_up1 h (by decide +kernel) (by decide)
theorem ny_119 {m : jM} {i x : Int} (h : Lay m) : Lay (jup m 119 i x) := Lay_up1 h (by decide +kernel) (by decide)
theorem ny_120_0 {m : jM} {x : Int} (h : Lay m) : Lay (jup m 120 0 x) := Lay_up2 h (by decide +kernel) (by decide)
theorem ny_120_7 {m : jM} {x : Int} (h : Lay m) : Lay (jup m 120 7 x) := Lay_up2 h (by decide +kernel) (by decide)
theorem ny_120_8 {m : jM} {x : Int} (h : Lay m) : Lay (jup m 120 8 x) := Lay_up2 h (by decide +kernel) (by decide)
theorem ny_121 {m : jM} {i x : Int} (h : Lay m) : Lay (jup m 121 i x) := Lay_up1 h (by decide +kernel) (by decide)
theorem ny_122 {m : jM} {i x : Int} (h : Lay m) : Lay (jup m 122 i x) := Lay_up1 h (by decide +kernel) (by decide)
theorem ny_123 {m : jM} {i x : Int} (h : Lay m) : Lay (jup m 123 i x) := Lay_up1 h (by decide +kernel) (by decide)
theorem ny_124 {m : jM} {i x : Int} (h : Lay m) : Lay (jup m 124 i x) := Lay_up1 h (by decide +kernel) (by decide)
theorem ny_125 {m : jM} {i x : Int} (h : Lay m) : Lay (jup m 125 i x) := Lay_up1 h (by decide +kernel) (by decide)
theorem ny_126 {m : jM} {i x : Int} (h : Lay m) : Lay (jup m 126 i x) := Lay_up1 h (by decide +kernel) (by decide)
theorem ny_127_0 {m : jM} {x : Int} (h : Lay m) : Lay (jup m 127 0 x) := Lay_up2 h (by decide +kernel) (by decide)
theorem ny_127_6 {m : jM} {x : Int} (h : Lay m) : Lay (jup m 127 6 x) := Lay_up2 h (by decide +kernel) (by decide)
theorem ny_128 {m : jM} {i x : Int} (h : Lay m) : Lay (jup m 128 i x) := Lay_up1 h (by decide +kernel) (by decide)
theorem ny_129 {m : jM} {i x : Int} (h : Lay m) : Lay (jup m 129 i x) := Lay_up1 h (by decide +kernel) (by decide)
theorem ny_130 {m : jM} {i x : Int} (h : Lay m) : Lay (jup m 130 i x) := Lay_up1 h (by decide +kernel) (by decide)
theorem ny_131 {m : jM} {i x : Int} (h : Lay m) : Lay (jup m 131 i x) := Lay_up1 h (by decide +kernel) (by decide)
theorem ny_132 {m : jM} {i x : Int} (h : Lay m) : Lay (jup m 132 i x) := Lay_up1 h (by decide +kernel) (by decide)
theorem ny_133_0 {m : jM} {x : Int} (h : Lay m) : Lay (jup m 133 0 x) := Lay_up2 h (by decide +kernel) (by decide)
theorem ny_134 {m : jM} {i x : Int} (h : Lay m) : Lay (jup m 134 i x) := Lay_up1 h (by decide +kernel) (by decide)
theorem ny_135 {m : jM} {i x : Int} (h : Lay m) : Lay (jup m 135 i x) := Lay_up1 h (by decide +kernel) (by decide)
theorem ny_136 {m : jM} {i x : Int} (h : Lay m) : Lay (jup m 136 i x) := Lay_up1 h (by decide +kernel) (by decide)
theorem ny_137 {m : jM} {i x : Int} (h : Lay m) : Lay (jup m 137 i x) := Lay_up1 h (by decide +kernel) (by decide)
theorem ny_138 {m : jM} {i x : Int} (h : Lay m) : Lay (jup m 138 i x) := Lay_up1 h (by decide +kernel) (by decide)
theorem ny_139_0 {m : jM} {x : Int} (h : Lay m) : Lay (jup m 139 0 x) := Lay_up2 h (by decide +kernel) (by decide)
theorem ny_139_2 {m : jM} {x : Int} (h : Lay m) : Lay (jup m 139 2 x) := Lay_up2 h (by decide +kernel) (by decide)
theorem ny_139_7 {m : jM} {x : Int} (h : Lay m) : Lay (jup m 139 7 x) := Lay_up2 h (by decide +kernel) (by decide)
theorem ny_139_8 {m : jM} {x : Int} (h : Lay m) : Lay (jup m 139 8 x) := Lay_up2 h (by decide +kernel) (by decide)
theorem ny_139_9 {m : jM} {x : Int} (h : Lay m) : Lay (jup m 139 9 x) := Lay_up2 h (by decide +kernel) (by decide)
theorem ny_139_10 {m : jM} {x : Int} (h : Lay m) : Lay (jup m 139 10 x) := Lay_up2 h (by decide +kernel) (by decide)
theorem ny_139_11 {m : jM} {x : Int} (h : Lay m) : Lay (jup m 139 11 x) := Lay_up2 h (by decide +kernel) (by decide)
theorem ny_139_12 {m : jM} {x : Int} (h : Lay m) : Lay (jup m 139 12 x) := Lay_up2 h (by decide +kernel) (by decide)
theorem ny_139_13 {m : jM} {x : Int} (h : Lay m) : Lay (jup m 139 13 x) := Lay_up2 h (by decide +kernel) (by decide)
theorem ny_139_41 {m : jM} {x : Int} (h : Lay m) : Lay (jup m 139 41 x) := Lay_up2 h (by decide +kernel) (by decide)
theorem ny_139_44 {m : jM} {x : Int} (h : Lay m) : Lay (jup m 139 44 x) := Lay_up2 h (by decide +kernel) (by decide)
theorem ny_139_50 {m : jM} {x : Int} (h : Lay m) : Lay (jup m 139 50 x) := Lay_up2 h (by decide +kernel) (by decide)
theorem ny_139_52 {m : jM} {x : Int} (h : Lay m) : Lay (jup m 139 52 x) := Lay_up2 h (by decide +kernel) (by decide)
theorem ny_139_56 {m : jM} {x : Int} (h : Lay m) : Lay (jup m 139 56 x) := Lay_up2 h (by decide +kernel) (by decide)
theorem ny_139_60 {m : jM} {x : Int} (h : Lay m) : Lay (jup m 139 60 x) := Lay_up2 h (by decide +kernel) (by decide)
theorem ny_139_64 {m : jM} {x : Int} (h : Lay m) : Lay (jup m 139 64 x) := Lay_up2 h (by decide +kernel) (by decide)
theorem ny_139_65 {m : jM} {x : Int} (h : Lay m) : Lay (jup m 139 65 x) := Lay_up2 h (by decide +kernel) (by decide)
theorem ny_139_67 {m : jM} {x : Int} (h : Lay m) : Lay (jup m 139 67 x) := Lay_up2 h (by decide +kernel) (by decide)
theorem ny_139_68 {m : jM} {x : Int} (h : Lay m) : Lay (jup m 139 68 x) := Lay_up2 h (by decide +kernel) (by decide)
theorem ny_139_69 {m : jM} {x : Int} (h : Lay m) : Lay (jup m 139 69 x) := Lay_up2 h (by decide +kernel) (by decide)
theorem ny_139_75 {m : jM} {x : Int} (h : Lay m) : Lay (jup m 139 75 x) := Lay_up2 h (by decide +kernel) (by decide)
theorem ny_139_86 {m : jM} {x : Int} (h : Lay m) : Lay (jup m 139 86 x) := Lay_up2 h (by decide +kernel) (by decide)
theorem ny_139_88 {m : jM} {x : Int} (h : Lay m) : Lay (jup m 139 88 x) := Lay_up2 h (by decide +kernel) (by decide)
theorem ny_139_89 {m : jM} {x : Int} (h : Lay m) : Lay (jup m 139 89 x) := Lay_up2 h (by decide +kernel) (by decide)
theorem ny_139_102 {m : jM} {x : Int} (h : Lay m) : Lay (jup m 139 102 x) := Lay_up2 h (by decide +kernel) (by decide)
theorem ny_139_103 {m : jM} {x : Int} (h : Lay m) : Lay (jup m 139 103 x) := Lay_up2 h (by decide +kernel) (by decide)
theorem ny_139_104 {m : jM} {x : Int} (h : Lay m) : Lay (jup m 139 104 x) := Lay_up2 h (by decide +kernel) (by decide)
theorem ny_140 {m : jM} {i x : Int} (h : Lay m) : Lay (jup m 140 i x) := Lay_up1 h (by decide +kernel) (by decide)
theorem ny_141 {m : jM} {i x : Int} (h : Lay m) : Lay (jup m 141 i x) := Lay_up1 h (by decide +kernel) (by decide)
theorem ny_142 {m : jM} {i x : Int} (h : Lay m) : Lay (jup m 142 i x) := Lay_up1 h (by decide +kernel) (by decide)
theorem ny_143 {m : jM} {i x : Int} (h : Lay m) : Lay (jup m 143 i x) := Lay_up1 h (by decide +kernel) (by decide)
theorem ny_144 {m : jM} {i x : Int} (h : Lay m) : Lay (jup m 144 i x) := Lay_up1 h (by decide +kernel) (by decide)
theorem ny_145 {m : jM} {i x : Int} (h : Lay m) : Lay (jup m 145 i x) := Lay_up1 h (by decide +kernel) (by decide)
theorem ny_146 {m : jM} {i x : Int} (h : Lay m) : Lay (jup m 146 i x) := Lay_up1 h (by decide +kernel) (by decide)
theorem ny_147 {m : jM} {i x : Int} (h : Lay m) : Lay (jup m 147 i x) := Lay_up1 h (by decide +kernel) (by decide)
theorem ny_148 {m : jM} {i x : Int} (h : Lay m) : Lay (jup m 148 i x) := Lay_up1 h (by decide +kernel) (by decide)
theorem ny_149 {m : jM} {i x : Int} (h : Lay m) : Lay (jup m 149 i x) := Lay_up1 h (by decide +kernel) (by decide)
theorem ny_150 {m : jM} {i x : Int} (h : Lay m) : Lay (jup m 150 i x) := Lay_up1 h (by decide +kernel) (by decide)
theorem ny_151 {m : jM} {i x : Int} (h : Lay m) : Lay (jup m 151 i x) := Lay_up1 h (by decide +kernel) (by decide)
theorem ny_152 {m : jM} {i x : Int} (h : Lay m) : Lay (jup m 152 i x) := Lay_up1 h (by decide +kernel) (by decide)
theorem ny_153 {m : jM} {i x : Int} (h : Lay m) : Lay (jup m 153 i x) := Lay_up1 h (by decide +kernel) (by decide)
theorem ny_154 {m : jM} {i x : Int} (h : Lay m) : Lay (jup m 154 i x) := Lay_up1 h (by decide +kernel) (by decide)
theorem ny_155 {m : jM} {i x : Int} (h : Lay m) : Lay (jup m 155 i x) := Lay_up1 h (by decide +kernel) (by decide)
theorem ny_156 {m : jM} {i x : Int} (h : Lay m) : Lay (jup m 156 i x) := Lay_up1 h (by decide +kernel) (by decide)
theorem ny_157 {m : jM} {i x : Int} (h : Lay m) : Lay (jup m 157 i x) := Lay_up1 h (by decide +kernel) (by decide)
theorem ny_158 {m : jM} {i x : Int} (h : Lay m) : Lay (jup m 158 i x) := Lay_up1 h (by decide +kernel) (by decide)
theorem ny_159 {m : jM} {i x : Int} (h : Lay m) : Lay (jup m 159 i x) := Lay_up1 h (by decide +kernel) (by decide)
theorem ny_160 {m : jM} {i x : Int} (h : Lay m) : Lay (jup m 160 i x) := Lay_up1 h (by decide +kernel) (by decide)
theorem ny_161 {m : jM} {i x : Int} (h : Lay m) : Lay (jup m 161 i x) := Lay_up1 h (by decide +kernel) (by decide)
theorem ny_162 {m : jM} {i x : Int} (h : Lay m) : Lay (jup m 162 i x) := Lay_up1 h (by decide +kernel) (by decide)
theorem ny_163 {m : jM} {i x : Int} (h : Lay m) : Lay (jup m 163 i x) := Lay_up1 h (by decide +kernel) (by decide)
theorem ny_164 {m : jM} {i x : Int} (h : Lay m) : Lay (jup m 164 i x) := Lay_up1 h (by decide +kernel) (by decide)
theorem ny_165 {m : jM} {i x : Int} (h : Lay m) : Lay (jup m 165 i x) := Lay_up1 h (by decide +kernel) (by decide)
theorem ny_166 {m : jM} {i x : Int} (h : Lay m) : Lay (jup m 166 i x) := Lay_up1 h (by decide +kernel) (by decide)
theorem ny_167 {m : jM} {i x : Int} (h : Lay m) : Lay (jup m 167 i x) := Lay_up1 h (by decide +kernel) (by decide)
theorem ny_168 {m : jM} {i x : Int} (h : Lay m) : Lay (jup m 168 i x) := Lay_up1 h (by decide +kernel) (by decide)
theorem ny_169 {m : jM} {i x : Int} (h : Lay m) : Lay (jup m 169 i x) := Lay_up1 h (by decide +kernel) (by decide)
theorem ny_170 {m : jM} {i x : Int} (h : Lay m) : Lay (jup m 170 i x) := Lay_up1 h (by decide +kernel) (by decide)
theorem ny_171 {m : jM} {i x : Int} (h : Lay m) : Lay (jup m 171 i x) := Lay_up1 h (by decide +kernel) (by decide)
theorem ny_172 {m : jM} {i x : Int} (h : Lay m) : Lay (jup m 172 i x) := Lay_up1 h (by decide +kernel) (by decide)
theorem ny_173 {m : jM} {i x : Int} (h : Lay m) : Lay (jup m 173 i x) := Lay_up1 h (by decide +kernel) (by decide)
theorem ny_174 {m : jM} {i x : Int} (h : Lay m) : Lay (jup m 174 i x) := Lay_up1 h (by decide +kernel) (by decide)
theorem ny_175 {m : jM} {i x : Int} (h : Lay m) : Lay (jup m 175 i x) := Lay_up1 h (by decide +kernel) (by decide)
theorem ny_176 {m : jM} {i x : Int} (h : Lay m) : Lay (jup m 176 i x) := Lay_up1 h (by decide +kernel) (by decide)
theorem ny_177 {m : jM} {i x : Int} (h : Lay m) : Lay (jup m 177 i x) := Lay_up1 h (by decide +kernel) (by decide)
theorem ny_178 {m : jM} {i x : Int} (h : Lay m) : Lay (jup m 178 i x) := Lay_up1 h (by decide +kernel) (by decide)
theorem ny_179 {m : jM} {i x : Int} (h : Lay m) : Lay (jup m 179 i x) := Lay_up1 h (by decide +kernel) (by decide)
theorem ny_180 {m : jM} {i x : Int} (h : Lay m) : Lay (jup m 180 i x) := Lay_up1 h (by decide +kernel) (by decide)
theorem ny_181 {m : jM} {i x : Int} (h : Lay m) : Lay (jup m 181 i x) := Lay_up1 h (by decide +kernel) (by decide)
theorem ny_182 {m : jM} {i x : Int} (h : Lay m) : Lay (jup m 182 i x) := Lay_up1 h (by decide +kernel) (by decide)
theorem ny_183 {m : jM} {i x : Int} (h : Lay m) : Lay (jup m 183 i x) := Lay_up1 h (by decide +kernel) (by decide)
theorem ny_184 {m : jM} {i x : Int} (h : Lay m) : Lay (jup m 184 i x) := Lay_up1 h (by decide +kernel) (by decide)
theorem ny_185 {m : jM} {i x : Int} (h : Lay m) : Lay (jup m 185 i x) := Lay_up1 h (by decide +kernel) (by decide)
theorem ny_186 {m : jM} {i x : Int} (h : Lay m) : Lay (jup m 186 i x) := Lay_up1 h (by decide +kernel) (by decide)
theorem ny_187 {m : jM} {i x : Int} (h : Lay m) : Lay (jup m 187 i x) := Lay_up1 h (by decide +kernel) (by decide)
theorem ny_188 {m : jM} {i x : Int} (h : Lay m) : Lay (jup m 188 i x) := Lay_up1 h (by decide +kernel) (by decide)
theorem ny_189 {m : jM} {i x : Int} (h : Lay m) : Lay (jup m 189 i x) := Lay_up1 h (by decide +kernel) (by decide)
theorem ny_190 {m : jM} {i x : Int} (h : Lay m) : Lay (jup m 190 i x) := Lay_up1 h (by decide +kernel) (by decide)
theorem ny_191 {m : jM} {i x : Int} (h : Lay m) : Lay (jup m 191 i x) := Lay_up1 h (by decide +kernel) (by decide)
theorem ny_192 {m : jM} {i x : Int} (h : Lay m) : Lay (jup m 192 i x) := Lay_up1 h (by decide +kernel) (by decide)
theorem ny_193 {m : jM} {i x : Int} (h : Lay m) : Lay (jup m 193 i x) := Lay_up1 h (by decide +kernel) (by decide)
theorem ny_194 {m : jM} {i x : Int} (h : Lay m) : Lay (jup m 194 i x) := Lay_up1 h (by decide +kernel) (by decide)
theorem ny_195 {m : jM} {i x : Int} (h : Lay m) : Lay (jup m 195 i x) := Lay_up1 h (by decide +kernel) (by decide)
theorem ny_196 {m : jM} {i x : Int} (h : Lay m) : Lay (jup m 196 i x) := Lay_up1 h (by decide +kernel) (by decide)
theorem ny_197 {m : jM} {i x : Int} (h : Lay m) : Lay (jup m 197 i x) := Lay_up1 h (by decide +kernel) (by decide)
theorem ny_198 {m : jM} {i x : Int} (h : Lay m) : Lay (jup m 198 i x) := Lay_up1 h (by decide +kernel) (by decide)
theorem ny_199 {m : jM} {i x : Int} (h : Lay m) : Lay (jup m 199 i x) := Lay_up1 h (by decide +kernel) (by decide)
theorem ny_200 {m : jM} {i x : Int} (h : Lay m) : Lay (jup m 200 i x) := Lay_up1 h (by decide +kernel) (by decide)
theorem ny_201 {m : jM} {i x : Int} (h : Lay m) : Lay (jup m 201 i x) := Lay_up1 h (by decide +kernel) (by decide)
theorem ny_202 {m : jM} {i x : Int} (h : Lay m) : Lay (jup m 202 i x) := Lay_up1 h (by decide +kernel) (by decide)
theorem ny_203 {m : jM} {i x : Int} (h : Lay m) : Lay (jup m 203 i x) := Lay_up1 h (by decide +kernel) (by decide)
theorem ny_204 {m : jM} {i x : Int} (h : Lay m) : Lay (jup m 204 i x) := Lay_up1 h (by decide +kernel) (by decide)
theorem ny_205 {m : jM} {i x : Int} (h : Lay m) : Lay (jup m 205 i x) := Lay_up1 h (by decide +kernel) (by decide)
theorem ny_206 {m : jM} {i x : Int} (h : Lay m) : Lay (jup m 206 i x) := Lay_up1 h (by decide +kernel) (by decide)
theorem ny_207 {m : jM} {i x : Int} (h : Lay m) : Lay (jup m 207 i x) := Lay_up1 h (by decide +kernel) (by decide)
theorem ny_208 {m : jM} {i x : Int} (h : Lay m) : Lay (jup m 208 i x) := Lay_up1 h (by decide +kernel) (by decide)
theorem ny_209 {m : jM} {i x : Int} (h : Lay m) : Lay (jup m 209 i x) := Lay_up1 h (by decide +kernel) (by decide)
theorem ny_210 {m : jM} {i x : Int} (h : Lay m) : Lay (jup m 210 i x) := Lay_up1 h (by decide +kernel) (by decide)
theorem ny_211 {m : jM} {i x : Int} (h : Lay m) : Lay (jup m 211 i x) := Lay_up1 h (by decide +kernel) (by decide)
theorem ny_212 {m : jM} {i x : Int} (h : Lay m) : Lay (jup m 212 i x) := Lay_up1 h (by decide +kernel) (by decide)
theorem ny_213 {m : jM} {i x : Int} (h : Lay m) : Lay (jup m 213 i x) := Lay_up1 h (by decide +kernel) (by decide)
theorem ny_214 {m : jM} {i x : Int} (h : Lay m) : Lay (jup m 214 i x) := Lay_up1 h (by decide +kernel) (by decide)
theorem ny_215 {m : jM} {i x : Int} (h : Lay m) : Lay (jup m 215 i x) := Lay_up1 h (by decide +kernel) (by decide)
theorem ny_216 {m : jM} {i x : Int} (h : Lay m) : Lay (jup m 216 i x) := Lay_up1 h (by decide +kernel) (by decide)
theorem ny_217 {m : jM} {i x : Int} (h : Lay m) : Lay (jup m 217 i x) := Lay_up1 h (by decide +kernel) (by decide)
theorem nyT_1 {m : jM} {p i x : Int} (hp : jTx p) (h : Lay m) : Lay (jup m (p + 1) i x) := by
  rcases hp with rfl | rfl | rfl
  · exact ny_28 h
  · exact ny_40 h
  · exact ny_52 h
theorem nyT_2 {m : jM} {p i x : Int} (hp : jTx p) (h : Lay m) : Lay (jup m (p + 2) i x) := by
  rcases hp with rfl | rfl | rfl
  · exact ny_29 h
  · exact ny_41 h
  · exact ny_53 h
theorem nyT_3 {m : jM} {p i x : Int} (hp : jTx p) (h : Lay m) : Lay (jup m (p + 3) i x) := by
  rcases hp with rfl | rfl | rfl
  · exact ny_30 h
  · exact ny_42 h
  · exact ny_54 h
theorem nyT_4 {m : jM} {p i x : Int} (hp : jTx p) (h : Lay m) : Lay (jup m (p + 4) i x) := by
  rcases hp with rfl | rfl | rfl
  · exact ny_31 h
  · exact ny_43 h
  · exact ny_55 h
theorem nyT_5 {m : jM} {p i x : Int} (hp : jTx p) (h : Lay m) : Lay (jup m (p + 5) i x) := by
  rcases hp with rfl | rfl | rfl
  · exact ny_32 h
  · exact ny_44 h
  · exact ny_56 h
theorem nyT_6 {m : jM} {p i x : Int} (hp : jTx p) (h : Lay m) : Lay (jup m (p + 6) i x) := by
  rcases hp with rfl | rfl | rfl
  · exact ny_33 h
  · exact ny_45 h
  · exact ny_57 h
theorem nyT_7 {m : jM} {p i x : Int} (hp : jTx p) (h : Lay m) : Lay (jup m (p + 7) i x) := by
  rcases hp with rfl | rfl | rfl
  · exact ny_34 h
  · exact ny_46 h
  · exact ny_58 h
theorem nyT_8 {m : jM} {p i x : Int} (hp : jTx p) (h : Lay m) : Lay (jup m (p + 8) i x) := by
  rcases hp with rfl | rfl | rfl
  · exact ny_35 h
  · exact ny_47 h
  · exact ny_59 h
theorem nyT_9 {m : jM} {p i x : Int} (hp : jTx p) (h : Lay m) : Lay (jup m (p + 9) i x) := by
  rcases hp with rfl | rfl | rfl
  · exact ny_36 h
  · exact ny_48 h
  · exact ny_60 h
theorem nyT_10 {m : jM} {p i x : Int} (hp : jTx p) (h : Lay m) : Lay (jup m (p + 10) i x) := by
  rcases hp with rfl | rfl | rfl
  · exact ny_37 h
  · exact ny_49 h
  · exact ny_61 h
theorem nyT_11 {m : jM} {p i x : Int} (hp : jTx p) (h : Lay m) : Lay (jup m (p + 11) i x) := by
  rcases hp with rfl | rfl | rfl
  · exact ny_38 h
  · exact ny_50 h
  · exact ny_62 h
theorem nyTf_0 {m : jM} {p x : Int} (hp : jTx p) (h : Lay m) : Lay (jup m p 0 x) := by
  rcases hp with rfl | rfl | rfl
  · exact ny_27_0 h
  · exact ny_39_0 h
  · exact ny_51_0 h
theorem nyTf_1 {m : jM} {p x : Int} (hp : jTx p) (h : Lay m) : Lay (jup m p 1 x) := by
  rcases hp with rfl | rfl | rfl
  · exact ny_27_1 h
  · exact ny_39_1 h
  · exact ny_51_1 h
theorem nyTf_2 {m : jM} {p x : Int} (hp : jTx p) (h : Lay m) : Lay (jup m p 2 x) := by
  rcases hp with rfl | rfl | rfl
  · exact ny_27_2 h
  · exact ny_39_2 h
  · exact ny_51_2 h
theorem nyTf_7 {m : jM} {p x : Int} (hp : jTx p) (h : Lay m) : Lay (jup m p 7 x) := by
  rcases hp with rfl | rfl | rfl
  · exact ny_27_7 h
  · exact ny_39_7 h
  · exact ny_51_7 h
theorem nyTf_8 {m : jM} {p x : Int} (hp : jTx p) (h : Lay m) : Lay (jup m p 8 x) := by
  rcases hp with rfl | rfl | rfl
  · exact ny_27_8 h
  · exact ny_39_8 h
  · exact ny_51_8 h
theorem nyTf_11 {m : jM} {p x : Int} (hp : jTx p) (h : Lay m) : Lay (jup m p 11 x) := by
  rcases hp with rfl | rfl | rfl
  · exact ny_27_11 h
  · exact ny_39_11 h
  · exact ny_51_11 h
theorem nyTf_13 {m : jM} {p x : Int} (hp : jTx p) (h : Lay m) : Lay (jup m p 13 x) := by
  rcases hp with rfl | rfl | rfl
  · exact ny_27_13 h
  · exact ny_39_13 h
  · exact ny_51_13 h
theorem nyTf_16 {m : jM} {p x : Int} (hp : jTx p) (h : Lay m) : Lay (jup m p 16 x) := by
  rcases hp with rfl | rfl | rfl
  · exact ny_27_16 h
  · exact ny_39_16 h
  · exact ny_51_16 h
theorem nyP_1 {m : jM} {p i x : Int} (hp : jPl p) (h : Lay m) : Lay (jup m (p + 1) i x) := by
  rcases hp with rfl | rfl | rfl
  · exact ny_65 h
  · exact ny_79 h
  · exact ny_93 h
theorem nyP_2 {m : jM} {p i x : Int} (hp : jPl p) (h : Lay m) : Lay (jup m (p + 2) i x) := by
  rcases hp with rfl | rfl | rfl
  · exact ny_66 h
  · exact ny_80 h
  · exact ny_94 h
theorem nyP_3 {m : jM} {p i x : Int} (hp : jPl p) (h : Lay m) : Lay (jup m (p + 3) i x) := by
  rcases hp with rfl | rfl | rfl
  · exact ny_67 h
  · exact ny_81 h
  · exact ny_95 h
theorem nyP_4 {m : jM} {p i x : Int} (hp : jPl p) (h : Lay m) : Lay (jup m (p + 4) i x) := by
  rcases hp with rfl | rfl | rfl
  · exact ny_68 h
  · exact ny_82 h
  · exact ny_96 h
theorem nyP_5 {m : jM} {p i x : Int} (hp : jPl p) (h : Lay m) : Lay (jup m (p + 5) i x) := by
  rcases hp with rfl | rfl | rfl
  · exact ny_69 h
  · exact ny_83 h
  · exact ny_97 h
theorem nyP_6 {m : jM} {p i x : Int} (hp : jPl p) (h : Lay m) : Lay (jup m (p + 6) i x) := by
  rcases hp with rfl | rfl | rfl
  · exact ny_70 h
  · exact ny_84 h
  · exact ny_98 h
theorem nyP_7 {m : jM} {p i x : Int} (hp : jPl p) (h : Lay m) : Lay (jup m (p + 7) i x) := by
  rcases hp with rfl | rfl | rfl
  · exact ny_71 h
  · exact ny_85 h
  · exact ny_99 h
theorem nyP_8 {m : jM} {p i x : Int} (hp : jPl p) (h : Lay m) : Lay (jup m (p + 8) i x) := by
  rcases hp with rfl | rfl | rfl
  · exact ny_72 h
  · exact ny_86 h
  · exact ny_100 h
theorem nyP_9 {m : jM} {p i x : Int} (hp : jPl p) (h : Lay m) : Lay (jup m (p + 9) i x) := by
  rcases hp with rfl | rfl | rfl
  · exact ny_73 h
  · exact ny_87 h
  · exact ny_101 h
theorem nyP_10 {m : jM} {p i x : Int} (hp : jPl p) (h : Lay m) : Lay (jup m (p + 10) i x) := by
  rcases hp with rfl | rfl | rfl
  · exact ny_74 h
  · exact ny_88 h
  · exact ny_102 h
theorem nyP_11 {m : jM} {p i x : Int} (hp : jPl p) (h : Lay m) : Lay (jup m (p + 11) i x) := by
  rcases hp with rfl | rfl | rfl
  · exact ny_75 h
  · exact ny_89 h
  · exact ny_103 h
theorem nyP_12 {m : jM} {p i x : Int} (hp : jPl p) (h : Lay m) : Lay (jup m (p + 12) i x) := by
  rcases hp with rfl | rfl | rfl
  · exact ny_76 h
  · exact ny_90 h
  · exact ny_104 h
theorem nyP_13 {m : jM} {p i x : Int} (hp : jPl p) (h : Lay m) : Lay (jup m (p + 13) i x) := by
  rcases hp with rfl | rfl | rfl
  · exact ny_77 h
  · exact ny_91 h
  · exact ny_105 h
theorem nyPf_0 {m : jM} {p x : Int} (hp : jPl p) (h : Lay m) : Lay (jup m p 0 x) := by
  rcases hp with rfl | rfl | rfl
  · exact ny_64_0 h
  · exact ny_78_0 h
  · exact ny_92_0 h
theorem nyPf_4 {m : jM} {p x : Int} (hp : jPl p) (h : Lay m) : Lay (jup m p 4 x) := by
  rcases hp with rfl | rfl | rfl
  · exact ny_64_4 h
  · exact ny_78_4 h
  · exact ny_92_4 h
theorem nyPf_6 {m : jM} {p x : Int} (hp : jPl p) (h : Lay m) : Lay (jup m p 6 x) := by
  rcases hp with rfl | rfl | rfl
  · exact ny_64_6 h
  · exact ny_78_6 h
  · exact ny_92_6 h
theorem nyPf_8 {m : jM} {p x : Int} (hp : jPl p) (h : Lay m) : Lay (jup m p 8 x) := by
  rcases hp with rfl | rfl | rfl
  · exact ny_64_8 h
  · exact ny_78_8 h
  · exact ny_92_8 h
theorem nyPf_9 {m : jM} {p x : Int} (hp : jPl p) (h : Lay m) : Lay (jup m p 9 x) := by
  rcases hp with rfl | rfl | rfl
  · exact ny_64_9 h
  · exact ny_78_9 h
  · exact ny_92_9 h
theorem ny_text {m : jM} {x : Int} (hx : jTx x) (h : Lay m) : Lay (jup m 11 2 x) := by
  refine ⟨fun q hq => ?_, by rw [jup_s]; exact hx⟩
  have hp : layL.all (fun q => decide (q.1 ≠ 11) || decide (q.2.1 ≠ 2)) = true := by decide +kernel
  have := List.all_eq_true.mp hp q hq
  simp only [jup]
  rw [if_neg (fun ⟨a, b⟩ => by simp [a, b] at this)]
  exact h.1 q hq
