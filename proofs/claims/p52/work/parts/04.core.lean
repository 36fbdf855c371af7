/-! the abstract machine: cells numbered in the order of their making, words of 32 bits; written by wip/p52/gen3.py -/
abbrev am_M : Type := Nat → Nat → Int32
def am_set (σ : am_M) (i k : Nat) (x : Int32) : am_M := fun a => if a = i then upd (σ i) k x else σ a
def am_put (σ : am_M) (i : Nat) (f : Nat → Int32) : am_M := fun a => if a = i then f else σ a
def am_L : List (Nat × Nat × Nat) := [(0, 9, 11), (0, 2, 16), (1, 3, 24), (0, 3, 11), (1, 0, 4), (1, 4, 8), (0, 7, 6), (1, 0, 24), (0, 6, 3), (1, 0, 4), (1, 0, 120), (1, 0, 720), (0, 6, 3), (1, 0, 4), (1, 0, 120), (1, 0, 720), (0, 5, 4), (1, 1, 24), (1, 1, 120), (1, 0, 30), (0, 3, 11), (0, 3, 11), (0, 3, 11), (0, 3, 11), (0, 3, 11), (0, 3, 11), (0, 3, 11), (0, 3, 11), (0, 3, 11), (0, 3, 11), (0, 3, 11), (0, 3, 11), (0, 3, 11), (0, 3, 11), (0, 3, 11), (0, 3, 11), (0, 3, 11), (0, 3, 11), (0, 3, 11), (0, 3, 11), (0, 3, 11), (0, 3, 11), (0, 3, 11), (0, 3, 11), (0, 7, 6), (0, 7, 6), (0, 7, 6), (0, 7, 6), (0, 7, 6), (0, 7, 6), (0, 7, 6), (0, 7, 6), (0, 1, 12), (1, 5, 8), (0, 4, 17), (1, 0, 54), (1, 0, 54), (1, 0, 6), (1, 0, 6), (1, 0, 6), (1, 0, 6), (1, 0, 1620), (1, 0, 270), (1, 0, 30), (1, 0, 30), (1, 0, 930), (1, 0, 8), (0, 4, 17), (1, 0, 54), (1, 0, 54), (1, 0, 6), (1, 0, 6), (1, 0, 6), (1, 0, 6), (0, 4, 17), (1, 0, 54), (1, 0, 54), (1, 0, 6), (1, 0, 6), (1, 0, 6), (1, 0, 6), (0, 4, 17), (1, 0, 54), (1, 0, 54), (1, 0, 6), (1, 0, 6), (1, 0, 6), (1, 0, 6), (0, 4, 17), (1, 0, 54), (1, 0, 54), (1, 0, 6), (1, 0, 6), (1, 0, 6), (1, 0, 6), (0, 4, 17), (1, 0, 54), (1, 0, 54), (1, 0, 6), (1, 0, 6), (1, 0, 6), (1, 0, 6), (0, 4, 17), (1, 0, 54), (1, 0, 54), (1, 0, 6), (1, 0, 6), (1, 0, 6), (1, 0, 6), (0, 4, 17), (1, 0, 54), (1, 0, 54), (1, 0, 6), (1, 0, 6), (1, 0, 6), (1, 0, 6), (0, 4, 17), (1, 0, 54), (1, 0, 54), (1, 0, 6), (1, 0, 6), (1, 0, 6), (1, 0, 6), (0, 5, 4), (1, 0, 6), (1, 6, 4), (0, 0, 2), (1, 8, 6), (0, 8, 5), (1, 0, 6), (0, 8, 5), (1, 0, 6), (0, 8, 5), (1, 0, 6), (0, 8, 5), (1, 0, 6), (0, 8, 5), (1, 0, 6), (0, 8, 5), (1, 0, 6), (0, 0, 2), (1, 8, 6), (0, 8, 5), (1, 0, 6), (0, 8, 5), (1, 0, 6), (0, 8, 5), (1, 0, 6), (0, 8, 5), (1, 0, 6), (0, 8, 5), (1, 0, 6), (0, 8, 5), (1, 0, 6), (0, 0, 2), (1, 8, 6), (0, 8, 5), (1, 0, 6), (0, 8, 5), (1, 0, 6), (0, 8, 5), (1, 0, 6), (0, 8, 5), (1, 0, 6), (0, 8, 5), (1, 0, 6), (0, 8, 5), (1, 0, 6), (0, 0, 2), (1, 8, 6), (0, 8, 5), (1, 0, 6), (0, 8, 5), (1, 0, 6), (0, 8, 5), (1, 0, 6), (0, 8, 5), (1, 0, 6), (0, 8, 5), (1, 0, 6), (0, 8, 5), (1, 0, 6), (1, 7, 6), (0, 6, 3), (1, 0, 4), (1, 0, 120), (1, 0, 720), (0, 6, 3), (1, 0, 4), (1, 0, 120), (1, 0, 720), (0, 6, 3), (1, 0, 4), (1, 0, 120), (1, 0, 720), (0, 6, 3), (1, 0, 4), (1, 0, 120), (1, 0, 720), (0, 6, 3), (1, 0, 4), (1, 0, 120), (1, 0, 720), (0, 6, 3), (1, 0, 4), (1, 0, 120), (1, 0, 720)]
def am_sh (i : Nat) : Nat × Nat × Nat := am_L.getD i (9, 0, 0)
theorem sh_0 : am_sh 0 = (0, 9, 11) := by decide +kernel
theorem sh_1 : am_sh 1 = (0, 2, 16) := by decide +kernel
theorem sh_2 : am_sh 2 = (1, 3, 24) := by decide +kernel
theorem sh_3 : am_sh 3 = (0, 3, 11) := by decide +kernel
theorem sh_4 : am_sh 4 = (1, 0, 4) := by decide +kernel
theorem sh_5 : am_sh 5 = (1, 4, 8) := by decide +kernel
theorem sh_6 : am_sh 6 = (0, 7, 6) := by decide +kernel
theorem sh_7 : am_sh 7 = (1, 0, 24) := by decide +kernel
theorem sh_8 : am_sh 8 = (0, 6, 3) := by decide +kernel
theorem sh_9 : am_sh 9 = (1, 0, 4) := by decide +kernel
theorem sh_10 : am_sh 10 = (1, 0, 120) := by decide +kernel
theorem sh_11 : am_sh 11 = (1, 0, 720) := by decide +kernel
theorem sh_12 : am_sh 12 = (0, 6, 3) := by decide +kernel
theorem sh_13 : am_sh 13 = (1, 0, 4) := by decide +kernel
theorem sh_14 : am_sh 14 = (1, 0, 120) := by decide +kernel
theorem sh_15 : am_sh 15 = (1, 0, 720) := by decide +kernel
theorem sh_16 : am_sh 16 = (0, 5, 4) := by decide +kernel
theorem sh_17 : am_sh 17 = (1, 1, 24) := by decide +kernel
theorem sh_18 : am_sh 18 = (1, 1, 120) := by decide +kernel
theorem sh_19 : am_sh 19 = (1, 0, 30) := by decide +kernel
theorem sh_20 : am_sh 20 = (0, 3, 11) := by decide +kernel
theorem sh_21 : am_sh 21 = (0, 3, 11) := by decide +kernel
theorem sh_22 : am_sh 22 = (0, 3, 11) := by decide +kernel
theorem sh_23 : am_sh 23 = (0, 3, 11) := by decide +kernel
theorem sh_24 : am_sh 24 = (0, 3, 11) := by decide +kernel
theorem sh_25 : am_sh 25 = (0, 3, 11) := by decide +kernel
theorem sh_26 : am_sh 26 = (0, 3, 11) := by decide +kernel
theorem sh_27 : am_sh 27 = (0, 3, 11) := by decide +kernel
theorem sh_28 : am_sh 28 = (0, 3, 11) := by decide +kernel
theorem sh_29 : am_sh 29 = (0, 3, 11) := by decide +kernel
theorem sh_30 : am_sh 30 = (0, 3, 11) := by decide +kernel
theorem sh_31 : am_sh 31 = (0, 3, 11) := by decide +kernel
theorem sh_32 : am_sh 32 = (0, 3, 11) := by decide +kernel
theorem sh_33 : am_sh 33 = (0, 3, 11) := by decide +kernel
theorem sh_34 : am_sh 34 = (0, 3, 11) := by decide +kernel
theorem sh_35 : am_sh 35 = (0, 3, 11) := by decide +kernel
theorem sh_36 : am_sh 36 = (0, 3, 11) := by decide +kernel
theorem sh_37 : am_sh 37 = (0, 3, 11) := by decide +kernel
theorem sh_38 : am_sh 38 = (0, 3, 11) := by decide +kernel
theorem sh_39 : am_sh 39 = (0, 3, 11) := by decide +kernel
theorem sh_40 : am_sh 40 = (0, 3, 11) := by decide +kernel
theorem sh_41 : am_sh 41 = (0, 3, 11) := by decide +kernel
theorem sh_42 : am_sh 42 = (0, 3, 11) := by decide +kernel
theorem sh_43 : am_sh 43 = (0, 3, 11) := by decide +kernel
theorem sh_44 : am_sh 44 = (0, 7, 6) := by decide +kernel
theorem sh_45 : am_sh 45 = (0, 7, 6) := by decide +kernel
theorem sh_46 : am_sh 46 = (0, 7, 6) := by decide +kernel
theorem sh_47 : am_sh 47 = (0, 7, 6) := by decide +kernel
theorem sh_48 : am_sh 48 = (0, 7, 6) := by decide +kernel
theorem sh_49 : am_sh 49 = (0, 7, 6) := by decide +kernel
theorem sh_50 : am_sh 50 = (0, 7, 6) := by decide +kernel
theorem sh_51 : am_sh 51 = (0, 7, 6) := by decide +kernel
theorem sh_52 : am_sh 52 = (0, 1, 12) := by decide +kernel
theorem sh_53 : am_sh 53 = (1, 5, 8) := by decide +kernel
theorem sh_54 : am_sh 54 = (0, 4, 17) := by decide +kernel
theorem sh_55 : am_sh 55 = (1, 0, 54) := by decide +kernel
theorem sh_56 : am_sh 56 = (1, 0, 54) := by decide +kernel
theorem sh_57 : am_sh 57 = (1, 0, 6) := by decide +kernel
theorem sh_58 : am_sh 58 = (1, 0, 6) := by decide +kernel
theorem sh_59 : am_sh 59 = (1, 0, 6) := by decide +kernel
theorem sh_60 : am_sh 60 = (1, 0, 6) := by decide +kernel
theorem sh_61 : am_sh 61 = (1, 0, 1620) := by decide +kernel
theorem sh_62 : am_sh 62 = (1, 0, 270) := by decide +kernel
theorem sh_63 : am_sh 63 = (1, 0, 30) := by decide +kernel
theorem sh_64 : am_sh 64 = (1, 0, 30) := by decide +kernel
theorem sh_65 : am_sh 65 = (1, 0, 930) := by decide +kernel
theorem sh_66 : am_sh 66 = (1, 0, 8) := by decide +kernel
theorem sh_67 : am_sh 67 = (0, 4, 17) := by decide +kernel
theorem sh_68 : am_sh 68 = (1, 0, 54) := by decide +kernel
theorem sh_69 : am_sh 69 = (1, 0, 54) := by decide +kernel
theorem sh_70 : am_sh 70 = (1, 0, 6) := by decide +kernel
theorem sh_71 : am_sh 71 = (1, 0, 6) := by decide +kernel
theorem sh_72 : am_sh 72 = (1, 0, 6) := by decide +kernel
theorem sh_73 : am_sh 73 = (1, 0, 6) := by decide +kernel
theorem sh_74 : am_sh 74 = (0, 4, 17) := by decide +kernel
theorem sh_75 : am_sh 75 = (1, 0, 54) := by decide +kernel
theorem sh_76 : am_sh 76 = (1, 0, 54) := by decide +kernel
theorem sh_77 : am_sh 77 = (1, 0, 6) := by decide +kernel
theorem sh_78 : am_sh 78 = (1, 0, 6) := by decide +kernel
theorem sh_79 : am_sh 79 = (1, 0, 6) := by decide +kernel
theorem sh_80 : am_sh 80 = (1, 0, 6) := by decide +kernel
theorem sh_81 : am_sh 81 = (0, 4, 17) := by decide +kernel
theorem sh_82 : am_sh 82 = (1, 0, 54) := by decide +kernel
theorem sh_83 : am_sh 83 = (1, 0, 54) := by decide +kernel
theorem sh_84 : am_sh 84 = (1, 0, 6) := by decide +kernel
theorem sh_85 : am_sh 85 = (1, 0, 6) := by decide +kernel
theorem sh_86 : am_sh 86 = (1, 0, 6) := by decide +kernel
theorem sh_87 : am_sh 87 = (1, 0, 6) := by decide +kernel
theorem sh_88 : am_sh 88 = (0, 4, 17) := by decide +kernel
theorem sh_89 : am_sh 89 = (1, 0, 54) := by decide +kernel
theorem sh_90 : am_sh 90 = (1, 0, 54) := by decide +kernel
theorem sh_91 : am_sh 91 = (1, 0, 6) := by decide +kernel
theorem sh_92 : am_sh 92 = (1, 0, 6) := by decide +kernel
theorem sh_93 : am_sh 93 = (1, 0, 6) := by decide +kernel
theorem sh_94 : am_sh 94 = (1, 0, 6) := by decide +kernel
theorem sh_95 : am_sh 95 = (0, 4, 17) := by decide +kernel
theorem sh_96 : am_sh 96 = (1, 0, 54) := by decide +kernel
theorem sh_97 : am_sh 97 = (1, 0, 54) := by decide +kernel
theorem sh_98 : am_sh 98 = (1, 0, 6) := by decide +kernel
theorem sh_99 : am_sh 99 = (1, 0, 6) := by decide +kernel
theorem sh_100 : am_sh 100 = (1, 0, 6) := by decide +kernel
theorem sh_101 : am_sh 101 = (1, 0, 6) := by decide +kernel
theorem sh_102 : am_sh 102 = (0, 4, 17) := by decide +kernel
theorem sh_103 : am_sh 103 = (1, 0, 54) := by decide +kernel
theorem sh_104 : am_sh 104 = (1, 0, 54) := by decide +kernel
theorem sh_105 : am_sh 105 = (1, 0, 6) := by decide +kernel
theorem sh_106 : am_sh 106 = (1, 0, 6) := by decide +kernel
theorem sh_107 : am_sh 107 = (1, 0, 6) := by decide +kernel
theorem sh_108 : am_sh 108 = (1, 0, 6) := by decide +kernel
theorem sh_109 : am_sh 109 = (0, 4, 17) := by decide +kernel
theorem sh_110 : am_sh 110 = (1, 0, 54) := by decide +kernel
theorem sh_111 : am_sh 111 = (1, 0, 54) := by decide +kernel
theorem sh_112 : am_sh 112 = (1, 0, 6) := by decide +kernel
theorem sh_113 : am_sh 113 = (1, 0, 6) := by decide +kernel
theorem sh_114 : am_sh 114 = (1, 0, 6) := by decide +kernel
theorem sh_115 : am_sh 115 = (1, 0, 6) := by decide +kernel
theorem sh_116 : am_sh 116 = (0, 4, 17) := by decide +kernel
theorem sh_117 : am_sh 117 = (1, 0, 54) := by decide +kernel
theorem sh_118 : am_sh 118 = (1, 0, 54) := by decide +kernel
theorem sh_119 : am_sh 119 = (1, 0, 6) := by decide +kernel
theorem sh_120 : am_sh 120 = (1, 0, 6) := by decide +kernel
theorem sh_121 : am_sh 121 = (1, 0, 6) := by decide +kernel
theorem sh_122 : am_sh 122 = (1, 0, 6) := by decide +kernel
theorem sh_123 : am_sh 123 = (0, 5, 4) := by decide +kernel
theorem sh_124 : am_sh 124 = (1, 0, 6) := by decide +kernel
theorem sh_125 : am_sh 125 = (1, 6, 4) := by decide +kernel
theorem sh_126 : am_sh 126 = (0, 0, 2) := by decide +kernel
theorem sh_127 : am_sh 127 = (1, 8, 6) := by decide +kernel
theorem sh_128 : am_sh 128 = (0, 8, 5) := by decide +kernel
theorem sh_129 : am_sh 129 = (1, 0, 6) := by decide +kernel
theorem sh_130 : am_sh 130 = (0, 8, 5) := by decide +kernel
theorem sh_131 : am_sh 131 = (1, 0, 6) := by decide +kernel
theorem sh_132 : am_sh 132 = (0, 8, 5) := by decide +kernel
theorem sh_133 : am_sh 133 = (1, 0, 6) := by decide +kernel
theorem sh_134 : am_sh 134 = (0, 8, 5) := by decide +kernel
theorem sh_135 : am_sh 135 = (1, 0, 6) := by decide +kernel
theorem sh_136 : am_sh 136 = (0, 8, 5) := by decide +kernel
theorem sh_137 : am_sh 137 = (1, 0, 6) := by decide +kernel
theorem sh_138 : am_sh 138 = (0, 8, 5) := by decide +kernel
theorem sh_139 : am_sh 139 = (1, 0, 6) := by decide +kernel
theorem sh_140 : am_sh 140 = (0, 0, 2) := by decide +kernel
theorem sh_141 : am_sh 141 = (1, 8, 6) := by decide +kernel
theorem sh_142 : am_sh 142 = (0, 8, 5) := by decide +kernel
theorem sh_143 : am_sh 143 = (1, 0, 6) := by decide +kernel
theorem sh_144 : am_sh 144 = (0, 8, 5) := by decide +kernel
theorem sh_145 : am_sh 145 = (1, 0, 6) := by decide +kernel
theorem sh_146 : am_sh 146 = (0, 8, 5) := by decide +kernel
theorem sh_147 : am_sh 147 = (1, 0, 6) := by decide +kernel
theorem sh_148 : am_sh 148 = (0, 8, 5) := by decide +kernel
theorem sh_149 : am_sh 149 = (1, 0, 6) := by decide +kernel
theorem sh_150 : am_sh 150 = (0, 8, 5) := by decide +kernel
theorem sh_151 : am_sh 151 = (1, 0, 6) := by decide +kernel
theorem sh_152 : am_sh 152 = (0, 8, 5) := by decide +kernel
theorem sh_153 : am_sh 153 = (1, 0, 6) := by decide +kernel
theorem sh_154 : am_sh 154 = (0, 0, 2) := by decide +kernel
theorem sh_155 : am_sh 155 = (1, 8, 6) := by decide +kernel
theorem sh_156 : am_sh 156 = (0, 8, 5) := by decide +kernel
theorem sh_157 : am_sh 157 = (1, 0, 6) := by decide +kernel
theorem sh_158 : am_sh 158 = (0, 8, 5) := by decide +kernel
theorem sh_159 : am_sh 159 = (1, 0, 6) := by decide +kernel
theorem sh_160 : am_sh 160 = (0, 8, 5) := by decide +kernel
theorem sh_161 : am_sh 161 = (1, 0, 6) := by decide +kernel
theorem sh_162 : am_sh 162 = (0, 8, 5) := by decide +kernel
theorem sh_163 : am_sh 163 = (1, 0, 6) := by decide +kernel
theorem sh_164 : am_sh 164 = (0, 8, 5) := by decide +kernel
theorem sh_165 : am_sh 165 = (1, 0, 6) := by decide +kernel
theorem sh_166 : am_sh 166 = (0, 8, 5) := by decide +kernel
theorem sh_167 : am_sh 167 = (1, 0, 6) := by decide +kernel
theorem sh_168 : am_sh 168 = (0, 0, 2) := by decide +kernel
theorem sh_169 : am_sh 169 = (1, 8, 6) := by decide +kernel
theorem sh_170 : am_sh 170 = (0, 8, 5) := by decide +kernel
theorem sh_171 : am_sh 171 = (1, 0, 6) := by decide +kernel
theorem sh_172 : am_sh 172 = (0, 8, 5) := by decide +kernel
theorem sh_173 : am_sh 173 = (1, 0, 6) := by decide +kernel
theorem sh_174 : am_sh 174 = (0, 8, 5) := by decide +kernel
theorem sh_175 : am_sh 175 = (1, 0, 6) := by decide +kernel
theorem sh_176 : am_sh 176 = (0, 8, 5) := by decide +kernel
theorem sh_177 : am_sh 177 = (1, 0, 6) := by decide +kernel
theorem sh_178 : am_sh 178 = (0, 8, 5) := by decide +kernel
theorem sh_179 : am_sh 179 = (1, 0, 6) := by decide +kernel
theorem sh_180 : am_sh 180 = (0, 8, 5) := by decide +kernel
theorem sh_181 : am_sh 181 = (1, 0, 6) := by decide +kernel
theorem sh_182 : am_sh 182 = (1, 7, 6) := by decide +kernel
theorem sh_183 : am_sh 183 = (0, 6, 3) := by decide +kernel
theorem sh_184 : am_sh 184 = (1, 0, 4) := by decide +kernel
theorem sh_185 : am_sh 185 = (1, 0, 120) := by decide +kernel
theorem sh_186 : am_sh 186 = (1, 0, 720) := by decide +kernel
theorem sh_187 : am_sh 187 = (0, 6, 3) := by decide +kernel
theorem sh_188 : am_sh 188 = (1, 0, 4) := by decide +kernel
theorem sh_189 : am_sh 189 = (1, 0, 120) := by decide +kernel
theorem sh_190 : am_sh 190 = (1, 0, 720) := by decide +kernel
theorem sh_191 : am_sh 191 = (0, 6, 3) := by decide +kernel
theorem sh_192 : am_sh 192 = (1, 0, 4) := by decide +kernel
theorem sh_193 : am_sh 193 = (1, 0, 120) := by decide +kernel
theorem sh_194 : am_sh 194 = (1, 0, 720) := by decide +kernel
theorem sh_195 : am_sh 195 = (0, 6, 3) := by decide +kernel
theorem sh_196 : am_sh 196 = (1, 0, 4) := by decide +kernel
theorem sh_197 : am_sh 197 = (1, 0, 120) := by decide +kernel
theorem sh_198 : am_sh 198 = (1, 0, 720) := by decide +kernel
theorem sh_199 : am_sh 199 = (0, 6, 3) := by decide +kernel
theorem sh_200 : am_sh 200 = (1, 0, 4) := by decide +kernel
theorem sh_201 : am_sh 201 = (1, 0, 120) := by decide +kernel
theorem sh_202 : am_sh 202 = (1, 0, 720) := by decide +kernel
theorem sh_203 : am_sh 203 = (0, 6, 3) := by decide +kernel
theorem sh_204 : am_sh 204 = (1, 0, 4) := by decide +kernel
theorem sh_205 : am_sh 205 = (1, 0, 120) := by decide +kernel
theorem sh_206 : am_sh 206 = (1, 0, 720) := by decide +kernel
def am_frL : List (List Bool) := [[true, false], [true, true, true, false, false, false, true, true, true, true, true, true], [true, true, true, false, true, true, false, true, false, true, true, true, false, true, true, true], [false, false, false, false, false, false, false, false, false, false, false], [false, false, false, false, false, false, false, false, false, false, true, true, false, true, true, true, true], [false, false, false, false], [true, true, true], [false, false, false, false, false, false], [false, false, false, false, true], [true, true, true, true, true, false, true, false, false, false, false]]
def am_fr (ci k : Nat) : Bool := (am_frL.getD ci []).getD k false
def am_lkL : List (List Nat) := [[1, 52, 123, 124, 125, 0, 182], [2, 3, 4, 0, 5, 6, 0, 7, 0, 8, 12, 16, 0, 17, 18, 19], [20, 21, 22, 23, 24, 25, 26, 27, 28, 29, 30, 31, 32, 33, 34, 35, 36, 37, 38, 39, 40, 41, 42, 43], [], [], [44, 45, 46, 47, 48, 49, 50, 51], [], [], [9, 10, 11], [], [], [], [13, 14, 15], [], [], [], [], [], [], [], [], [], [], [], [], [], [], [], [], [], [], [], [], [], [], [], [], [], [], [], [], [], [], [], [], [], [], [], [], [], [], [], [1, 53, 54, 0, 0, 0, 61, 62, 63, 64, 65, 66], [67, 74, 81, 88, 95, 102, 109, 116], [0, 0, 0, 0, 0, 0, 0, 0, 0, 0, 55, 56, 0, 57, 58, 59, 60], [], [], [], [], [], [], [], [], [], [], [], [], [0, 0, 0, 0, 0, 0, 0, 0, 0, 0, 68, 69, 0, 70, 71, 72, 73], [], [], [], [], [], [], [0, 0, 0, 0, 0, 0, 0, 0, 0, 0, 75, 76, 0, 77, 78, 79, 80], [], [], [], [], [], [], [0, 0, 0, 0, 0, 0, 0, 0, 0, 0, 82, 83, 0, 84, 85, 86, 87], [], [], [], [], [], [], [0, 0, 0, 0, 0, 0, 0, 0, 0, 0, 89, 90, 0, 91, 92, 93, 94], [], [], [], [], [], [], [0, 0, 0, 0, 0, 0, 0, 0, 0, 0, 96, 97, 0, 98, 99, 100, 101], [], [], [], [], [], [], [0, 0, 0, 0, 0, 0, 0, 0, 0, 0, 103, 104, 0, 105, 106, 107, 108], [], [], [], [], [], [], [0, 0, 0, 0, 0, 0, 0, 0, 0, 0, 110, 111, 0, 112, 113, 114, 115], [], [], [], [], [], [], [0, 0, 0, 0, 0, 0, 0, 0, 0, 0, 117, 118, 0, 119, 120, 121, 122], [], [], [], [], [], [], [], [], [126, 140, 154, 168], [127], [128, 130, 132, 134, 136, 138], [0, 0, 0, 0, 129], [], [0, 0, 0, 0, 131], [], [0, 0, 0, 0, 133], [], [0, 0, 0, 0, 135], [], [0, 0, 0, 0, 137], [], [0, 0, 0, 0, 139], [], [141], [142, 144, 146, 148, 150, 152], [0, 0, 0, 0, 143], [], [0, 0, 0, 0, 145], [], [0, 0, 0, 0, 147], [], [0, 0, 0, 0, 149], [], [0, 0, 0, 0, 151], [], [0, 0, 0, 0, 153], [], [155], [156, 158, 160, 162, 164, 166], [0, 0, 0, 0, 157], [], [0, 0, 0, 0, 159], [], [0, 0, 0, 0, 161], [], [0, 0, 0, 0, 163], [], [0, 0, 0, 0, 165], [], [0, 0, 0, 0, 167], [], [169], [170, 172, 174, 176, 178, 180], [0, 0, 0, 0, 171], [], [0, 0, 0, 0, 173], [], [0, 0, 0, 0, 175], [], [0, 0, 0, 0, 177], [], [0, 0, 0, 0, 179], [], [0, 0, 0, 0, 181], [], [183, 187, 191, 195, 199, 203], [184, 185, 186], [], [], [], [188, 189, 190], [], [], [], [192, 193, 194], [], [], [], [196, 197, 198], [], [], [], [200, 201, 202], [], [], [], [204, 205, 206], [], [], []]
def am_lk (i k : Nat) : Nat := (am_lkL.getD i []).getD k 0
theorem lk_0_0 : am_lk 0 0 = 1 := by decide +kernel
theorem lk_0_1 : am_lk 0 1 = 52 := by decide +kernel
theorem lk_0_2 : am_lk 0 2 = 123 := by decide +kernel
theorem lk_0_3 : am_lk 0 3 = 124 := by decide +kernel
theorem lk_0_4 : am_lk 0 4 = 125 := by decide +kernel
theorem lk_0_6 : am_lk 0 6 = 182 := by decide +kernel
theorem lk_1_0 : am_lk 1 0 = 2 := by decide +kernel
theorem lk_1_1 : am_lk 1 1 = 3 := by decide +kernel
theorem lk_1_2 : am_lk 1 2 = 4 := by decide +kernel
theorem lk_1_4 : am_lk 1 4 = 5 := by decide +kernel
theorem lk_1_5 : am_lk 1 5 = 6 := by decide +kernel
theorem lk_1_7 : am_lk 1 7 = 7 := by decide +kernel
theorem lk_1_9 : am_lk 1 9 = 8 := by decide +kernel
theorem lk_1_10 : am_lk 1 10 = 12 := by decide +kernel
theorem lk_1_11 : am_lk 1 11 = 16 := by decide +kernel
theorem lk_1_13 : am_lk 1 13 = 17 := by decide +kernel
theorem lk_1_14 : am_lk 1 14 = 18 := by decide +kernel
theorem lk_1_15 : am_lk 1 15 = 19 := by decide +kernel
theorem lk_8_0 : am_lk 8 0 = 9 := by decide +kernel
theorem lk_8_1 : am_lk 8 1 = 10 := by decide +kernel
theorem lk_8_2 : am_lk 8 2 = 11 := by decide +kernel
theorem lk_12_0 : am_lk 12 0 = 13 := by decide +kernel
theorem lk_12_1 : am_lk 12 1 = 14 := by decide +kernel
theorem lk_12_2 : am_lk 12 2 = 15 := by decide +kernel
theorem lk_52_0 : am_lk 52 0 = 1 := by decide +kernel
theorem lk_52_1 : am_lk 52 1 = 53 := by decide +kernel
theorem lk_52_2 : am_lk 52 2 = 54 := by decide +kernel
theorem lk_52_6 : am_lk 52 6 = 61 := by decide +kernel
theorem lk_52_7 : am_lk 52 7 = 62 := by decide +kernel
theorem lk_52_8 : am_lk 52 8 = 63 := by decide +kernel
theorem lk_52_9 : am_lk 52 9 = 64 := by decide +kernel
theorem lk_52_10 : am_lk 52 10 = 65 := by decide +kernel
theorem lk_52_11 : am_lk 52 11 = 66 := by decide +kernel
theorem lk_54_10 : am_lk 54 10 = 55 := by decide +kernel
theorem lk_54_11 : am_lk 54 11 = 56 := by decide +kernel
theorem lk_54_13 : am_lk 54 13 = 57 := by decide +kernel
theorem lk_54_14 : am_lk 54 14 = 58 := by decide +kernel
theorem lk_54_15 : am_lk 54 15 = 59 := by decide +kernel
theorem lk_54_16 : am_lk 54 16 = 60 := by decide +kernel
theorem lk_67_10 : am_lk 67 10 = 68 := by decide +kernel
theorem lk_67_11 : am_lk 67 11 = 69 := by decide +kernel
theorem lk_67_13 : am_lk 67 13 = 70 := by decide +kernel
theorem lk_67_14 : am_lk 67 14 = 71 := by decide +kernel
theorem lk_67_15 : am_lk 67 15 = 72 := by decide +kernel
theorem lk_67_16 : am_lk 67 16 = 73 := by decide +kernel
theorem lk_74_10 : am_lk 74 10 = 75 := by decide +kernel
theorem lk_74_11 : am_lk 74 11 = 76 := by decide +kernel
theorem lk_74_13 : am_lk 74 13 = 77 := by decide +kernel
theorem lk_74_14 : am_lk 74 14 = 78 := by decide +kernel
theorem lk_74_15 : am_lk 74 15 = 79 := by decide +kernel
theorem lk_74_16 : am_lk 74 16 = 80 := by decide +kernel
theorem lk_81_10 : am_lk 81 10 = 82 := by decide +kernel
theorem lk_81_11 : am_lk 81 11 = 83 := by decide +kernel
theorem lk_81_13 : am_lk 81 13 = 84 := by decide +kernel
theorem lk_81_14 : am_lk 81 14 = 85 := by decide +kernel
theorem lk_81_15 : am_lk 81 15 = 86 := by decide +kernel
theorem lk_81_16 : am_lk 81 16 = 87 := by decide +kernel
theorem lk_88_10 : am_lk 88 10 = 89 := by decide +kernel
theorem lk_88_11 : am_lk 88 11 = 90 := by decide +kernel
theorem lk_88_13 : am_lk 88 13 = 91 := by decide +kernel
theorem lk_88_14 : am_lk 88 14 = 92 := by decide +kernel
theorem lk_88_15 : am_lk 88 15 = 93 := by decide +kernel
theorem lk_88_16 : am_lk 88 16 = 94 := by decide +kernel
theorem lk_95_10 : am_lk 95 10 = 96 := by decide +kernel
theorem lk_95_11 : am_lk 95 11 = 97 := by decide +kernel
theorem lk_95_13 : am_lk 95 13 = 98 := by decide +kernel
theorem lk_95_14 : am_lk 95 14 = 99 := by decide +kernel
theorem lk_95_15 : am_lk 95 15 = 100 := by decide +kernel
theorem lk_95_16 : am_lk 95 16 = 101 := by decide +kernel
theorem lk_102_10 : am_lk 102 10 = 103 := by decide +kernel
theorem lk_102_11 : am_lk 102 11 = 104 := by decide +kernel
theorem lk_102_13 : am_lk 102 13 = 105 := by decide +kernel
theorem lk_102_14 : am_lk 102 14 = 106 := by decide +kernel
theorem lk_102_15 : am_lk 102 15 = 107 := by decide +kernel
theorem lk_102_16 : am_lk 102 16 = 108 := by decide +kernel
theorem lk_109_10 : am_lk 109 10 = 110 := by decide +kernel
theorem lk_109_11 : am_lk 109 11 = 111 := by decide +kernel
theorem lk_109_13 : am_lk 109 13 = 112 := by decide +kernel
theorem lk_109_14 : am_lk 109 14 = 113 := by decide +kernel
theorem lk_109_15 : am_lk 109 15 = 114 := by decide +kernel
theorem lk_109_16 : am_lk 109 16 = 115 := by decide +kernel
theorem lk_116_10 : am_lk 116 10 = 117 := by decide +kernel
theorem lk_116_11 : am_lk 116 11 = 118 := by decide +kernel
theorem lk_116_13 : am_lk 116 13 = 119 := by decide +kernel
theorem lk_116_14 : am_lk 116 14 = 120 := by decide +kernel
theorem lk_116_15 : am_lk 116 15 = 121 := by decide +kernel
theorem lk_116_16 : am_lk 116 16 = 122 := by decide +kernel
theorem lk_126_0 : am_lk 126 0 = 127 := by decide +kernel
theorem lk_128_4 : am_lk 128 4 = 129 := by decide +kernel
theorem lk_130_4 : am_lk 130 4 = 131 := by decide +kernel
theorem lk_132_4 : am_lk 132 4 = 133 := by decide +kernel
theorem lk_134_4 : am_lk 134 4 = 135 := by decide +kernel
theorem lk_136_4 : am_lk 136 4 = 137 := by decide +kernel
theorem lk_138_4 : am_lk 138 4 = 139 := by decide +kernel
theorem lk_140_0 : am_lk 140 0 = 141 := by decide +kernel
theorem lk_142_4 : am_lk 142 4 = 143 := by decide +kernel
theorem lk_144_4 : am_lk 144 4 = 145 := by decide +kernel
theorem lk_146_4 : am_lk 146 4 = 147 := by decide +kernel
theorem lk_148_4 : am_lk 148 4 = 149 := by decide +kernel
theorem lk_150_4 : am_lk 150 4 = 151 := by decide +kernel
theorem lk_152_4 : am_lk 152 4 = 153 := by decide +kernel
theorem lk_154_0 : am_lk 154 0 = 155 := by decide +kernel
theorem lk_156_4 : am_lk 156 4 = 157 := by decide +kernel
theorem lk_158_4 : am_lk 158 4 = 159 := by decide +kernel
theorem lk_160_4 : am_lk 160 4 = 161 := by decide +kernel
theorem lk_162_4 : am_lk 162 4 = 163 := by decide +kernel
theorem lk_164_4 : am_lk 164 4 = 165 := by decide +kernel
theorem lk_166_4 : am_lk 166 4 = 167 := by decide +kernel
theorem lk_168_0 : am_lk 168 0 = 169 := by decide +kernel
theorem lk_170_4 : am_lk 170 4 = 171 := by decide +kernel
theorem lk_172_4 : am_lk 172 4 = 173 := by decide +kernel
theorem lk_174_4 : am_lk 174 4 = 175 := by decide +kernel
theorem lk_176_4 : am_lk 176 4 = 177 := by decide +kernel
theorem lk_178_4 : am_lk 178 4 = 179 := by decide +kernel
theorem lk_180_4 : am_lk 180 4 = 181 := by decide +kernel
theorem lk_183_0 : am_lk 183 0 = 184 := by decide +kernel
theorem lk_183_1 : am_lk 183 1 = 185 := by decide +kernel
theorem lk_183_2 : am_lk 183 2 = 186 := by decide +kernel
theorem lk_187_0 : am_lk 187 0 = 188 := by decide +kernel
theorem lk_187_1 : am_lk 187 1 = 189 := by decide +kernel
theorem lk_187_2 : am_lk 187 2 = 190 := by decide +kernel
theorem lk_191_0 : am_lk 191 0 = 192 := by decide +kernel
theorem lk_191_1 : am_lk 191 1 = 193 := by decide +kernel
theorem lk_191_2 : am_lk 191 2 = 194 := by decide +kernel
theorem lk_195_0 : am_lk 195 0 = 196 := by decide +kernel
theorem lk_195_1 : am_lk 195 1 = 197 := by decide +kernel
theorem lk_195_2 : am_lk 195 2 = 198 := by decide +kernel
theorem lk_199_0 : am_lk 199 0 = 200 := by decide +kernel
theorem lk_199_1 : am_lk 199 1 = 201 := by decide +kernel
theorem lk_199_2 : am_lk 199 2 = 202 := by decide +kernel
theorem lk_203_0 : am_lk 203 0 = 204 := by decide +kernel
theorem lk_203_1 : am_lk 203 1 = 205 := by decide +kernel
theorem lk_203_2 : am_lk 203 2 = 206 := by decide +kernel
def am_ty : Nat → FieldType := fun t => match t with
  | 0 => .int
  | 1 => .boolean
  | 2 => .int
  | 3 => .object "ClubBase$Column"
  | 4 => .object "ClubBase$Rule"
  | 5 => .object "ClubBase$Question"
  | 6 => .object "ClubBase$Act"
  | 7 => .object "ClubBase$Rows"
  | _ => .object "ClubBase$Step"
abbrev am_Gl : Type := va_G × (Nat → ClassId) × (Nat → Prop) × Bool × Nat × Nat × (Nat → Int32)
def am_tr (ad : Nat → Nat) : Value → Value := fun v => match v with
  | .ref i => .ref (ad i)
  | .retAddr k => .ref k
  | v => v
def am_tys (g : am_Gl) : List (ClassId × FieldType) := (List.range 9).map (fun t => (g.2.1 t, am_ty t))
/-- which cell a word of a reference stands for: links stand fast once all is made (but for the array 182) -/
def am_rv (g : am_Gl) (i k : Nat) (x : Int32) : Option Nat := if g.2.2.2.1 && (!(i == 182) && decide (k < (am_sh i).2.2)) then some (am_lk i k) else if x < 0 then none else if g.2.2.2.1 && !decide (x.toNatClampNeg < 207) then none else some x.toNatClampNeg
def am_fv (g : am_Gl) (ad : Nat → Nat) (ci i k : Nat) (x : Int32) : Value := if am_fr ci k then va_rf ((am_rv g i k x).map ad) else .int x
def am_e1 (g : am_Gl) (ad : Nat → Nat) (σ : am_M) (i : Nat) : va_E := if (am_sh i).1 = 0 then .inr ((am_sh i).2.1, (List.range (am_sh i).2.2).map (fun k => am_fv g ad (am_sh i).2.1 i k (σ i k))) else .inl (g.2.1 (am_sh i).2.1, (am_sh i).2.2, if (am_sh i).2.1 < 2 then .inl (σ i) else if (am_sh i).2.1 = 2 then .inr (.inl (fun j => (σ i j).toInt64)) else .inr (.inr (.inr (.inr (fun j => (am_rv g i j (σ i j)).map ad)))))
/-- a cell; those from 207 on are of the second object, and count anew -/
def am_e (g : am_Gl) (ad : Nat → Nat) (σ : am_M) (i : Nat) : va_E := if i < 207 then am_e1 g ad σ i else am_e1 g (fun j => ad (j + 207)) (fun j => σ (j + 207)) (i - 207)
def am_ws (g : am_Gl) (n : Nat) (ad : Nat → Nat) (σ : am_M) : va_W := (List.range n).map (fun i => (ad i, am_e g ad σ i))
def am_A (g : am_Gl) : Nat → Prop := g.2.2.1
/-- which words stand for cells; while things are being made, they stand for cells that are there -/
def am_isr (i j : Nat) : Bool := if (am_sh i).1 = 0 then am_fr (am_sh i).2.1 j else decide (2 < (am_sh i).2.1)
def am_mw1 (n : Nat) (σ : am_M) : Prop := ∀ i j, i < n → am_isr i j = true → σ i j < 0 ∨ (σ i j).toNatClampNeg < n
def am_mw (n : Nat) (σ : am_M) : Prop := am_mw1 n σ ∧ am_mw1 (n - 207) (fun i => σ (i + 207))
def am_H (g : am_Gl) (n : Nat) (ad : Nat → Nat) (σ : am_M) (H : Heap) : Prop := va_P g.1 am_cl (am_ws g n ad σ) H ∧ va_D (am_A g) (am_ws g n ad σ) ∧ (g.2.2.2.1 = false → am_mw n σ)
def am_N1 : List Cond := [Jvm.Cond.methodLinkNest "ClubBase$Base" (17 : Nat) ({ cls := "ClubBase$Column", name := "<init>", desc := "()V" } : Jvm.MethodName) "ClubBase", Jvm.Cond.methodLinkNest "ClubBase$Base" (32 : Nat) ({ cls := "ClubBase$Rule", name := "<init>", desc := "()V" } : Jvm.MethodName) "ClubBase", Jvm.Cond.methodLinkNest "ClubBase$Base" (52 : Nat) ({ cls := "ClubBase$Reason", name := "<init>", desc := "()V" } : Jvm.MethodName) "ClubBase", Jvm.Cond.methodLinkNest "ClubBase" (27 : Nat) ({ cls := "ClubBase$Reason", name := "<init>", desc := "()V" } : Jvm.MethodName) "ClubBase", Jvm.Cond.methodLinkNest "ClubBase$Act" (17 : Nat) ({ cls := "ClubBase$Step", name := "<init>", desc := "()V" } : Jvm.MethodName) "ClubBase", Jvm.Cond.methodLinkNest "ClubBase$Base" (227 : Nat) ({ cls := "ClubBase", name := "orZero", desc := "(I)I" } : Jvm.MethodName) "ClubBase", Jvm.Cond.methodLinkNest "ClubBase$Base" (217 : Nat) ({ cls := "ClubBase", name := "limited", desc := "(J)I" } : Jvm.MethodName) "ClubBase", Jvm.Cond.methodLinkNest "ClubBase$Aske\x72" (214 : Nat) ({ cls := "ClubBase", name := "orZero", desc := "(I)I" } : Jvm.MethodName) "ClubBase", Jvm.Cond.methodLinkNest "ClubBase$Aske\x72" (222 : Nat) ({ cls := "ClubBase", name := "limited", desc := "(J)I" } : Jvm.MethodName) "ClubBase"]
def am_N2 : List Cond := [Jvm.Cond.castable "java/lang/IllegalStateException" "java/lang/IllegalStateException", Jvm.Cond.declares ({ cls := "java/lang/RuntimeException", name := "<init>", desc := "()V" } : Jvm.MethodName), Jvm.Cond.declares ({ cls := "java/lang/RuntimeException", name := "<init>", desc := "(Ljava/lang/String;)V" } : Jvm.MethodName), Jvm.Cond.declares ({ cls := "java/lang/Exception", name := "<init>", desc := "()V" } : Jvm.MethodName), Jvm.Cond.declares ({ cls := "java/lang/Exception", name := "<init>", desc := "(Ljava/lang/String;)V" } : Jvm.MethodName), Jvm.Cond.declares ({ cls := "java/lang/Throwable", name := "<init>", desc := "()V" } : Jvm.MethodName), Jvm.Cond.declares ({ cls := "java/lang/Throwable", name := "<init>", desc := "(Ljava/lang/String;)V" } : Jvm.MethodName), Jvm.Cond.castable "java/lang/IndexOutOfBoundsException" "java/lang/IndexOutOfBoundsException", Jvm.Cond.castable "java/lang/IllegalArgumentException" "java/lang/IllegalArgumentException"]
def am_N3 : List String := ["ClubBase$Column", "ClubBase$Rule", "ClubBase$Question", "ClubBase$Act", "ClubBase$Step", "ClubBase$Rows"]
def am_N4 : List (String × String) := [("java/lang/IllegalStateException", "java/lang/IllegalArgumentException"), ("java/lang/IllegalStateException", "java/lang/IndexOutOfBoundsException"), ("java/lang/IllegalArgumentException", "java/lang/IllegalStateException"), ("java/lang/IllegalArgumentException", "java/lang/IndexOutOfBoundsException"), ("java/lang/IndexOutOfBoundsException", "java/lang/IllegalStateException"), ("java/lang/IndexOutOfBoundsException", "java/lang/IllegalArgumentException")]
def am_K (g : am_Gl) (U : State) (H : Heap) : Prop := va_K g.1 am_cl (am_tys g) U ∧ (∀ w ∈ am_N1, va_Nw w U) ∧ (∀ w ∈ am_N2, va_Nw w U) ∧ (∀ C ∈ am_N3, va_AO C U) ∧ (∀ q ∈ am_N4, va_Nc q.1 q.2 U) ∧ vx_Zq Bundle.tN "UNASSIGNED_STACK" Bundle.steD (am_A g) U H ∧ vx_Zq Bundle.tN "SUPPRESSED_SENTINEL" Bundle.listD (am_A g) U H ∧ va_X g.2.2.2.2.1 g.2.2.2.2.2.1 g.2.2.2.2.2.2 U H ∧ ¬ g.2.2.1 g.2.2.2.2.1
abbrev am_yl (Y : am_Y) : Nat := Y.2.2.2.2.2.1
abbrev am_yc (Y : am_Y) : Nat := Y.2.2.2.2.2.2.1
abbrev am_ys (Y : am_Y) : Nat := Y.2.2.2.2.2.2.2.1
abbrev am_yt (Y : am_Y) : Bool := Y.2.2.2.2.2.2.2.2
abbrev am_yh (Y : am_Y) : Option (List (Nat × Nat × Nat × Nat)) := Y.2.2.2.2.1
def am_lo (Y : am_Y) : Nat := if am_yl Y = 16 then 644 else 36 * am_yl Y
theorem am_lo_ge (Y : am_Y) : 36 * am_yl Y ≤ am_lo Y := by
  unfold am_lo
  by_cases h : am_yl Y = 16
  · rw [if_pos h, h]; decide
  · rw [if_neg h]; exact Nat.le_refl _
def am_rm (Y : am_Y) : Room := { frames := am_yl Y, cells := am_yc Y, slots := am_ys Y, locals := am_lo Y }
def am_word (Y : am_Y) : Cond := match am_yh Y with
  | none => .code Y.1 Y.2.1 Y.2.2.1 Y.2.2.2.1
  | some hh => .codeWith Y.1 Y.2.1 Y.2.2.1 Y.2.2.2.1 hh
def am_wsY (Y : am_Y) : List Cond := am_word Y :: am_G
def am_tb (Y : am_Y) : List ExceptionTableEntry := match am_yh Y with
  | none => []
  | some hh => tableOf hh
def am_C (l : Launch) (g : am_Gl) (Y : am_Y) (p : Program) (s : State) (m : MethodId) (args : Array Value) (meth : Method) (c : Code) : Prop :=
  p.tables.exec = Jvm.exec ∧ c.code = Y.2.1 ∧ c.maxLocals = Y.2.2.1 ∧ s.vm.findClass Y.1.cls = some m.cls ∧ (∀ w ∈ am_wsY Y, w.before args s = true) ∧ meth.sig.returnType = Y.2.2.2.1 ∧ meth.locks = false ∧ meth.name = Y.1.name ∧ c.exceptionTable.toList = am_tb Y ∧ am_K g s s.heap ∧ (∀ q, s.heap.size ≤ q → g.2.2.1 q) ∧ l.stackTraces = false
abbrev am_P : Type := (Option Value ⊕ String) → Nat → am_M → Prop
def am_end (g : am_Gl) (n : Nat) (ad : Nat → Nat) (P : am_P) (o : (Nat → Nat) → (Option Value ⊕ String) → Prop) (t : State) : Prop := ∃ (r : Option Value ⊕ String) (n' : Nat) (ad' : Nat → Nat) (σ' : am_M), o ad' r ∧ P r n' σ' ∧ n ≤ n' ∧ (∀ i, i < n → ad' i = ad i) ∧ am_H g n' ad' σ' t.heap
def am_rl (n : Nat) (v : Value) : Prop := ∀ i, v = .ref i → i < n
def am_Qc (g : am_Gl) (n : Nat) (ad : Nat → Nat) (P : am_P) : Array Value → State → Outcome → State → Prop := fun _ st oc t => (∃ (v : Option Value) (n' : Nat) (ad' : Nat → Nat) (σ' : am_M), oc = .returned (v.map (am_tr ad')) ∧ (∀ x, v = some x → am_rl n' x) ∧ P (.inl v) n' σ' ∧ n ≤ n' ∧ (∀ i, i < n → ad' i = ad i) ∧ am_H g n' ad' σ' t.heap) ∧ va_F (am_A g) st t
def am_XC (g : am_Gl) (n : Nat) (ad : Nat → Nat) (P : am_P) : String → State → State → Prop := fun E st t => (∃ (n' : Nat) (ad' : Nat → Nat) (σ' : am_M), P (.inr E) n' σ' ∧ n ≤ n' ∧ (∀ i, i < n → ad' i = ad i) ∧ am_H g n' ad' σ' t.heap) ∧ va_F (am_A g) st t
def am_B (g : am_Gl) (n : Nat) (ad : Nat → Nat) (σ : am_M) (U : State) : Prop := (∀ q, U.heap.size ≤ q → g.2.2.1 q) ∧ am_H g n ad σ U.heap ∧ am_K g U U.heap
def am_Pc (l : Launch) (g : am_Gl) (n : Nat) (ad : Nat → Nat) (σ : am_M) (av : List Value) : Array Value → State → Prop := fun v U => v = (av.map (am_tr ad)).toArray ∧ am_B g n ad σ U ∧ l.stackTraces = false
def am_Q (g : am_Gl) (Y : am_Y) (n : Nat) (ad : Nat → Nat) (P : am_P) (below : List Frame) (args : Array Value) (s : State) : State → Prop := if am_yt Y = true then vx_MQ below (am_Qc g n ad P) (am_XC g n ad P) args s (am_yc Y) (am_ys Y) (am_A g) else MQ below (am_Qc g n ad P) args s (am_yc Y) (am_ys Y) (am_A g)
def am_lv (ad : Nat → Nat) (lv : List (Nat × Value)) : List (Nat × Value) := lv.map (fun q => (q.1, am_tr ad q.2))
def am_wf (n : Nat) (lv : List (Nat × Value)) (st : List Value) : Prop := (∀ q ∈ lv, am_rl n q.2) ∧ ∀ v ∈ st, am_rl n v
/-- a method's contract -/
def AC (l : Launch) (g : am_Gl) (Y : am_Y) (n : Nat) (σ : am_M) (av : List Value) (P : am_P) : Prop := (∀ v ∈ av, am_rl n v) → ∀ ad : Nat → Nat, if am_yt Y = true then vx_Met l Y.1 (am_wsY Y) (am_rm Y) (am_Pc l g n ad σ av) (am_Qc g n ad P) (am_XC g n ad P) (am_yc Y) (am_ys Y) (am_A g) else Met l Y.1 (am_wsY Y) (am_rm Y) (am_Pc l g n ad σ av) (am_Qc g n ad P) (am_yc Y) (am_ys Y) (am_A g)
/-- the machine in a method's body -/
def AW (l : Launch) (g : am_Gl) (Y : am_Y) (n0 : Nat) (ad0 : Nat → Nat) (P : am_P) (k z : Nat) (n : Nat) (σ : am_M) (pc : Nat) (lv : List (Nat × Value)) (st : List Value) : Prop :=
  ∀ (p : Program) (e : Env) (s : State) (m : MethodId) (args : Array Value) (below : List Frame) (meth : Method) (c : Code), am_C l g Y p s m args meth c → ∀ (ad : Nat → Nat) (H : Heap) (locs : List Loc) (ls : Array Slot), n0 ≤ n → (∀ i, i < n0 → ad i = ad0 i) → am_H g n ad σ H → va_S (am_A g) s.heap H locs → lv_has ls Y.2.2.1 (am_lv ad lv) → am_wf n lv st →
    W p l e (am_rm Y) s m args below meth c H locs k z (am_Q g Y n0 ad0 P below args s) (F0 m pc ls (st.map (am_tr ad)))
def am_ok (Y : am_Y) : Prop := plainName Y.1.cls = true ∧ am_word Y ∈ am_G ∧ Cond.initialized Y.1.cls ∈ am_G ∧ (Y.1.cls ≠ "java/lang/invoke/MethodHandle" ∧ Y.1.cls ≠ "java/lang/invoke/VarHandle")
theorem am_tr_cat (ad : Nat → Nat) (v : Value) : (am_tr ad v).category = v.category := by cases v <;> rfl
theorem am_G_good {w : Cond} (h : w ∈ am_G) : goodWord w = true := (List.mem_filter.mp h).2
theorem am_Y_in {Y : am_Y} (ok : am_ok Y) {w : Cond} (h : w ∈ am_wsY Y) : w ∈ am_G := by
  rcases List.mem_cons.mp h with h | h
  · rw [h]; exact ok.2.1
  · exact h
theorem am_good {Y Y' : am_Y} (ok : am_ok Y') : GoodIn (am_wsY Y) (am_wsY Y') := fun w h => ⟨List.mem_cons_of_mem _ (am_Y_in ok h), good_of_word (am_G_good (am_Y_in ok h))⟩
theorem am_word_G {l : Launch} {g : am_Gl} {Y : am_Y} {p : Program} {s : State} {m : MethodId} {args : Array Value} {meth : Method} {c : Code} (C : am_C l g Y p s m args meth c) {w : Cond} (h : w ∈ am_G) : w.before args s = true := C.2.2.2.2.1 w (List.mem_cons_of_mem _ h)
theorem am_ws_get {g : am_Gl} {n i : Nat} {ad : Nat → Nat} {σ : am_M} (h : i < n) : (am_ws g n ad σ)[i]? = some (ad i, am_e g ad σ i) := by
  simp [am_ws, h]
theorem am_e_k {g : am_Gl} {i : Nat} {ad : Nat → Nat} {σ σ' : am_M} (h : σ' i = σ i) : am_e g ad σ' i = am_e g ad σ i := by
  unfold am_e
  by_cases hi : i < 207
  · rw [if_pos hi, if_pos hi]; unfold am_e1; rw [h]
  · rw [if_neg hi, if_neg hi]; unfold am_e1
    have e : i - 207 + 207 = i := by omega
    simp only [e, h]
theorem am_sh_lt {i k c N : Nat} (h : am_sh i = (k, c, N)) (hk : k < 9) : i < 207 := by
  by_cases hi : i < 207
  · exact hi
  · have e : am_sh i = (9, 0, 0) := by
      unfold am_sh
      rw [List.getD_eq_getElem?_getD, List.getElem?_eq_none (by rw [show am_L.length = 207 from by decide +kernel]; omega)]
      rfl
    rw [e] at h
    cases h
    omega
theorem am_ws_set {g : am_Gl} {n i : Nat} {ad : Nat → Nat} {σ σ' : am_M} {e : va_E} (he : e = am_e g ad σ' i) (ho : ∀ j, j ≠ i → σ' j = σ j) : (am_ws g n ad σ).set i (ad i, e) = am_ws g n ad σ' := by
  apply List.ext_getElem?
  intro k
  by_cases hk : k < n
  · by_cases hki : k = i
    · subst hki
      rw [List.getElem?_set_self (by simp [am_ws, hk]), am_ws_get hk, he]
    · rw [List.getElem?_set_ne (fun q => hki q.symm), am_ws_get hk, am_ws_get hk]
      simp [am_e_k (ad := ad) (g := g) (ho k hki)]
  · rw [List.getElem?_eq_none (by simp [am_ws]; omega), List.getElem?_eq_none (by simp [am_ws]; omega)]
theorem am_e_obj {g : am_Gl} {ad : Nat → Nat} {σ : am_M} {i ci N : Nat} (h : am_sh i = (0, ci, N)) : am_e g ad σ i = .inr (ci, (List.range N).map (fun k => am_fv g ad ci i k (σ i k))) := by
  rw [am_e, if_pos (am_sh_lt h (by decide))]; simp [am_e1, h]
theorem am_e_int {g : am_Gl} {ad : Nat → Nat} {σ : am_M} {i t N : Nat} (h : am_sh i = (1, t, N)) (ht : t < 2) : am_e g ad σ i = .inl (g.2.1 t, N, .inl (σ i)) := by
  rw [am_e, if_pos (am_sh_lt h (by decide))]; simp [am_e1, h, ht]
theorem am_e_ref {g : am_Gl} {ad : Nat → Nat} {σ : am_M} {i t N : Nat} (h : am_sh i = (1, t, N)) (ht : 2 < t) : am_e g ad σ i = .inl (g.2.1 t, N, .inr (.inr (.inr (.inr (fun j => (am_rv g i j (σ i j)).map ad))))) := by
  have h1 : ¬ t < 2 := by omega
  have h2 : ¬ t = 2 := by omega
  rw [am_e, if_pos (am_sh_lt h (by decide))]; simp [am_e1, h, h1, h2]
theorem am_e_long {g : am_Gl} {ad : Nat → Nat} {σ : am_M} {i N : Nat} (h : am_sh i = (1, 2, N)) : am_e g ad σ i = .inl (g.2.1 2, N, .inr (.inl (fun j => (σ i j).toInt64))) := by
  rw [am_e, if_pos (am_sh_lt h (by decide))]; simp [am_e1, h]
theorem am_tys_get {g : am_Gl} {t : Nat} (h : t < 9) : (am_tys g)[t]? = some (g.2.1 t, am_ty t) := by
  simp [am_tys, h]
theorem am_set_o9 {σ : am_M} {i k j : Nat} {x : Int32} (h : j ≠ i) : am_set σ i k x j = σ j := by simp [am_set, h]
theorem am_mw1_set {n i k : Nat} {x : Int32} {σ : am_M} (h : am_mw1 n σ) (hr : am_isr i k = true → x < 0 ∨ x.toNatClampNeg < n) : am_mw1 n (am_set σ i k x) := by
  intro a b ha hb
  by_cases hai : a = i
  · subst hai
    by_cases hbk : b = k
    · subst hbk
      simpa [am_set, upd] using hr hb
    · simpa [am_set, upd, hbk] using h a b ha hb
  · simpa [am_set, hai] using h a b ha hb
theorem am_mw1_put {n i : Nat} {f : Nat → Int32} {σ : am_M} (h : am_mw1 n σ) (hr : ∀ j, am_isr i j = false) : am_mw1 n (am_put σ i f) := by
  intro a b ha hb
  by_cases hai : a = i
  · subst hai
    rw [hr b] at hb
    cases hb
  · simpa [am_put, hai] using h a b ha hb
theorem am_mw_set {n i k : Nat} {x : Int32} {σ : am_M} {kd ci N : Nat} (hs : am_sh i = (kd, ci, N)) (hk : kd < 9) (h : am_mw n σ) (hr : am_isr i k = true → x < 0 ∨ x.toNatClampNeg < n) : am_mw n (am_set σ i k x) := by
  have hi := am_sh_lt hs hk
  refine ⟨am_mw1_set h.1 hr, ?_⟩
  have e : (fun a => am_set σ i k x (a + 207)) = fun a => σ (a + 207) := by
    funext a; exact am_set_o9 (by omega)
  rw [e]; exact h.2
theorem am_mw_put {n i : Nat} {f : Nat → Int32} {σ : am_M} {kd ci N : Nat} (hs : am_sh i = (kd, ci, N)) (hk : kd < 9) (h : am_mw n σ) (hr : ∀ j, am_isr i j = false) : am_mw n (am_put σ i f) := by
  have hi := am_sh_lt hs hk
  refine ⟨am_mw1_put h.1 hr, ?_⟩
  have e : (fun a => am_put σ i f (a + 207)) = fun a => σ (a + 207) := by
    funext a; simp [am_put, show ¬ a + 207 = i by omega]
  rw [e]; exact h.2
theorem am_isr_obj {i ci N j : Nat} (h : am_sh i = (0, ci, N)) : am_isr i j = am_fr ci j := by simp [am_isr, h]
theorem am_isr_arr {i t N j : Nat} (h : am_sh i = (1, t, N)) : am_isr i j = decide (2 < t) := by simp [am_isr, h]
theorem am_set_s (σ : am_M) (i k : Nat) (x : Int32) : am_set σ i k x i = upd (σ i) k x := by simp [am_set]
theorem am_set_o {σ : am_M} {i k j : Nat} {x : Int32} (h : j ≠ i) : am_set σ i k x j = σ j := by simp [am_set, h]
theorem am_put_s (σ : am_M) (i : Nat) (f : Nat → Int32) : am_put σ i f i = f := by simp [am_put]
theorem am_put_o {σ : am_M} {i j : Nat} {f : Nat → Int32} (h : j ≠ i) : am_put σ i f j = σ j := by simp [am_put, h]
theorem am_lv_at {ls : Array Slot} {nL : Nat} {ad : Nat → Nat} {lv : List (Nat × Value)} (h : lv_has ls nL (am_lv ad lv)) (k : Nat) {i : Nat} {v : Value} (hk : lv[k]? = some (i, v)) : ls[i]? = some (.val (am_tr ad v)) := lv_at h k (by rw [am_lv, List.getElem?_map, hk]; rfl)
theorem am_lv_sto (ad : Nat → Nat) (i : Nat) (v : Value) (lv : List (Nat × Value)) : ((i, am_tr ad v) :: (am_lv ad lv).filter (fun q => !(q.1 == i) && !(q.1 + 1 == i && q.2.category == 2))) = am_lv ad ((i, v) :: lv.filter (fun q => !(q.1 == i) && !(q.1 + 1 == i && q.2.category == 2))) := by
  simp only [am_lv, List.map_cons, List.filter_map]
  congr 2
  apply List.filter_congr
  intro q hq
  simp [am_tr_cat]
theorem am_lv_stoL (ad : Nat → Nat) (i : Nat) (v : Value) (lv : List (Nat × Value)) : ((i, am_tr ad v) :: (am_lv ad lv).filter (fun q => !(q.1 == i) && (!(q.1 == i + 1) && !(q.1 + 1 == i && q.2.category == 2)))) = am_lv ad ((i, v) :: lv.filter (fun q => !(q.1 == i) && (!(q.1 == i + 1) && !(q.1 + 1 == i && q.2.category == 2)))) := by
  simp only [am_lv, List.map_cons, List.filter_map]
  congr 2
  apply List.filter_congr
  intro q hq
  simp [am_tr_cat]
theorem am_wf_int {n : Nat} {lv : List (Nat × Value)} {st : List Value} {v : Value} (hv : ∀ i, v ≠ .ref i) (h : am_wf n lv st) : am_wf n lv (v :: st) := ⟨h.1, fun x hx => by
  rcases List.mem_cons.mp hx with e | e
  · rw [e]; exact fun i hi => absurd hi (hv i)
  · exact h.2 x e⟩
theorem am_wf_ref {n i : Nat} {lv : List (Nat × Value)} {st : List Value} (hi : i < n) (h : am_wf n lv st) : am_wf n lv (.ref i :: st) := ⟨h.1, fun x hx => by
  rcases List.mem_cons.mp hx with e | e
  · rw [e]; intro j hj; cases hj; exact hi
  · exact h.2 x e⟩
theorem am_wf_val {n : Nat} {lv : List (Nat × Value)} {st : List Value} {v : Value} (hv : am_rl n v) (h : am_wf n lv st) : am_wf n lv (v :: st) := ⟨h.1, fun x hx => by
  rcases List.mem_cons.mp hx with e | e
  · rw [e]; exact hv
  · exact h.2 x e⟩
theorem am_wf_tl {n : Nat} {lv : List (Nat × Value)} {st : List Value} {v : Value} (h : am_wf n lv (v :: st)) : am_wf n lv st := ⟨h.1, fun x hx => h.2 x (List.mem_cons_of_mem _ hx)⟩
theorem am_wf_hd {n : Nat} {lv : List (Nat × Value)} {st : List Value} {v : Value} (h : am_wf n lv (v :: st)) : am_rl n v := h.2 v List.mem_cons_self
theorem am_wf_sto {n i : Nat} {lv : List (Nat × Value)} {st : List Value} {v : Value} {f : Nat × Value → Bool} (h : am_wf n lv (v :: st)) : am_wf n ((i, v) :: lv.filter f) st := ⟨fun q hq => by
  rcases List.mem_cons.mp hq with e | e
  · rw [e]; exact am_wf_hd h
  · exact h.1 q (List.mem_filter.mp e).1, fun x hx => h.2 x (List.mem_cons_of_mem _ hx)⟩
theorem am_rl_lv {n k i : Nat} {lv : List (Nat × Value)} {st : List Value} {v : Value} (h : am_wf n lv st) (hk : lv[k]? = some (i, v)) : am_rl n v := h.1 (i, v) (List.mem_of_getElem? hk)
theorem am_rl_int {n : Nat} {x : Int32} : am_rl n (.int x) := fun _ h => by cases h
theorem am_rl_long {n : Nat} {x : Int64} : am_rl n (.long x) := fun _ h => by cases h
theorem am_iconst {l : Launch} {g : am_Gl} {Y : am_Y} {n0 : Nat} {ad0 : Nat → Nat} {P : am_P} {k z n : Nat} {σ : am_M} {pc : Nat} {lv : List (Nat × Value)} {st : List Value} {a : Int} {v : Int32} (d : decode Y.2.1 pc = .ok (.iconst a, 1)) (hv : Int32.ofInt a = v) (kk : AW l g Y n0 ad0 P k z n σ (pc + 1) lv (.int v :: st)) : AW l g Y n0 ad0 P k z n σ pc lv st := by
  intro p e s m args below meth c C ad H locs ls hn hx hH hS hl hw
  exact lv_iconst C.1 C.2.1 d hv (kk p e s m args below meth c C ad H locs ls hn hx hH hS hl (am_wf_int (fun _ => by intro h; cases h) hw))
theorem am_bipush {l : Launch} {g : am_Gl} {Y : am_Y} {n0 : Nat} {ad0 : Nat → Nat} {P : am_P} {k z n : Nat} {σ : am_M} {pc : Nat} {lv : List (Nat × Value)} {st : List Value} {a : Int} {v : Int32} (d : decode Y.2.1 pc = .ok (.bipush a, 2)) (hv : (Int8.ofInt a).toInt32 = v) (kk : AW l g Y n0 ad0 P k z n σ (pc + 2) lv (.int v :: st)) : AW l g Y n0 ad0 P k z n σ pc lv st := by
  intro p e s m args below meth c C ad H locs ls hn hx hH hS hl hw
  exact lv_bipush C.1 C.2.1 d hv (kk p e s m args below meth c C ad H locs ls hn hx hH hS hl (am_wf_int (fun _ => by intro h; cases h) hw))
theorem am_sipush {l : Launch} {g : am_Gl} {Y : am_Y} {n0 : Nat} {ad0 : Nat → Nat} {P : am_P} {k z n : Nat} {σ : am_M} {pc : Nat} {lv : List (Nat × Value)} {st : List Value} {a : Int} {v : Int32} (d : decode Y.2.1 pc = .ok (.sipush a, 3)) (hv : (Int16.ofInt a).toInt32 = v) (kk : AW l g Y n0 ad0 P k z n σ (pc + 3) lv (.int v :: st)) : AW l g Y n0 ad0 P k z n σ pc lv st := by
  intro p e s m args below meth c C ad H locs ls hn hx hH hS hl hw
  exact lv_sipush C.1 C.2.1 d hv (kk p e s m args below meth c C ad H locs ls hn hx hH hS hl (am_wf_int (fun _ => by intro h; cases h) hw))
theorem am_lconst {l : Launch} {g : am_Gl} {Y : am_Y} {n0 : Nat} {ad0 : Nat → Nat} {P : am_P} {k z n : Nat} {σ : am_M} {pc : Nat} {lv : List (Nat × Value)} {st : List Value} {a : Fin 2} {v : Int64} (d : decode Y.2.1 pc = .ok (.lconst a, 1)) (hv : Int64.ofNat (a : Nat) = v) (kk : AW l g Y n0 ad0 P k z n σ (pc + 1) lv (.long v :: st)) : AW l g Y n0 ad0 P k z n σ pc lv st := by
  intro p e s m args below meth c C ad H locs ls hn hx hH hS hl hw
  exact lv_lconst C.1 C.2.1 d hv (kk p e s m args below meth c C ad H locs ls hn hx hH hS hl (am_wf_int (fun _ => by intro h; cases h) hw))
theorem am_ldc {l : Launch} {g : am_Gl} {Y : am_Y} {n0 : Nat} {ad0 : Nat → Nat} {P : am_P} {k z n : Nat} {σ : am_M} {pc : Nat} {lv : List (Nat × Value)} {st : List Value} {i : Nat} {v : Int32} (d : decode Y.2.1 pc = .ok (.ldc i, 2)) (hc : Cond.constant Y.1.cls i v ∈ am_G) (kk : AW l g Y n0 ad0 P k z n σ (pc + 2) lv (.int v :: st)) : AW l g Y n0 ad0 P k z n σ pc lv st := by
  intro p e s m args below meth c C ad H locs ls hn hx hH hS hl hw
  exact lv_ldc C.1 C.2.1 C.2.2.2.1 (am_word_G C hc) d (kk p e s m args below meth c C ad H locs ls hn hx hH hS hl (am_wf_int (fun _ => by intro h; cases h) hw))
theorem am_ldc_w {l : Launch} {g : am_Gl} {Y : am_Y} {n0 : Nat} {ad0 : Nat → Nat} {P : am_P} {k z n : Nat} {σ : am_M} {pc : Nat} {lv : List (Nat × Value)} {st : List Value} {i : Nat} {v : Int32} (d : decode Y.2.1 pc = .ok (.ldc_w i, 3)) (hc : Cond.constant Y.1.cls i v ∈ am_G) (kk : AW l g Y n0 ad0 P k z n σ (pc + 3) lv (.int v :: st)) : AW l g Y n0 ad0 P k z n σ pc lv st := by
  intro p e s m args below meth c C ad H locs ls hn hx hH hS hl hw
  exact lv_ldcw C.1 C.2.1 C.2.2.2.1 (am_word_G C hc) d (kk p e s m args below meth c C ad H locs ls hn hx hH hS hl (am_wf_int (fun _ => by intro h; cases h) hw))
theorem am_ldc2 {l : Launch} {g : am_Gl} {Y : am_Y} {n0 : Nat} {ad0 : Nat → Nat} {P : am_P} {k z n : Nat} {σ : am_M} {pc : Nat} {lv : List (Nat × Value)} {st : List Value} {i : Nat} {v : Int64} (d : decode Y.2.1 pc = .ok (.ldc2_w i, 3)) (hc : Cond.constantLong Y.1.cls i v ∈ am_G) (kk : AW l g Y n0 ad0 P k z n σ (pc + 3) lv (.long v :: st)) : AW l g Y n0 ad0 P k z n σ pc lv st := by
  intro p e s m args below meth c C ad H locs ls hn hx hH hS hl hw
  exact lv_ldc2 C.1 C.2.1 C.2.2.2.1 (am_word_G C hc) d (kk p e s m args below meth c C ad H locs ls hn hx hH hS hl (am_wf_int (fun _ => by intro h; cases h) hw))
theorem am_iload_n {l : Launch} {g : am_Gl} {Y : am_Y} {n0 : Nat} {ad0 : Nat → Nat} {P : am_P} {k z n : Nat} {σ : am_M} {pc : Nat} {lv : List (Nat × Value)} {st : List Value} {f : Fin 4} {i j : Nat} {x : Int32} (d : decode Y.2.1 pc = .ok (.iload_n f, 1)) (hi : (f : Nat) = i) (hl0 : lv[j]? = some (i, .int x)) (kk : AW l g Y n0 ad0 P k z n σ (pc + 1) lv (.int x :: st)) : AW l g Y n0 ad0 P k z n σ pc lv st := by
  intro p e s m args below meth c C ad H locs ls hn hx hH hS hl hw
  exact lv_iload_n C.1 C.2.1 d hi (am_lv_at hl j hl0) (kk p e s m args below meth c C ad H locs ls hn hx hH hS hl (am_wf_int (fun _ => by intro h; cases h) hw))
theorem am_iload {l : Launch} {g : am_Gl} {Y : am_Y} {n0 : Nat} {ad0 : Nat → Nat} {P : am_P} {k z n : Nat} {σ : am_M} {pc : Nat} {lv : List (Nat × Value)} {st : List Value} {i j : Nat} {x : Int32} (d : decode Y.2.1 pc = .ok (.iload i, 2)) (hl0 : lv[j]? = some (i, .int x)) (kk : AW l g Y n0 ad0 P k z n σ (pc + 2) lv (.int x :: st)) : AW l g Y n0 ad0 P k z n σ pc lv st := by
  intro p e s m args below meth c C ad H locs ls hn hx hH hS hl hw
  exact lv_iload C.1 C.2.1 d (am_lv_at hl j hl0) (kk p e s m args below meth c C ad H locs ls hn hx hH hS hl (am_wf_int (fun _ => by intro h; cases h) hw))
theorem am_istore_n {l : Launch} {g : am_Gl} {Y : am_Y} {n0 : Nat} {ad0 : Nat → Nat} {P : am_P} {k z n : Nat} {σ : am_M} {pc : Nat} {lv : List (Nat × Value)} {st : List Value} {f : Fin 4} {i : Nat} {x : Int32} {lv2 : List (Nat × Value)} (d : decode Y.2.1 pc = .ok (.istore_n f, 1)) (hi : (f : Nat) = i) (hn9 : i < Y.2.2.1) (hlv : (i, Value.int x) :: lv.filter (fun q => !(q.1 == i) && !(q.1 + 1 == i && q.2.category == 2)) = lv2) (kk : AW l g Y n0 ad0 P k z n σ (pc + 1) lv2 st) : AW l g Y n0 ad0 P k z n σ pc lv (.int x :: st) := by
  intro p e s m args below meth c C ad H locs ls hn hx hH hS hl hw
  refine lv_istore_n C.1 C.2.1 d hi hl hn9 (am_lv_sto ad i (.int x) lv) (fun ls9 hl9 => ?_)
  subst hlv
  exact kk p e s m args below meth c C ad H locs ls9 hn hx hH hS hl9 (am_wf_sto hw)
theorem am_istore {l : Launch} {g : am_Gl} {Y : am_Y} {n0 : Nat} {ad0 : Nat → Nat} {P : am_P} {k z n : Nat} {σ : am_M} {pc : Nat} {lv : List (Nat × Value)} {st : List Value} {i : Nat} {x : Int32} {lv2 : List (Nat × Value)} (d : decode Y.2.1 pc = .ok (.istore i, 2))  (hn9 : i < Y.2.2.1) (hlv : (i, Value.int x) :: lv.filter (fun q => !(q.1 == i) && !(q.1 + 1 == i && q.2.category == 2)) = lv2) (kk : AW l g Y n0 ad0 P k z n σ (pc + 2) lv2 st) : AW l g Y n0 ad0 P k z n σ pc lv (.int x :: st) := by
  intro p e s m args below meth c C ad H locs ls hn hx hH hS hl hw
  refine lv_istore C.1 C.2.1 d hl hn9 (am_lv_sto ad i (.int x) lv) (fun ls9 hl9 => ?_)
  subst hlv
  exact kk p e s m args below meth c C ad H locs ls9 hn hx hH hS hl9 (am_wf_sto hw)
theorem am_lload_n {l : Launch} {g : am_Gl} {Y : am_Y} {n0 : Nat} {ad0 : Nat → Nat} {P : am_P} {k z n : Nat} {σ : am_M} {pc : Nat} {lv : List (Nat × Value)} {st : List Value} {f : Fin 4} {i j : Nat} {x : Int64} (d : decode Y.2.1 pc = .ok (.lload_n f, 1)) (hi : (f : Nat) = i) (hl0 : lv[j]? = some (i, .long x)) (kk : AW l g Y n0 ad0 P k z n σ (pc + 1) lv (.long x :: st)) : AW l g Y n0 ad0 P k z n σ pc lv st := by
  intro p e s m args below meth c C ad H locs ls hn hx hH hS hl hw
  exact lv_lload_n C.1 C.2.1 d hi (am_lv_at hl j hl0) (kk p e s m args below meth c C ad H locs ls hn hx hH hS hl (am_wf_int (fun _ => by intro h; cases h) hw))
theorem am_lload {l : Launch} {g : am_Gl} {Y : am_Y} {n0 : Nat} {ad0 : Nat → Nat} {P : am_P} {k z n : Nat} {σ : am_M} {pc : Nat} {lv : List (Nat × Value)} {st : List Value} {i j : Nat} {x : Int64} (d : decode Y.2.1 pc = .ok (.lload i, 2)) (hl0 : lv[j]? = some (i, .long x)) (kk : AW l g Y n0 ad0 P k z n σ (pc + 2) lv (.long x :: st)) : AW l g Y n0 ad0 P k z n σ pc lv st := by
  intro p e s m args below meth c C ad H locs ls hn hx hH hS hl hw
  exact lv_lload C.1 C.2.1 d (am_lv_at hl j hl0) (kk p e s m args below meth c C ad H locs ls hn hx hH hS hl (am_wf_int (fun _ => by intro h; cases h) hw))
theorem am_lstore_n {l : Launch} {g : am_Gl} {Y : am_Y} {n0 : Nat} {ad0 : Nat → Nat} {P : am_P} {k z n : Nat} {σ : am_M} {pc : Nat} {lv : List (Nat × Value)} {st : List Value} {f : Fin 4} {i : Nat} {x : Int64} {lv2 : List (Nat × Value)} (d : decode Y.2.1 pc = .ok (.lstore_n f, 1)) (hi : (f : Nat) = i) (hn9 : i + 1 < Y.2.2.1) (hlv : (i, Value.long x) :: lv.filter (fun q => !(q.1 == i) && (!(q.1 == i + 1) && !(q.1 + 1 == i && q.2.category == 2))) = lv2) (kk : AW l g Y n0 ad0 P k z n σ (pc + 1) lv2 st) : AW l g Y n0 ad0 P k z n σ pc lv (.long x :: st) := by
  intro p e s m args below meth c C ad H locs ls hn hx hH hS hl hw
  refine lv_lstore_n C.1 C.2.1 d hi hl hn9 (am_lv_stoL ad i (.long x) lv) (fun ls9 hl9 => ?_)
  subst hlv
  exact kk p e s m args below meth c C ad H locs ls9 hn hx hH hS hl9 (am_wf_sto hw)
theorem am_aload_n {l : Launch} {g : am_Gl} {Y : am_Y} {n0 : Nat} {ad0 : Nat → Nat} {P : am_P} {k z n : Nat} {σ : am_M} {pc : Nat} {lv : List (Nat × Value)} {st : List Value} {f : Fin 4} {i j : Nat} {x : Nat} (d : decode Y.2.1 pc = .ok (.aload_n f, 1)) (hi : (f : Nat) = i) (hl0 : lv[j]? = some (i, .ref x)) (kk : AW l g Y n0 ad0 P k z n σ (pc + 1) lv (.ref x :: st)) : AW l g Y n0 ad0 P k z n σ pc lv st := by
  intro p e s m args below meth c C ad H locs ls hn hx hH hS hl hw
  exact lv_aload_n C.1 C.2.1 d hi (am_lv_at hl j hl0) (kk p e s m args below meth c C ad H locs ls hn hx hH hS hl (am_wf_val (am_rl_lv hw hl0) hw))
theorem am_aload {l : Launch} {g : am_Gl} {Y : am_Y} {n0 : Nat} {ad0 : Nat → Nat} {P : am_P} {k z n : Nat} {σ : am_M} {pc : Nat} {lv : List (Nat × Value)} {st : List Value} {i j : Nat} {x : Nat} (d : decode Y.2.1 pc = .ok (.aload i, 2)) (hl0 : lv[j]? = some (i, .ref x)) (kk : AW l g Y n0 ad0 P k z n σ (pc + 2) lv (.ref x :: st)) : AW l g Y n0 ad0 P k z n σ pc lv st := by
  intro p e s m args below meth c C ad H locs ls hn hx hH hS hl hw
  exact lv_aload C.1 C.2.1 d (am_lv_at hl j hl0) (kk p e s m args below meth c C ad H locs ls hn hx hH hS hl (am_wf_val (am_rl_lv hw hl0) hw))
theorem am_astore_n {l : Launch} {g : am_Gl} {Y : am_Y} {n0 : Nat} {ad0 : Nat → Nat} {P : am_P} {k z n : Nat} {σ : am_M} {pc : Nat} {lv : List (Nat × Value)} {st : List Value} {f : Fin 4} {i : Nat} {x : Nat} {lv2 : List (Nat × Value)} (d : decode Y.2.1 pc = .ok (.astore_n f, 1)) (hi : (f : Nat) = i) (hn9 : i < Y.2.2.1) (hlv : (i, Value.ref x) :: lv.filter (fun q => !(q.1 == i) && !(q.1 + 1 == i && q.2.category == 2)) = lv2) (kk : AW l g Y n0 ad0 P k z n σ (pc + 1) lv2 st) : AW l g Y n0 ad0 P k z n σ pc lv (.ref x :: st) := by
  intro p e s m args below meth c C ad H locs ls hn hx hH hS hl hw
  refine lv_astore_n C.1 C.2.1 d hi hl hn9 (am_lv_sto ad i (.ref x) lv) (fun ls9 hl9 => ?_)
  subst hlv
  exact kk p e s m args below meth c C ad H locs ls9 hn hx hH hS hl9 (am_wf_sto hw)
theorem am_astore {l : Launch} {g : am_Gl} {Y : am_Y} {n0 : Nat} {ad0 : Nat → Nat} {P : am_P} {k z n : Nat} {σ : am_M} {pc : Nat} {lv : List (Nat × Value)} {st : List Value} {i : Nat} {x : Nat} {lv2 : List (Nat × Value)} (d : decode Y.2.1 pc = .ok (.astore i, 2))  (hn9 : i < Y.2.2.1) (hlv : (i, Value.ref x) :: lv.filter (fun q => !(q.1 == i) && !(q.1 + 1 == i && q.2.category == 2)) = lv2) (kk : AW l g Y n0 ad0 P k z n σ (pc + 2) lv2 st) : AW l g Y n0 ad0 P k z n σ pc lv (.ref x :: st) := by
  intro p e s m args below meth c C ad H locs ls hn hx hH hS hl hw
  refine lv_astore C.1 C.2.1 d hl hn9 (am_lv_sto ad i (.ref x) lv) (fun ls9 hl9 => ?_)
  subst hlv
  exact kk p e s m args below meth c C ad H locs ls9 hn hx hH hS hl9 (am_wf_sto hw)
theorem am_iinc {l : Launch} {g : am_Gl} {Y : am_Y} {n0 : Nat} {ad0 : Nat → Nat} {P : am_P} {k z n : Nat} {σ : am_M} {pc : Nat} {lv : List (Nat × Value)} {st : List Value} {i j : Nat} {a : Int} {x v : Int32} {lv2 : List (Nat × Value)} (d : decode Y.2.1 pc = .ok (.iinc i a, 3)) (hl0 : lv[j]? = some (i, .int x)) (hv : x + Int32.ofInt a = v) (hn9 : i < Y.2.2.1) (hlv : (i, Value.int v) :: lv.filter (fun q => !(q.1 == i) && !(q.1 + 1 == i && q.2.category == 2)) = lv2) (kk : AW l g Y n0 ad0 P k z n σ (pc + 3) lv2 st) : AW l g Y n0 ad0 P k z n σ pc lv st := by
  intro p e s m args below meth c C ad H locs ls hn hx hH hS hl hw
  refine lv_iinc (k := j) C.1 C.2.1 d hl (by rw [am_lv, List.getElem?_map, hl0]; rfl) hv hn9 (am_lv_sto ad i (.int v) lv) (fun ls9 hl9 => ?_)
  subst hlv
  exact kk p e s m args below meth c C ad H locs ls9 hn hx hH hS hl9 (am_wf_sto (v := .int v) (am_wf_int (fun _ => by intro h; cases h) hw))
theorem am_iadd {l : Launch} {g : am_Gl} {Y : am_Y} {n0 : Nat} {ad0 : Nat → Nat} {P : am_P} {k z n : Nat} {σ : am_M} {pc : Nat} {lv : List (Nat × Value)} {st : List Value} {x y : Int32} (d : decode Y.2.1 pc = .ok (.iadd, 1)) (kk : AW l g Y n0 ad0 P k z n σ (pc + 1) lv (.int (x + y) :: st)) : AW l g Y n0 ad0 P k z n σ pc lv (.int y :: .int x :: st) := by
  intro p e s m args below meth c C ad H locs ls hn hx hH hS hl hw
  exact lv_iadd C.1 C.2.1 d (kk p e s m args below meth c C ad H locs ls hn hx hH hS hl (am_wf_int (fun _ => by intro h; cases h) (am_wf_tl (am_wf_tl hw))))
theorem am_isub {l : Launch} {g : am_Gl} {Y : am_Y} {n0 : Nat} {ad0 : Nat → Nat} {P : am_P} {k z n : Nat} {σ : am_M} {pc : Nat} {lv : List (Nat × Value)} {st : List Value} {x y : Int32} (d : decode Y.2.1 pc = .ok (.isub, 1)) (kk : AW l g Y n0 ad0 P k z n σ (pc + 1) lv (.int (x - y) :: st)) : AW l g Y n0 ad0 P k z n σ pc lv (.int y :: .int x :: st) := by
  intro p e s m args below meth c C ad H locs ls hn hx hH hS hl hw
  exact lv_isub C.1 C.2.1 d (kk p e s m args below meth c C ad H locs ls hn hx hH hS hl (am_wf_int (fun _ => by intro h; cases h) (am_wf_tl (am_wf_tl hw))))
theorem am_imul {l : Launch} {g : am_Gl} {Y : am_Y} {n0 : Nat} {ad0 : Nat → Nat} {P : am_P} {k z n : Nat} {σ : am_M} {pc : Nat} {lv : List (Nat × Value)} {st : List Value} {x y : Int32} (d : decode Y.2.1 pc = .ok (.imul, 1)) (kk : AW l g Y n0 ad0 P k z n σ (pc + 1) lv (.int (x * y) :: st)) : AW l g Y n0 ad0 P k z n σ pc lv (.int y :: .int x :: st) := by
  intro p e s m args below meth c C ad H locs ls hn hx hH hS hl hw
  exact lv_imul C.1 C.2.1 d (kk p e s m args below meth c C ad H locs ls hn hx hH hS hl (am_wf_int (fun _ => by intro h; cases h) (am_wf_tl (am_wf_tl hw))))
theorem am_iand {l : Launch} {g : am_Gl} {Y : am_Y} {n0 : Nat} {ad0 : Nat → Nat} {P : am_P} {k z n : Nat} {σ : am_M} {pc : Nat} {lv : List (Nat × Value)} {st : List Value} {x y : Int32} (d : decode Y.2.1 pc = .ok (.iand, 1)) (kk : AW l g Y n0 ad0 P k z n σ (pc + 1) lv (.int (x &&& y) :: st)) : AW l g Y n0 ad0 P k z n σ pc lv (.int y :: .int x :: st) := by
  intro p e s m args below meth c C ad H locs ls hn hx hH hS hl hw
  exact lv_iand C.1 C.2.1 d (kk p e s m args below meth c C ad H locs ls hn hx hH hS hl (am_wf_int (fun _ => by intro h; cases h) (am_wf_tl (am_wf_tl hw))))
theorem am_idiv {l : Launch} {g : am_Gl} {Y : am_Y} {n0 : Nat} {ad0 : Nat → Nat} {P : am_P} {k z n : Nat} {σ : am_M} {pc : Nat} {lv : List (Nat × Value)} {st : List Value} {x y : Int32} (d : decode Y.2.1 pc = .ok (.idiv, 1)) (hne : ¬ y = 0) (kk : AW l g Y n0 ad0 P k z n σ (pc + 1) lv (.int (x / y) :: st)) : AW l g Y n0 ad0 P k z n σ pc lv (.int y :: .int x :: st) := by
  intro p e s m args below meth c C ad H locs ls hn hx hH hS hl hw
  exact lv_idiv C.1 C.2.1 d hne (kk p e s m args below meth c C ad H locs ls hn hx hH hS hl (am_wf_int (fun _ => by intro h; cases h) (am_wf_tl (am_wf_tl hw))))
theorem am_irem {l : Launch} {g : am_Gl} {Y : am_Y} {n0 : Nat} {ad0 : Nat → Nat} {P : am_P} {k z n : Nat} {σ : am_M} {pc : Nat} {lv : List (Nat × Value)} {st : List Value} {x y : Int32} (d : decode Y.2.1 pc = .ok (.irem, 1)) (hne : ¬ y = 0) (kk : AW l g Y n0 ad0 P k z n σ (pc + 1) lv (.int (x - x / y * y) :: st)) : AW l g Y n0 ad0 P k z n σ pc lv (.int y :: .int x :: st) := by
  intro p e s m args below meth c C ad H locs ls hn hx hH hS hl hw
  exact lv_irem C.1 C.2.1 d hne (kk p e s m args below meth c C ad H locs ls hn hx hH hS hl (am_wf_int (fun _ => by intro h; cases h) (am_wf_tl (am_wf_tl hw))))
theorem am_ladd {l : Launch} {g : am_Gl} {Y : am_Y} {n0 : Nat} {ad0 : Nat → Nat} {P : am_P} {k z n : Nat} {σ : am_M} {pc : Nat} {lv : List (Nat × Value)} {st : List Value} {x y : Int64} (d : decode Y.2.1 pc = .ok (.ladd, 1)) (kk : AW l g Y n0 ad0 P k z n σ (pc + 1) lv (.long (x + y) :: st)) : AW l g Y n0 ad0 P k z n σ pc lv (.long y :: .long x :: st) := by
  intro p e s m args below meth c C ad H locs ls hn hx hH hS hl hw
  exact lv_ladd C.1 C.2.1 d (kk p e s m args below meth c C ad H locs ls hn hx hH hS hl (am_wf_int (fun _ => by intro h; cases h) (am_wf_tl (am_wf_tl hw))))
theorem am_lmul {l : Launch} {g : am_Gl} {Y : am_Y} {n0 : Nat} {ad0 : Nat → Nat} {P : am_P} {k z n : Nat} {σ : am_M} {pc : Nat} {lv : List (Nat × Value)} {st : List Value} {x y : Int64} (d : decode Y.2.1 pc = .ok (.lmul, 1)) (kk : AW l g Y n0 ad0 P k z n σ (pc + 1) lv (.long (x * y) :: st)) : AW l g Y n0 ad0 P k z n σ pc lv (.long y :: .long x :: st) := by
  intro p e s m args below meth c C ad H locs ls hn hx hH hS hl hw
  exact lv_lmul C.1 C.2.1 d (kk p e s m args below meth c C ad H locs ls hn hx hH hS hl (am_wf_int (fun _ => by intro h; cases h) (am_wf_tl (am_wf_tl hw))))
theorem am_lcmp {l : Launch} {g : am_Gl} {Y : am_Y} {n0 : Nat} {ad0 : Nat → Nat} {P : am_P} {k z n : Nat} {σ : am_M} {pc : Nat} {lv : List (Nat × Value)} {st : List Value} {x y : Int64} (d : decode Y.2.1 pc = .ok (.lcmp, 1)) (kk : AW l g Y n0 ad0 P k z n σ (pc + 1) lv (.int (lg_cmp x y) :: st)) : AW l g Y n0 ad0 P k z n σ pc lv (.long y :: .long x :: st) := by
  intro p e s m args below meth c C ad H locs ls hn hx hH hS hl hw
  exact W.lcmp C.1 C.2.1 d (kk p e s m args below meth c C ad H locs ls hn hx hH hS hl (am_wf_int (fun _ => by intro h; cases h) (am_wf_tl (am_wf_tl hw))))
theorem am_i2l {l : Launch} {g : am_Gl} {Y : am_Y} {n0 : Nat} {ad0 : Nat → Nat} {P : am_P} {k z n : Nat} {σ : am_M} {pc : Nat} {lv : List (Nat × Value)} {st : List Value} {x : Int32} (d : decode Y.2.1 pc = .ok (.i2l, 1)) (kk : AW l g Y n0 ad0 P k z n σ (pc + 1) lv (.long x.toInt64 :: st)) : AW l g Y n0 ad0 P k z n σ pc lv (.int x :: st) := by
  intro p e s m args below meth c C ad H locs ls hn hx hH hS hl hw
  exact lv_i2l C.1 C.2.1 d rfl (kk p e s m args below meth c C ad H locs ls hn hx hH hS hl (am_wf_int (fun _ => by intro h; cases h) (am_wf_tl hw)))
theorem am_l2i {l : Launch} {g : am_Gl} {Y : am_Y} {n0 : Nat} {ad0 : Nat → Nat} {P : am_P} {k z n : Nat} {σ : am_M} {pc : Nat} {lv : List (Nat × Value)} {st : List Value} {x : Int64} (d : decode Y.2.1 pc = .ok (.l2i, 1)) (kk : AW l g Y n0 ad0 P k z n σ (pc + 1) lv (.int x.toInt32 :: st)) : AW l g Y n0 ad0 P k z n σ pc lv (.long x :: st) := by
  intro p e s m args below meth c C ad H locs ls hn hx hH hS hl hw
  exact lv_l2i C.1 C.2.1 d rfl (kk p e s m args below meth c C ad H locs ls hn hx hH hS hl (am_wf_int (fun _ => by intro h; cases h) (am_wf_tl hw)))
theorem am_dup {l : Launch} {g : am_Gl} {Y : am_Y} {n0 : Nat} {ad0 : Nat → Nat} {P : am_P} {k z n : Nat} {σ : am_M} {pc : Nat} {lv : List (Nat × Value)} {st : List Value} {v : Value} (d : decode Y.2.1 pc = .ok (.dup, 1)) (hv : v.category = 1) (kk : AW l g Y n0 ad0 P k z n σ (pc + 1) lv (v :: v :: st)) : AW l g Y n0 ad0 P k z n σ pc lv (v :: st) := by
  intro p e s m args below meth c C ad H locs ls hn hx hH hS hl hw
  exact lv_dup C.1 C.2.1 d ((am_tr_cat ad v).trans hv) (kk p e s m args below meth c C ad H locs ls hn hx hH hS hl (am_wf_val (am_wf_hd hw) hw))
theorem am_pop {l : Launch} {g : am_Gl} {Y : am_Y} {n0 : Nat} {ad0 : Nat → Nat} {P : am_P} {k z n : Nat} {σ : am_M} {pc : Nat} {lv : List (Nat × Value)} {st : List Value} {v : Value} (d : decode Y.2.1 pc = .ok (.pop, 1)) (hv : v.category = 1) (kk : AW l g Y n0 ad0 P k z n σ (pc + 1) lv st) : AW l g Y n0 ad0 P k z n σ pc lv (v :: st) := by
  intro p e s m args below meth c C ad H locs ls hn hx hH hS hl hw
  exact lv_pop C.1 C.2.1 d ((am_tr_cat ad v).trans hv) (kk p e s m args below meth c C ad H locs ls hn hx hH hS hl (am_wf_tl hw))
theorem am_dup_x1 {l : Launch} {g : am_Gl} {Y : am_Y} {n0 : Nat} {ad0 : Nat → Nat} {P : am_P} {k z n : Nat} {σ : am_M} {pc : Nat} {lv : List (Nat × Value)} {st : List Value} {v u : Value} (d : decode Y.2.1 pc = .ok (.dup_x1, 1)) (hv : v.category = 1) (hu : u.category = 1) (kk : AW l g Y n0 ad0 P k z n σ (pc + 1) lv (v :: u :: v :: st)) : AW l g Y n0 ad0 P k z n σ pc lv (v :: u :: st) := by
  intro p e s m args below meth c C ad H locs ls hn hx hH hS hl hw
  exact lv_dup_x1 C.1 C.2.1 d ((am_tr_cat ad v).trans hv) ((am_tr_cat ad u).trans hu) (kk p e s m args below meth c C ad H locs ls hn hx hH hS hl (am_wf_val (am_wf_hd hw) (am_wf_val (am_wf_hd (am_wf_tl hw)) (am_wf_val (am_wf_hd hw) (am_wf_tl (am_wf_tl hw))))))
theorem am_dup2 {l : Launch} {g : am_Gl} {Y : am_Y} {n0 : Nat} {ad0 : Nat → Nat} {P : am_P} {k z n : Nat} {σ : am_M} {pc : Nat} {lv : List (Nat × Value)} {st : List Value} {v u : Value} (d : decode Y.2.1 pc = .ok (.dup2, 1)) (hv : v.category = 1) (hu : u.category = 1) (kk : AW l g Y n0 ad0 P k z n σ (pc + 1) lv (v :: u :: v :: u :: st)) : AW l g Y n0 ad0 P k z n σ pc lv (v :: u :: st) := by
  intro p e s m args below meth c C ad H locs ls hn hx hH hS hl hw
  exact lv_dup2_11 C.1 C.2.1 d ((am_tr_cat ad v).trans hv) ((am_tr_cat ad u).trans hu) (kk p e s m args below meth c C ad H locs ls hn hx hH hS hl (am_wf_val (am_wf_hd hw) (am_wf_val (am_wf_hd (am_wf_tl hw)) hw)))
theorem am_if_eq {l : Launch} {g : am_Gl} {Y : am_Y} {n0 : Nat} {ad0 : Nat → Nat} {P : am_P} {k z n : Nat} {σ : am_M} {pc : Nat} {lv : List (Nat × Value)} {st : List Value} {x : Int32} {off : Int} {tgt : Nat} (d : decode Y.2.1 pc = .ok (.ifCond .eq off, 3)) (ht : (pc : Int) + off = (tgt : Int)) (kt : x = 0 → AW l g Y n0 ad0 P k z n σ tgt lv st) (kf : ¬ x = 0 → AW l g Y n0 ad0 P k z n σ (pc + 3) lv st) : AW l g Y n0 ad0 P k z n σ pc lv (.int x :: st) := by
  intro p e s m args below meth c C ad H locs ls hn hx hH hS hl hw
  exact lv_if_eq C.1 C.2.1 d ht (fun q => kt q p e s m args below meth c C ad H locs ls hn hx hH hS hl (am_wf_tl hw)) (fun q => kf q p e s m args below meth c C ad H locs ls hn hx hH hS hl (am_wf_tl hw))
theorem am_if_lt {l : Launch} {g : am_Gl} {Y : am_Y} {n0 : Nat} {ad0 : Nat → Nat} {P : am_P} {k z n : Nat} {σ : am_M} {pc : Nat} {lv : List (Nat × Value)} {st : List Value} {x : Int32} {off : Int} {tgt : Nat} (d : decode Y.2.1 pc = .ok (.ifCond .lt off, 3)) (ht : (pc : Int) + off = (tgt : Int)) (kt : x < 0 → AW l g Y n0 ad0 P k z n σ tgt lv st) (kf : ¬ x < 0 → AW l g Y n0 ad0 P k z n σ (pc + 3) lv st) : AW l g Y n0 ad0 P k z n σ pc lv (.int x :: st) := by
  intro p e s m args below meth c C ad H locs ls hn hx hH hS hl hw
  exact lv_if_lt C.1 C.2.1 d ht (fun q => kt q p e s m args below meth c C ad H locs ls hn hx hH hS hl (am_wf_tl hw)) (fun q => kf q p e s m args below meth c C ad H locs ls hn hx hH hS hl (am_wf_tl hw))
theorem am_if_ge {l : Launch} {g : am_Gl} {Y : am_Y} {n0 : Nat} {ad0 : Nat → Nat} {P : am_P} {k z n : Nat} {σ : am_M} {pc : Nat} {lv : List (Nat × Value)} {st : List Value} {x : Int32} {off : Int} {tgt : Nat} (d : decode Y.2.1 pc = .ok (.ifCond .ge off, 3)) (ht : (pc : Int) + off = (tgt : Int)) (kt : 0 ≤ x → AW l g Y n0 ad0 P k z n σ tgt lv st) (kf : ¬ 0 ≤ x → AW l g Y n0 ad0 P k z n σ (pc + 3) lv st) : AW l g Y n0 ad0 P k z n σ pc lv (.int x :: st) := by
  intro p e s m args below meth c C ad H locs ls hn hx hH hS hl hw
  exact lv_if_ge C.1 C.2.1 d ht (fun q => kt q p e s m args below meth c C ad H locs ls hn hx hH hS hl (am_wf_tl hw)) (fun q => kf q p e s m args below meth c C ad H locs ls hn hx hH hS hl (am_wf_tl hw))
theorem am_if_gt {l : Launch} {g : am_Gl} {Y : am_Y} {n0 : Nat} {ad0 : Nat → Nat} {P : am_P} {k z n : Nat} {σ : am_M} {pc : Nat} {lv : List (Nat × Value)} {st : List Value} {x : Int32} {off : Int} {tgt : Nat} (d : decode Y.2.1 pc = .ok (.ifCond .gt off, 3)) (ht : (pc : Int) + off = (tgt : Int)) (kt : 0 < x → AW l g Y n0 ad0 P k z n σ tgt lv st) (kf : ¬ 0 < x → AW l g Y n0 ad0 P k z n σ (pc + 3) lv st) : AW l g Y n0 ad0 P k z n σ pc lv (.int x :: st) := by
  intro p e s m args below meth c C ad H locs ls hn hx hH hS hl hw
  exact lv_if_gt C.1 C.2.1 d ht (fun q => kt q p e s m args below meth c C ad H locs ls hn hx hH hS hl (am_wf_tl hw)) (fun q => kf q p e s m args below meth c C ad H locs ls hn hx hH hS hl (am_wf_tl hw))
theorem am_if_le {l : Launch} {g : am_Gl} {Y : am_Y} {n0 : Nat} {ad0 : Nat → Nat} {P : am_P} {k z n : Nat} {σ : am_M} {pc : Nat} {lv : List (Nat × Value)} {st : List Value} {x : Int32} {off : Int} {tgt : Nat} (d : decode Y.2.1 pc = .ok (.ifCond .le off, 3)) (ht : (pc : Int) + off = (tgt : Int)) (kt : x ≤ 0 → AW l g Y n0 ad0 P k z n σ tgt lv st) (kf : ¬ x ≤ 0 → AW l g Y n0 ad0 P k z n σ (pc + 3) lv st) : AW l g Y n0 ad0 P k z n σ pc lv (.int x :: st) := by
  intro p e s m args below meth c C ad H locs ls hn hx hH hS hl hw
  exact lv_if_le C.1 C.2.1 d ht (fun q => kt q p e s m args below meth c C ad H locs ls hn hx hH hS hl (am_wf_tl hw)) (fun q => kf q p e s m args below meth c C ad H locs ls hn hx hH hS hl (am_wf_tl hw))
theorem am_if_ne {l : Launch} {g : am_Gl} {Y : am_Y} {n0 : Nat} {ad0 : Nat → Nat} {P : am_P} {k z n : Nat} {σ : am_M} {pc : Nat} {lv : List (Nat × Value)} {st : List Value} {x : Int32} {off : Int} {tgt : Nat} (d : decode Y.2.1 pc = .ok (.ifCond .ne off, 3)) (ht : (pc : Int) + off = (tgt : Int)) (kt : ¬ x = 0 → AW l g Y n0 ad0 P k z n σ tgt lv st) (kf : x = 0 → AW l g Y n0 ad0 P k z n σ (pc + 3) lv st) : AW l g Y n0 ad0 P k z n σ pc lv (.int x :: st) := by
  intro p e s m args below meth c C ad H locs ls hn hx hH hS hl hw
  exact lv_if_ne C.1 C.2.1 d ht (fun q => kt q p e s m args below meth c C ad H locs ls hn hx hH hS hl (am_wf_tl hw)) (fun q => kf q p e s m args below meth c C ad H locs ls hn hx hH hS hl (am_wf_tl hw))
theorem am_icmp_eq {l : Launch} {g : am_Gl} {Y : am_Y} {n0 : Nat} {ad0 : Nat → Nat} {P : am_P} {k z n : Nat} {σ : am_M} {pc : Nat} {lv : List (Nat × Value)} {st : List Value} {x y : Int32} {off : Int} {tgt : Nat} (d : decode Y.2.1 pc = .ok (.if_icmp .eq off, 3)) (ht : (pc : Int) + off = (tgt : Int)) (kt : x = y → AW l g Y n0 ad0 P k z n σ tgt lv st) (kf : ¬ x = y → AW l g Y n0 ad0 P k z n σ (pc + 3) lv st) : AW l g Y n0 ad0 P k z n σ pc lv (.int y :: .int x :: st) := by
  intro p e s m args below meth c C ad H locs ls hn hx hH hS hl hw
  exact lv_icmp_eq C.1 C.2.1 d ht (fun q => kt q p e s m args below meth c C ad H locs ls hn hx hH hS hl (am_wf_tl (am_wf_tl hw))) (fun q => kf q p e s m args below meth c C ad H locs ls hn hx hH hS hl (am_wf_tl (am_wf_tl hw)))
theorem am_icmp_lt {l : Launch} {g : am_Gl} {Y : am_Y} {n0 : Nat} {ad0 : Nat → Nat} {P : am_P} {k z n : Nat} {σ : am_M} {pc : Nat} {lv : List (Nat × Value)} {st : List Value} {x y : Int32} {off : Int} {tgt : Nat} (d : decode Y.2.1 pc = .ok (.if_icmp .lt off, 3)) (ht : (pc : Int) + off = (tgt : Int)) (kt : x < y → AW l g Y n0 ad0 P k z n σ tgt lv st) (kf : ¬ x < y → AW l g Y n0 ad0 P k z n σ (pc + 3) lv st) : AW l g Y n0 ad0 P k z n σ pc lv (.int y :: .int x :: st) := by
  intro p e s m args below meth c C ad H locs ls hn hx hH hS hl hw
  exact lv_icmp_lt C.1 C.2.1 d ht (fun q => kt q p e s m args below meth c C ad H locs ls hn hx hH hS hl (am_wf_tl (am_wf_tl hw))) (fun q => kf q p e s m args below meth c C ad H locs ls hn hx hH hS hl (am_wf_tl (am_wf_tl hw)))
theorem am_icmp_ge {l : Launch} {g : am_Gl} {Y : am_Y} {n0 : Nat} {ad0 : Nat → Nat} {P : am_P} {k z n : Nat} {σ : am_M} {pc : Nat} {lv : List (Nat × Value)} {st : List Value} {x y : Int32} {off : Int} {tgt : Nat} (d : decode Y.2.1 pc = .ok (.if_icmp .ge off, 3)) (ht : (pc : Int) + off = (tgt : Int)) (kt : y ≤ x → AW l g Y n0 ad0 P k z n σ tgt lv st) (kf : ¬ y ≤ x → AW l g Y n0 ad0 P k z n σ (pc + 3) lv st) : AW l g Y n0 ad0 P k z n σ pc lv (.int y :: .int x :: st) := by
  intro p e s m args below meth c C ad H locs ls hn hx hH hS hl hw
  exact lv_icmp_ge C.1 C.2.1 d ht (fun q => kt q p e s m args below meth c C ad H locs ls hn hx hH hS hl (am_wf_tl (am_wf_tl hw))) (fun q => kf q p e s m args below meth c C ad H locs ls hn hx hH hS hl (am_wf_tl (am_wf_tl hw)))
theorem am_icmp_gt {l : Launch} {g : am_Gl} {Y : am_Y} {n0 : Nat} {ad0 : Nat → Nat} {P : am_P} {k z n : Nat} {σ : am_M} {pc : Nat} {lv : List (Nat × Value)} {st : List Value} {x y : Int32} {off : Int} {tgt : Nat} (d : decode Y.2.1 pc = .ok (.if_icmp .gt off, 3)) (ht : (pc : Int) + off = (tgt : Int)) (kt : y < x → AW l g Y n0 ad0 P k z n σ tgt lv st) (kf : ¬ y < x → AW l g Y n0 ad0 P k z n σ (pc + 3) lv st) : AW l g Y n0 ad0 P k z n σ pc lv (.int y :: .int x :: st) := by
  intro p e s m args below meth c C ad H locs ls hn hx hH hS hl hw
  exact lv_icmp_gt C.1 C.2.1 d ht (fun q => kt q p e s m args below meth c C ad H locs ls hn hx hH hS hl (am_wf_tl (am_wf_tl hw))) (fun q => kf q p e s m args below meth c C ad H locs ls hn hx hH hS hl (am_wf_tl (am_wf_tl hw)))
theorem am_icmp_le {l : Launch} {g : am_Gl} {Y : am_Y} {n0 : Nat} {ad0 : Nat → Nat} {P : am_P} {k z n : Nat} {σ : am_M} {pc : Nat} {lv : List (Nat × Value)} {st : List Value} {x y : Int32} {off : Int} {tgt : Nat} (d : decode Y.2.1 pc = .ok (.if_icmp .le off, 3)) (ht : (pc : Int) + off = (tgt : Int)) (kt : x ≤ y → AW l g Y n0 ad0 P k z n σ tgt lv st) (kf : ¬ x ≤ y → AW l g Y n0 ad0 P k z n σ (pc + 3) lv st) : AW l g Y n0 ad0 P k z n σ pc lv (.int y :: .int x :: st) := by
  intro p e s m args below meth c C ad H locs ls hn hx hH hS hl hw
  exact lv_icmp_le C.1 C.2.1 d ht (fun q => kt q p e s m args below meth c C ad H locs ls hn hx hH hS hl (am_wf_tl (am_wf_tl hw))) (fun q => kf q p e s m args below meth c C ad H locs ls hn hx hH hS hl (am_wf_tl (am_wf_tl hw)))
theorem am_icmp_ne {l : Launch} {g : am_Gl} {Y : am_Y} {n0 : Nat} {ad0 : Nat → Nat} {P : am_P} {k z n : Nat} {σ : am_M} {pc : Nat} {lv : List (Nat × Value)} {st : List Value} {x y : Int32} {off : Int} {tgt : Nat} (d : decode Y.2.1 pc = .ok (.if_icmp .ne off, 3)) (ht : (pc : Int) + off = (tgt : Int)) (kt : ¬ x = y → AW l g Y n0 ad0 P k z n σ tgt lv st) (kf : x = y → AW l g Y n0 ad0 P k z n σ (pc + 3) lv st) : AW l g Y n0 ad0 P k z n σ pc lv (.int y :: .int x :: st) := by
  intro p e s m args below meth c C ad H locs ls hn hx hH hS hl hw
  exact lv_icmp_ne C.1 C.2.1 d ht (fun q => kt q p e s m args below meth c C ad H locs ls hn hx hH hS hl (am_wf_tl (am_wf_tl hw))) (fun q => kf q p e s m args below meth c C ad H locs ls hn hx hH hS hl (am_wf_tl (am_wf_tl hw)))
theorem am_goto {l : Launch} {g : am_Gl} {Y : am_Y} {n0 : Nat} {ad0 : Nat → Nat} {P : am_P} {k z n : Nat} {σ : am_M} {pc : Nat} {lv : List (Nat × Value)} {st : List Value} {off : Int} {tgt : Nat} (d : decode Y.2.1 pc = .ok (.goto off, 3)) (ht : (pc : Int) + off = (tgt : Int)) (kk : AW l g Y n0 ad0 P k z n σ tgt lv st) : AW l g Y n0 ad0 P k z n σ pc lv st := by
  intro p e s m args below meth c C ad H locs ls hn hx hH hS hl hw
  exact lv_goto C.1 C.2.1 d ht (kk p e s m args below meth c C ad H locs ls hn hx hH hS hl hw)
theorem am_tableOut {l : Launch} {g : am_Gl} {Y : am_Y} {n0 : Nat} {ad0 : Nat → Nat} {P : am_P} {k z n : Nat} {σ : am_M} {pc : Nat} {lv : List (Nat × Value)} {st : List Value} {dflt lo hi : Int} {offs : Array Int} {len : Nat} {x : Int32} {tgt : Nat} (d : decode Y.2.1 pc = .ok (.tableswitch dflt lo hi offs, len)) (h : x.toInt < lo ∨ hi < x.toInt) (ht : (pc : Int) + dflt = (tgt : Int)) (kk : AW l g Y n0 ad0 P k z n σ tgt lv st) : AW l g Y n0 ad0 P k z n σ pc lv (.int x :: st) := by
  intro p e s m args below meth c C ad H locs ls hn hx hH hS hl hw
  exact lv_tableOut C.1 C.2.1 d h ht (kk p e s m args below meth c C ad H locs ls hn hx hH hS hl (am_wf_tl hw))
theorem am_tableIn {l : Launch} {g : am_Gl} {Y : am_Y} {n0 : Nat} {ad0 : Nat → Nat} {P : am_P} {k z n : Nat} {σ : am_M} {pc : Nat} {lv : List (Nat × Value)} {st : List Value} {dflt lo hi : Int} {offs : Array Int} {len : Nat} {x : Int32} {off : Int} {tgt : Nat} (d : decode Y.2.1 pc = .ok (.tableswitch dflt lo hi offs, len)) (h1 : ¬ x.toInt < lo) (h2 : ¬ hi < x.toInt) (ho : offs[(x.toInt - lo).toNat]? = some off) (ht : (pc : Int) + off = (tgt : Int)) (kk : AW l g Y n0 ad0 P k z n σ tgt lv st) : AW l g Y n0 ad0 P k z n σ pc lv (.int x :: st) := by
  intro p e s m args below meth c C ad H locs ls hn hx hH hS hl hw
  exact lv_tableIn C.1 C.2.1 d h1 h2 ho ht (kk p e s m args below meth c C ad H locs ls hn hx hH hS hl (am_wf_tl hw))
theorem am_sub {l : Launch} {g : am_Gl} {Y : am_Y} {n0 : Nat} {ad0 : Nat → Nat} {P : am_P} {k z n : Nat} {σ : am_M} {pc : Nat} {lv : List (Nat × Value)} {st : List Value} {lv2 : List (Nat × Value)} (ks : List Nat) (h : lv_pick lv ks = lv2) (kk : AW l g Y n0 ad0 P k z n σ pc lv2 st) : AW l g Y n0 ad0 P k z n σ pc lv st := by
  intro p e s m args below meth c C ad H locs ls hn hx hH hS hl hw
  refine kk p e s m args below meth c C ad H locs ls hn hx hH hS (lv_sub hl ks ?_) ⟨fun q hq => ?_, hw.2⟩
  · rw [← h]
    simp only [lv_pick, am_lv, List.map_filterMap, List.getElem?_map]
  · rw [← h] at hq
    obtain ⟨i, -, hi⟩ := List.mem_filterMap.mp hq
    exact hw.1 q (List.mem_of_getElem? hi)
