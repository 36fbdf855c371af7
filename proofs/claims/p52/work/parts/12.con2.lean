theorem Co_rot {s0 σ : am_M} {lo n : Nat} {p q r : Nat × (Nat → Int32)} {op : List (Nat × (Nat → Int32))} (h : Co s0 σ lo n (p :: q :: r :: op)) : Co s0 σ lo n (r :: p :: q :: op) :=
  ⟨h.1, fun a h1 h2 h3 => h.2.1 a h1 h2 (fun x hx => h3 x (by simp only [List.mem_cons] at hx ⊢; rcases hx with h | h | h | h <;> simp [h])), fun x hx => h.2.2 x (by simp only [List.mem_cons] at hx ⊢; rcases hx with h | h | h | h <;> simp [h])⟩
theorem am_arr0 {B S : Nat} : (fun _ => -1 : Nat → Int32) = fun k => if k < 0 then nI (B + S * k) else -1 := by funext k; simp
theorem am_arr1 {B S j : Nat} (hj : j < 2 ^ 31) : upd (fun k => if k < j then nI (B + S * k) else -1) (nI j).toNatClampNeg (nI (B + S * j)) = fun k => if k < j + 1 then nI (B + S * k) else -1 := by
  rw [nI_clamp hj]
  funext k
  by_cases hk : k = j
  · subst hk; simp [upd]
  · have : (k < j + 1) ↔ (k < j) := by omega
    simp [upd, hk, this]
theorem am_arr2 {B S j : Nat} (hj : j < 2 ^ 31) {v : Int32} {f : Nat → Int32} : upd (fun k => if k < j then v else f k) (nI j).toNatClampNeg v = fun k => if k < j + 1 then v else f k := by
  rw [nI_clamp hj]
  funext k
  by_cases hk : k = j
  · subst hk; simp [upd]
  · have : (k < j + 1) ↔ (k < j) := by omega
    simp [upd, hk, this]
def F_CO (i : Nat) : Prop := am_sh i = (0, 3, 11)
def F_RU (i : Nat) : Prop := am_sh i = (0, 7, 6)
def F_RE (i : Nat) : Prop := am_sh i = (0, 5, 4)
def F_RO (i : Nat) : Prop := am_sh i = (0, 6, 3) ∧ am_sh (i + 1) = (1, 0, 4) ∧ am_sh (i + 2) = (1, 0, 120) ∧ am_sh (i + 3) = (1, 0, 720) ∧ am_lk i 0 = i + 1 ∧ am_lk i 1 = i + 2 ∧ am_lk i 2 = i + 3 ∧ am_I (i + 1) = (fun _ => 0) ∧ am_I (i + 2) = (fun _ => 0) ∧ am_I (i + 3) = (fun k => if k < 720 then (-1000000) else 0)
def F_QU (i : Nat) : Prop := am_sh i = (0, 4, 17) ∧ am_sh (i + 1) = (1, 0, 54) ∧ am_sh (i + 2) = (1, 0, 54) ∧ am_sh (i + 3) = (1, 0, 6) ∧ am_sh (i + 4) = (1, 0, 6) ∧ am_sh (i + 5) = (1, 0, 6) ∧ am_sh (i + 6) = (1, 0, 6) ∧ am_lk i 10 = i + 1 ∧ am_lk i 11 = i + 2 ∧ am_lk i 13 = i + 3 ∧ am_lk i 14 = i + 4 ∧ am_lk i 15 = i + 5 ∧ am_lk i 16 = i + 6 ∧ am_I (i + 1) = (fun k => if k < 54 then (-1) else 0) ∧ am_I (i + 2) = (fun _ => 0) ∧ am_I (i + 3) = (fun _ => 0) ∧ am_I (i + 4) = (fun _ => 0) ∧ am_I (i + 5) = (fun _ => 0) ∧ am_I (i + 6) = (fun _ => 0)
def F_ST (i : Nat) : Prop := am_sh i = (0, 8, 5) ∧ am_sh (i + 1) = (1, 0, 6) ∧ am_lk i 4 = i + 1 ∧ am_I (i + 1) = (fun _ => 0)
def F_AC (i : Nat) : Prop := am_sh i = (0, 0, 2) ∧ am_sh (i + 1) = (1, 8, 6) ∧ am_lk i 0 = i + 1 ∧ (∀ j, j < 6 → F_ST (i + 2 + 2 * j)) ∧ ∀ j, j < 6 → am_lk (i + 1) j = i + 2 + 2 * j
theorem F_CO_3 : F_CO 3 := sh_3
theorem F_RU_6 : F_RU 6 := sh_6
theorem F_RO_8 : F_RO 8 := ⟨sh_8, sh_9, sh_10, sh_11, lk_8_0, lk_8_1, lk_8_2, am_I_0 sh_9 (by decide) (by decide +kernel), am_I_0 sh_10 (by decide) (by decide +kernel), am_I_s sh_11 (by decide) (by decide +kernel)⟩
theorem F_RO_12 : F_RO 12 := ⟨sh_12, sh_13, sh_14, sh_15, lk_12_0, lk_12_1, lk_12_2, am_I_0 sh_13 (by decide) (by decide +kernel), am_I_0 sh_14 (by decide) (by decide +kernel), am_I_s sh_15 (by decide) (by decide +kernel)⟩
theorem F_RE_16 : F_RE 16 := sh_16
theorem F_CO_20 : F_CO 20 := sh_20
theorem F_CO_21 : F_CO 21 := sh_21
theorem F_CO_22 : F_CO 22 := sh_22
theorem F_CO_23 : F_CO 23 := sh_23
theorem F_CO_24 : F_CO 24 := sh_24
theorem F_CO_25 : F_CO 25 := sh_25
theorem F_CO_26 : F_CO 26 := sh_26
theorem F_CO_27 : F_CO 27 := sh_27
theorem F_CO_28 : F_CO 28 := sh_28
theorem F_CO_29 : F_CO 29 := sh_29
theorem F_CO_30 : F_CO 30 := sh_30
theorem F_CO_31 : F_CO 31 := sh_31
theorem F_CO_32 : F_CO 32 := sh_32
theorem F_CO_33 : F_CO 33 := sh_33
theorem F_CO_34 : F_CO 34 := sh_34
theorem F_CO_35 : F_CO 35 := sh_35
theorem F_CO_36 : F_CO 36 := sh_36
theorem F_CO_37 : F_CO 37 := sh_37
theorem F_CO_38 : F_CO 38 := sh_38
theorem F_CO_39 : F_CO 39 := sh_39
theorem F_CO_40 : F_CO 40 := sh_40
theorem F_CO_41 : F_CO 41 := sh_41
theorem F_CO_42 : F_CO 42 := sh_42
theorem F_CO_43 : F_CO 43 := sh_43
theorem F_RU_44 : F_RU 44 := sh_44
theorem F_RU_45 : F_RU 45 := sh_45
theorem F_RU_46 : F_RU 46 := sh_46
theorem F_RU_47 : F_RU 47 := sh_47
theorem F_RU_48 : F_RU 48 := sh_48
theorem F_RU_49 : F_RU 49 := sh_49
theorem F_RU_50 : F_RU 50 := sh_50
theorem F_RU_51 : F_RU 51 := sh_51
theorem F_QU_54 : F_QU 54 := ⟨sh_54, sh_55, sh_56, sh_57, sh_58, sh_59, sh_60, lk_54_10, lk_54_11, lk_54_13, lk_54_14, lk_54_15, lk_54_16, am_I_s sh_55 (by decide) (by decide +kernel), am_I_0 sh_56 (by decide) (by decide +kernel), am_I_0 sh_57 (by decide) (by decide +kernel), am_I_0 sh_58 (by decide) (by decide +kernel), am_I_0 sh_59 (by decide) (by decide +kernel), am_I_0 sh_60 (by decide) (by decide +kernel)⟩
theorem F_QU_67 : F_QU 67 := ⟨sh_67, sh_68, sh_69, sh_70, sh_71, sh_72, sh_73, lk_67_10, lk_67_11, lk_67_13, lk_67_14, lk_67_15, lk_67_16, am_I_s sh_68 (by decide) (by decide +kernel), am_I_0 sh_69 (by decide) (by decide +kernel), am_I_0 sh_70 (by decide) (by decide +kernel), am_I_0 sh_71 (by decide) (by decide +kernel), am_I_0 sh_72 (by decide) (by decide +kernel), am_I_0 sh_73 (by decide) (by decide +kernel)⟩
theorem F_QU_74 : F_QU 74 := ⟨sh_74, sh_75, sh_76, sh_77, sh_78, sh_79, sh_80, lk_74_10, lk_74_11, lk_74_13, lk_74_14, lk_74_15, lk_74_16, am_I_s sh_75 (by decide) (by decide +kernel), am_I_0 sh_76 (by decide) (by decide +kernel), am_I_0 sh_77 (by decide) (by decide +kernel), am_I_0 sh_78 (by decide) (by decide +kernel), am_I_0 sh_79 (by decide) (by decide +kernel), am_I_0 sh_80 (by decide) (by decide +kernel)⟩
theorem F_QU_81 : F_QU 81 := ⟨sh_81, sh_82, sh_83, sh_84, sh_85, sh_86, sh_87, lk_81_10, lk_81_11, lk_81_13, lk_81_14, lk_81_15, lk_81_16, am_I_s sh_82 (by decide) (by decide +kernel), am_I_0 sh_83 (by decide) (by decide +kernel), am_I_0 sh_84 (by decide) (by decide +kernel), am_I_0 sh_85 (by decide) (by decide +kernel), am_I_0 sh_86 (by decide) (by decide +kernel), am_I_0 sh_87 (by decide) (by decide +kernel)⟩
theorem F_QU_88 : F_QU 88 := ⟨sh_88, sh_89, sh_90, sh_91, sh_92, sh_93, sh_94, lk_88_10, lk_88_11, lk_88_13, lk_88_14, lk_88_15, lk_88_16, am_I_s sh_89 (by decide) (by decide +kernel), am_I_0 sh_90 (by decide) (by decide +kernel), am_I_0 sh_91 (by decide) (by decide +kernel), am_I_0 sh_92 (by decide) (by decide +kernel), am_I_0 sh_93 (by decide) (by decide +kernel), am_I_0 sh_94 (by decide) (by decide +kernel)⟩
theorem F_QU_95 : F_QU 95 := ⟨sh_95, sh_96, sh_97, sh_98, sh_99, sh_100, sh_101, lk_95_10, lk_95_11, lk_95_13, lk_95_14, lk_95_15, lk_95_16, am_I_s sh_96 (by decide) (by decide +kernel), am_I_0 sh_97 (by decide) (by decide +kernel), am_I_0 sh_98 (by decide) (by decide +kernel), am_I_0 sh_99 (by decide) (by decide +kernel), am_I_0 sh_100 (by decide) (by decide +kernel), am_I_0 sh_101 (by decide) (by decide +kernel)⟩
theorem F_QU_102 : F_QU 102 := ⟨sh_102, sh_103, sh_104, sh_105, sh_106, sh_107, sh_108, lk_102_10, lk_102_11, lk_102_13, lk_102_14, lk_102_15, lk_102_16, am_I_s sh_103 (by decide) (by decide +kernel), am_I_0 sh_104 (by decide) (by decide +kernel), am_I_0 sh_105 (by decide) (by decide +kernel), am_I_0 sh_106 (by decide) (by decide +kernel), am_I_0 sh_107 (by decide) (by decide +kernel), am_I_0 sh_108 (by decide) (by decide +kernel)⟩
theorem F_QU_109 : F_QU 109 := ⟨sh_109, sh_110, sh_111, sh_112, sh_113, sh_114, sh_115, lk_109_10, lk_109_11, lk_109_13, lk_109_14, lk_109_15, lk_109_16, am_I_s sh_110 (by decide) (by decide +kernel), am_I_0 sh_111 (by decide) (by decide +kernel), am_I_0 sh_112 (by decide) (by decide +kernel), am_I_0 sh_113 (by decide) (by decide +kernel), am_I_0 sh_114 (by decide) (by decide +kernel), am_I_0 sh_115 (by decide) (by decide +kernel)⟩
theorem F_QU_116 : F_QU 116 := ⟨sh_116, sh_117, sh_118, sh_119, sh_120, sh_121, sh_122, lk_116_10, lk_116_11, lk_116_13, lk_116_14, lk_116_15, lk_116_16, am_I_s sh_117 (by decide) (by decide +kernel), am_I_0 sh_118 (by decide) (by decide +kernel), am_I_0 sh_119 (by decide) (by decide +kernel), am_I_0 sh_120 (by decide) (by decide +kernel), am_I_0 sh_121 (by decide) (by decide +kernel), am_I_0 sh_122 (by decide) (by decide +kernel)⟩
theorem F_RE_123 : F_RE 123 := sh_123
theorem F_ST_128 : F_ST 128 := ⟨sh_128, sh_129, lk_128_4, am_I_0 sh_129 (by decide) (by decide +kernel)⟩
theorem F_ST_130 : F_ST 130 := ⟨sh_130, sh_131, lk_130_4, am_I_0 sh_131 (by decide) (by decide +kernel)⟩
theorem F_ST_132 : F_ST 132 := ⟨sh_132, sh_133, lk_132_4, am_I_0 sh_133 (by decide) (by decide +kernel)⟩
theorem F_ST_134 : F_ST 134 := ⟨sh_134, sh_135, lk_134_4, am_I_0 sh_135 (by decide) (by decide +kernel)⟩
theorem F_ST_136 : F_ST 136 := ⟨sh_136, sh_137, lk_136_4, am_I_0 sh_137 (by decide) (by decide +kernel)⟩
theorem F_ST_138 : F_ST 138 := ⟨sh_138, sh_139, lk_138_4, am_I_0 sh_139 (by decide) (by decide +kernel)⟩
theorem F_ST_142 : F_ST 142 := ⟨sh_142, sh_143, lk_142_4, am_I_0 sh_143 (by decide) (by decide +kernel)⟩
theorem F_ST_144 : F_ST 144 := ⟨sh_144, sh_145, lk_144_4, am_I_0 sh_145 (by decide) (by decide +kernel)⟩
theorem F_ST_146 : F_ST 146 := ⟨sh_146, sh_147, lk_146_4, am_I_0 sh_147 (by decide) (by decide +kernel)⟩
theorem F_ST_148 : F_ST 148 := ⟨sh_148, sh_149, lk_148_4, am_I_0 sh_149 (by decide) (by decide +kernel)⟩
theorem F_ST_150 : F_ST 150 := ⟨sh_150, sh_151, lk_150_4, am_I_0 sh_151 (by decide) (by decide +kernel)⟩
theorem F_ST_152 : F_ST 152 := ⟨sh_152, sh_153, lk_152_4, am_I_0 sh_153 (by decide) (by decide +kernel)⟩
theorem F_ST_156 : F_ST 156 := ⟨sh_156, sh_157, lk_156_4, am_I_0 sh_157 (by decide) (by decide +kernel)⟩
theorem F_ST_158 : F_ST 158 := ⟨sh_158, sh_159, lk_158_4, am_I_0 sh_159 (by decide) (by decide +kernel)⟩
theorem F_ST_160 : F_ST 160 := ⟨sh_160, sh_161, lk_160_4, am_I_0 sh_161 (by decide) (by decide +kernel)⟩
theorem F_ST_162 : F_ST 162 := ⟨sh_162, sh_163, lk_162_4, am_I_0 sh_163 (by decide) (by decide +kernel)⟩
theorem F_ST_164 : F_ST 164 := ⟨sh_164, sh_165, lk_164_4, am_I_0 sh_165 (by decide) (by decide +kernel)⟩
theorem F_ST_166 : F_ST 166 := ⟨sh_166, sh_167, lk_166_4, am_I_0 sh_167 (by decide) (by decide +kernel)⟩
theorem F_ST_170 : F_ST 170 := ⟨sh_170, sh_171, lk_170_4, am_I_0 sh_171 (by decide) (by decide +kernel)⟩
theorem F_ST_172 : F_ST 172 := ⟨sh_172, sh_173, lk_172_4, am_I_0 sh_173 (by decide) (by decide +kernel)⟩
theorem F_ST_174 : F_ST 174 := ⟨sh_174, sh_175, lk_174_4, am_I_0 sh_175 (by decide) (by decide +kernel)⟩
theorem F_ST_176 : F_ST 176 := ⟨sh_176, sh_177, lk_176_4, am_I_0 sh_177 (by decide) (by decide +kernel)⟩
theorem F_ST_178 : F_ST 178 := ⟨sh_178, sh_179, lk_178_4, am_I_0 sh_179 (by decide) (by decide +kernel)⟩
theorem F_ST_180 : F_ST 180 := ⟨sh_180, sh_181, lk_180_4, am_I_0 sh_181 (by decide) (by decide +kernel)⟩
theorem F_RO_183 : F_RO 183 := ⟨sh_183, sh_184, sh_185, sh_186, lk_183_0, lk_183_1, lk_183_2, am_I_0 sh_184 (by decide) (by decide +kernel), am_I_0 sh_185 (by decide) (by decide +kernel), am_I_s sh_186 (by decide) (by decide +kernel)⟩
theorem F_RO_187 : F_RO 187 := ⟨sh_187, sh_188, sh_189, sh_190, lk_187_0, lk_187_1, lk_187_2, am_I_0 sh_188 (by decide) (by decide +kernel), am_I_0 sh_189 (by decide) (by decide +kernel), am_I_s sh_190 (by decide) (by decide +kernel)⟩
theorem F_RO_191 : F_RO 191 := ⟨sh_191, sh_192, sh_193, sh_194, lk_191_0, lk_191_1, lk_191_2, am_I_0 sh_192 (by decide) (by decide +kernel), am_I_0 sh_193 (by decide) (by decide +kernel), am_I_s sh_194 (by decide) (by decide +kernel)⟩
theorem F_RO_195 : F_RO 195 := ⟨sh_195, sh_196, sh_197, sh_198, lk_195_0, lk_195_1, lk_195_2, am_I_0 sh_196 (by decide) (by decide +kernel), am_I_0 sh_197 (by decide) (by decide +kernel), am_I_s sh_198 (by decide) (by decide +kernel)⟩
theorem F_RO_199 : F_RO 199 := ⟨sh_199, sh_200, sh_201, sh_202, lk_199_0, lk_199_1, lk_199_2, am_I_0 sh_200 (by decide) (by decide +kernel), am_I_0 sh_201 (by decide) (by decide +kernel), am_I_s sh_202 (by decide) (by decide +kernel)⟩
theorem F_RO_203 : F_RO 203 := ⟨sh_203, sh_204, sh_205, sh_206, lk_203_0, lk_203_1, lk_203_2, am_I_0 sh_204 (by decide) (by decide +kernel), am_I_0 sh_205 (by decide) (by decide +kernel), am_I_s sh_206 (by decide) (by decide +kernel)⟩
theorem F_AC_126 : F_AC 126 := ⟨sh_126, sh_127, lk_126_0, fun j hj => by
    match j, hj with
    | 0, _ => exact F_ST_128
    | 1, _ => exact F_ST_130
    | 2, _ => exact F_ST_132
    | 3, _ => exact F_ST_134
    | 4, _ => exact F_ST_136
    | 5, _ => exact F_ST_138
    | j + 6, h => exact absurd h (by omega), by decide +kernel⟩
theorem F_AC_140 : F_AC 140 := ⟨sh_140, sh_141, lk_140_0, fun j hj => by
    match j, hj with
    | 0, _ => exact F_ST_142
    | 1, _ => exact F_ST_144
    | 2, _ => exact F_ST_146
    | 3, _ => exact F_ST_148
    | 4, _ => exact F_ST_150
    | 5, _ => exact F_ST_152
    | j + 6, h => exact absurd h (by omega), by decide +kernel⟩
theorem F_AC_154 : F_AC 154 := ⟨sh_154, sh_155, lk_154_0, fun j hj => by
    match j, hj with
    | 0, _ => exact F_ST_156
    | 1, _ => exact F_ST_158
    | 2, _ => exact F_ST_160
    | 3, _ => exact F_ST_162
    | 4, _ => exact F_ST_164
    | 5, _ => exact F_ST_166
    | j + 6, h => exact absurd h (by omega), by decide +kernel⟩
theorem F_AC_168 : F_AC 168 := ⟨sh_168, sh_169, lk_168_0, fun j hj => by
    match j, hj with
    | 0, _ => exact F_ST_170
    | 1, _ => exact F_ST_172
    | 2, _ => exact F_ST_174
    | 3, _ => exact F_ST_176
    | 4, _ => exact F_ST_178
    | 5, _ => exact F_ST_180
    | j + 6, h => exact absurd h (by omega), by decide +kernel⟩
theorem cw_RO_init_34 : am_cs m_RO_init m_JF_fill 22 2 := ⟨⟨ok_JF_fill, rfl, by decide +kernel, by decide, by decide⟩, aw_0_124, aw_0_125⟩
theorem cw_QU_init_82 : am_cs m_QU_init m_JF_fill 46 2 := ⟨⟨ok_JF_fill, rfl, by decide +kernel, by decide, by decide⟩, aw_0_230, aw_0_125⟩
theorem cw_AC_init_33 : am_in m_AC_init m_ST_init 17 0 := ⟨⟨ok_ST_init, rfl, by decide +kernel, by decide, by decide⟩, by decide +kernel, aw_1_112, rfl, rfl⟩
theorem cw_BA_init_18 : am_in m_BA_init m_CO_init 17 0 := ⟨⟨ok_CO_init, rfl, by decide +kernel, by decide, by decide⟩, by decide +kernel, aw_0_38, rfl, rfl⟩
theorem cw_BA_init_45 : am_in m_BA_init m_RU_init 32 0 := ⟨⟨ok_RU_init, rfl, by decide +kernel, by decide, by decide⟩, by decide +kernel, aw_0_88, rfl, rfl⟩
theorem cw_BA_init_64 : am_ci m_BA_init m_RO_init 42 0 := ⟨⟨ok_RO_init, rfl, by decide +kernel, by decide, by decide⟩, aw_0_119, aw_0_120, rfl, rfl⟩
theorem cw_BA_init_75 : am_ci m_BA_init m_RO_init 42 0 := ⟨⟨ok_RO_init, rfl, by decide +kernel, by decide, by decide⟩, aw_0_119, aw_0_120, rfl, rfl⟩
theorem cw_BA_init_86 : am_in m_BA_init m_RE_init 52 0 := ⟨⟨ok_RE_init, rfl, by decide +kernel, by decide, by decide⟩, by decide +kernel, aw_0_140, rfl, rfl⟩
theorem cw_BA_init_166 : am_in m_BA_init m_RU_init 32 0 := ⟨⟨ok_RU_init, rfl, by decide +kernel, by decide, by decide⟩, by decide +kernel, aw_0_88, rfl, rfl⟩
theorem cw_BA_init_136 : am_in m_BA_init m_CO_init 17 0 := ⟨⟨ok_CO_init, rfl, by decide +kernel, by decide, by decide⟩, by decide +kernel, aw_0_38, rfl, rfl⟩
theorem cw_AS_init_18 : am_ci m_AS_init m_QU_init 17 0 := ⟨⟨ok_QU_init, rfl, by decide +kernel, by decide, by decide⟩, aw_0_226, aw_0_227, rfl, rfl⟩
theorem cw_AS_init_100 : am_ci m_AS_init m_QU_init 17 0 := ⟨⟨ok_QU_init, rfl, by decide +kernel, by decide, by decide⟩, aw_0_226, aw_0_227, rfl, rfl⟩
theorem cw_CB_init_9 : am_ci m_CB_init m_BA_init 11 0 := ⟨⟨ok_BA_init, rfl, by decide +kernel, by decide, by decide⟩, aw_0_30, aw_0_31, rfl, rfl⟩
theorem cw_CB_init_24 : am_ci m_CB_init m_AS_init 18 1 := ⟨⟨ok_AS_init, rfl, by decide +kernel, by decide, by decide⟩, aw_0_219, aw_0_220, rfl, rfl⟩
theorem cw_CB_init_35 : am_in m_CB_init m_RE_init 27 0 := ⟨⟨ok_RE_init, rfl, by decide +kernel, by decide, by decide⟩, by decide +kernel, aw_0_140, rfl, rfl⟩
theorem cw_CB_init_55 : am_cs m_CB_init m_JF_fill 37 2 := ⟨⟨ok_JF_fill, rfl, by decide +kernel, by decide, by decide⟩, aw_1_100, aw_0_125⟩
theorem cw_CB_init_121 : am_ci m_CB_init m_RO_init 56 0 := ⟨⟨ok_RO_init, rfl, by decide +kernel, by decide, by decide⟩, aw_1_148, aw_0_120, rfl, rfl⟩
theorem cw_CB_init_82 : am_ci m_CB_init m_AC_init 49 0 := ⟨⟨ok_AC_init, rfl, by decide +kernel, by decide, by decide⟩, aw_1_104, aw_1_105, rfl, rfl⟩
theorem ct_CO_init {l : Launch} {g : am_Gl} (hg : g.2.2.2.1 = false) {i : Nat} {s : am_M} (hF : F_CO i) (hi : i < 300) (hz : s i = am_z 3) : AC l g m_CO_init (i + 1) s [.ref i] (am_made i 1 s) := by
  refine am_enter ok_CO_init rfl (Nat.le_of_ble_eq_true rfl) rfl (fun ad0 => ?_)
  have f0 := hF
  have hC := Co_start hz
  have hC : Co s s i (i + 1) [(i, am_z 3)] := Co_start hz
  refine am_aload_n (j := 0) d_CO_init_0 rfl rfl ?_
  refine am_objInit d_CO_init_1 aw_0_40 (by decide) (Nat.le_of_ble_eq_true rfl) ?_
  exact am_vret d_CO_init_4 rfl (by show _ ≤ 0; omega) (by show _ ≤ 0; omega) (Co_end (Co_shut hC (am_obj f0 (fun k hk => by
    match k, hk with
    | 0, _ => rfl
    | 1, _ => rfl
    | 2, _ => rfl
    | 3, _ => rfl
    | 4, _ => rfl
    | 5, _ => rfl
    | 6, _ => rfl
    | 7, _ => rfl
    | 8, _ => rfl
    | 9, _ => rfl
    | 10, _ => rfl
    | k + 11, h => exact absurd h (by omega)) (fun k hk => by simp [am_z, (am_out_3 k hk).1]) am_out_3)) (by omega))
theorem ct_RU_init {l : Launch} {g : am_Gl} (hg : g.2.2.2.1 = false) {i : Nat} {s : am_M} (hF : F_RU i) (hi : i < 300) (hz : s i = am_z 7) : AC l g m_RU_init (i + 1) s [.ref i] (am_made i 1 s) := by
  refine am_enter ok_RU_init rfl (Nat.le_of_ble_eq_true rfl) rfl (fun ad0 => ?_)
  have f0 := hF
  have hC := Co_start hz
  have hC : Co s s i (i + 1) [(i, am_z 7)] := Co_start hz
  refine am_aload_n (j := 0) d_RU_init_0 rfl rfl ?_
  refine am_objInit d_RU_init_1 aw_0_90 (by decide) (Nat.le_of_ble_eq_true rfl) ?_
  exact am_vret d_RU_init_4 rfl (by show _ ≤ 0; omega) (by show _ ≤ 0; omega) (Co_end (Co_shut hC (am_obj f0 (fun k hk => by
    match k, hk with
    | 0, _ => rfl
    | 1, _ => rfl
    | 2, _ => rfl
    | 3, _ => rfl
    | 4, _ => rfl
    | 5, _ => rfl
    | k + 6, h => exact absurd h (by omega)) (fun k hk => by simp [am_z, (am_out_7 k hk).1]) am_out_7)) (by omega))
theorem ct_RE_init {l : Launch} {g : am_Gl} (hg : g.2.2.2.1 = false) {i : Nat} {s : am_M} (hF : F_RE i) (hi : i < 300) (hz : s i = am_z 5) : AC l g m_RE_init (i + 1) s [.ref i] (am_made i 1 s) := by
  refine am_enter ok_RE_init rfl (Nat.le_of_ble_eq_true rfl) rfl (fun ad0 => ?_)
  have f0 := hF
  have hC := Co_start hz
  have hC : Co s s i (i + 1) [(i, am_z 5)] := Co_start hz
  refine am_aload_n (j := 0) d_RE_init_0 rfl rfl ?_
  refine am_objInit d_RE_init_1 aw_0_142 (by decide) (Nat.le_of_ble_eq_true rfl) ?_
  refine am_aload_n (j := 0) d_RE_init_4 rfl rfl ?_
  refine am_iconst (v := (-1 : Int32)) d_RE_init_5 (by decide) ?_
  refine cw_putI d_RE_init_6 fl_RE_7 ft_5_1 (by omega) f0 (by decide) rfl hC (by omega) (fun q hq => by cases hq) (fun σ hC => ?_)
  refine am_aload_n (j := 0) d_RE_init_9 rfl rfl ?_
  refine am_iconst (v := (-1 : Int32)) d_RE_init_10 (by decide) ?_
  refine cw_putI d_RE_init_11 fl_RE_13 ft_5_2 (by omega) f0 (by decide) rfl hC (by omega) (fun q hq => by cases hq) (fun σ hC => ?_)
  refine am_aload_n (j := 0) d_RE_init_14 rfl rfl ?_
  refine am_iconst (v := (-1 : Int32)) d_RE_init_15 (by decide) ?_
  refine cw_putI d_RE_init_16 fl_RE_16 ft_5_3 (by omega) f0 (by decide) rfl hC (by omega) (fun q hq => by cases hq) (fun σ hC => ?_)
  exact am_vret d_RE_init_19 rfl (by show _ ≤ 0; omega) (by show _ ≤ 0; omega) (Co_end (Co_shut hC (am_obj f0 (fun k hk => by
    match k, hk with
    | 0, _ => rfl
    | 1, _ => rfl
    | 2, _ => rfl
    | 3, _ => rfl
    | k + 4, h => exact absurd h (by omega)) (fun k hk => by simp only [upd]; rw [if_neg (by omega), if_neg (by omega), if_neg (by omega)]; simp [am_z, (am_out_5 k hk).1]) am_out_5)) (by omega))
theorem ct_ST_init {l : Launch} {g : am_Gl} (hg : g.2.2.2.1 = false) {i : Nat} {s : am_M} (hF : F_ST i) (hi : i < 300) (hz : s i = am_z 8) : AC l g m_ST_init (i + 1) s [.ref i] (am_made i 2 s) := by
  refine am_enter ok_ST_init rfl (Nat.le_of_ble_eq_true rfl) rfl (fun ad0 => ?_)
  obtain ⟨f0, f1, l4, g1⟩ := hF
  have hC := Co_start hz
  have hC : Co s s i (i + 1) [(i, am_z 8)] := Co_start hz
  refine am_aload_n (j := 0) d_ST_init_0 rfl rfl ?_
  refine am_objInit d_ST_init_1 aw_1_114 (by decide) (Nat.le_of_ble_eq_true rfl) ?_
  refine am_aload_n (j := 0) d_ST_init_4 rfl rfl ?_
  refine am_bipush (v := (6 : Int32)) d_ST_init_5 (by decide) ?_
  refine cw_newa (t := 0) (N := 6) (i + 2) (0 + 1) (0 + 6) d_ST_init_7 rfl (by decide) am_acI hg f1 (by decide) (by decide) (by decide) hC (by omega) (fun q hq => by simp only [List.mem_cons, List.not_mem_nil, or_false] at hq; rcases hq with rfl <;> dsimp only <;> omega) (g1) (by omega) (by omega) (by omega) (by show _ ≤ 1; omega) (by show _ ≤ 6; omega) (fun σ hC => ?_)
  refine cw_putR (b := (i + 1)) d_ST_init_9 fl_ST_9 ft_8_4 rfl rfl hg (by omega) f0 (by decide) rfl (Or.inr ⟨_, rfl⟩) (by omega) hC (by omega) (fun q hq => by cases hq) (fun σ hC => ?_)
  exact am_vret d_ST_init_12 rfl (by show _ ≤ 1; omega) (by show _ ≤ 6; omega) (Co_end (Co_shut hC (am_obj f0 (fun k hk => by
    match k, hk with
    | 0, _ => rfl
    | 1, _ => rfl
    | 2, _ => rfl
    | 3, _ => rfl
    | 4, _ => simp [upd, am_z, am_fr, am_frL, l4]
    | k + 5, h => exact absurd h (by omega)) (fun k hk => by simp only [upd]; rw [if_neg (by omega)]; simp [am_z, (am_out_8 k hk).1]) am_out_8)) (by omega))
theorem ct_RO_init {l : Launch} {g : am_Gl} (hg : g.2.2.2.1 = false) {i : Nat} {s : am_M} (hF : F_RO i) (hi : i < 300) (hz : s i = am_z 6) : AC l g m_RO_init (i + 1) s [.ref i] (am_made i 4 s) := by
  refine am_enter ok_RO_init rfl (Nat.le_of_ble_eq_true rfl) rfl (fun ad0 => ?_)
  obtain ⟨f0, f1, f2, f3, l0, l1, l2, g1, g2, g3⟩ := hF
  have hC := Co_start hz
  have hC : Co s s i (i + 1) [(i, am_z 6)] := Co_start hz
  refine am_aload_n (j := 0) d_RO_init_0 rfl rfl ?_
  refine am_objInit d_RO_init_1 aw_0_122 (by decide) (Nat.le_of_ble_eq_true rfl) ?_
  refine am_aload_n (j := 0) d_RO_init_4 rfl rfl ?_
  refine am_iconst (v := (4 : Int32)) d_RO_init_5 (by decide) ?_
  refine cw_newa (t := 0) (N := 4) (i + 2) (0 + 1) (0 + 4) d_RO_init_6 rfl (by decide) am_acI hg f1 (by decide) (by decide) (by decide) hC (by omega) (fun q hq => by simp only [List.mem_cons, List.not_mem_nil, or_false] at hq; rcases hq with rfl <;> dsimp only <;> omega) (g1) (by omega) (by omega) (by omega) (by show _ ≤ 3; omega) (by show _ ≤ 844; omega) (fun σ hC => ?_)
  refine cw_putR (b := (i + 1)) d_RO_init_8 fl_RO_9 ft_6_0 rfl rfl hg (by omega) f0 (by decide) rfl (Or.inr ⟨_, rfl⟩) (by omega) hC (by omega) (fun q hq => by cases hq) (fun σ hC => ?_)
  refine am_aload_n (j := 0) d_RO_init_11 rfl rfl ?_
  refine am_bipush (v := (120 : Int32)) d_RO_init_12 (by decide) ?_
  refine cw_newa (t := 0) (N := 120) (i + 3) (0 + 2) (0 + 124) d_RO_init_14 rfl (by decide) am_acI hg f2 (by decide) (by decide) (by decide) hC (by omega) (fun q hq => by simp only [List.mem_cons, List.not_mem_nil, or_false] at hq; rcases hq with rfl <;> dsimp only <;> omega) (g2) (by omega) (by omega) (by omega) (by show _ ≤ 3; omega) (by show _ ≤ 844; omega) (fun σ hC => ?_)
  refine cw_putR (b := (i + 2)) d_RO_init_16 fl_RO_15 ft_6_1 rfl rfl hg (by omega) f0 (by decide) rfl (Or.inr ⟨_, rfl⟩) (by omega) hC (by omega) (fun q hq => by cases hq) (fun σ hC => ?_)
  refine am_aload_n (j := 0) d_RO_init_19 rfl rfl ?_
  refine am_sipush (v := (720 : Int32)) d_RO_init_20 (by decide) ?_
  refine cw_newaO (t := 0) (N := 720) (i + 4) (0 + 3) (0 + 844) d_RO_init_23 rfl (by decide) am_acI hg f3 (by decide) (by decide) (by decide) hC (by omega) (fun q hq => by simp only [List.mem_cons, List.not_mem_nil, or_false] at hq; rcases hq with rfl <;> dsimp only <;> omega) (by omega) (by omega) (by omega) (by show _ ≤ 3; omega) (by show _ ≤ 844; omega) (fun σ hC => ?_)
  have hC := Co_swap hC
  refine cw_putR (b := (i + 3)) d_RO_init_25 fl_RO_18 ft_6_2 rfl rfl hg (by omega) f0 (by decide) rfl (Or.inr ⟨_, rfl⟩) (by omega) hC (by omega) (fun q hq => by simp only [List.mem_cons, List.not_mem_nil, or_false] at hq; rcases hq with rfl <;> dsimp only <;> omega) (fun σ hC => ?_)
  refine am_aload_n (j := 0) d_RO_init_28 rfl rfl ?_
  refine cw_get (a := 0) (b := (i + 3)) d_RO_init_29 fl_RO_18 hg (by omega) f0 (by decide) rfl hC rfl rfl (by omega) (by omega) ?_
  refine am_ldc (v := (-1000000 : Int32)) d_RO_init_32 aw_0_123 ?_
  have hC := Co_swap hC
  refine cw_fill (N := 720) (na := 0) d_RO_init_34 cw_RO_init_34 (by omega) f3 (by decide) (Nat.le_of_ble_eq_true rfl) (by show _ ≤ 3; omega) (by show _ ≤ 844; omega) hC (by omega) (fun q hq => by simp only [List.mem_cons, List.not_mem_nil, or_false] at hq; rcases hq with rfl <;> dsimp only <;> omega) (fun σ hC => ?_)
  have hC := Co_shut hC (g3.trans (by funext k; simp)).symm
  exact am_vret d_RO_init_37 rfl (by show _ ≤ 3; omega) (by show _ ≤ 844; omega) (Co_end (Co_shut hC (am_obj f0 (fun k hk => by
    match k, hk with
    | 0, _ => simp [upd, am_z, am_fr, am_frL, l0]
    | 1, _ => simp [upd, am_z, am_fr, am_frL, l1]
    | 2, _ => simp [upd, am_z, am_fr, am_frL, l2]
    | k + 3, h => exact absurd h (by omega)) (fun k hk => by simp only [upd]; rw [if_neg (by omega), if_neg (by omega), if_neg (by omega)]; simp [am_z, (am_out_6 k hk).1]) am_out_6)) (by omega))
theorem ct_QU_init {l : Launch} {g : am_Gl} (hg : g.2.2.2.1 = false) {i : Nat} {s : am_M} (hF : F_QU i) (hi : i < 300) (hz : s i = am_z 4) : AC l g m_QU_init (i + 1) s [.ref i] (am_made i 7 s) := by
  refine am_enter ok_QU_init rfl (Nat.le_of_ble_eq_true rfl) rfl (fun ad0 => ?_)
  obtain ⟨f0, f1, f2, f3, f4, f5, f6, l10, l11, l13, l14, l15, l16, g1, g2, g3, g4, g5, g6⟩ := hF
  have hC := Co_start hz
  have hC : Co s s i (i + 1) [(i, am_z 4)] := Co_start hz
  refine am_aload_n (j := 0) d_QU_init_0 rfl rfl ?_
  refine am_objInit d_QU_init_1 aw_0_229 (by decide) (Nat.le_of_ble_eq_true rfl) ?_
  refine am_aload_n (j := 0) d_QU_init_4 rfl rfl ?_
  refine am_iconst (v := (-1 : Int32)) d_QU_init_5 (by decide) ?_
  refine cw_putI d_QU_init_6 fl_QU_9 ft_4_2 (by omega) f0 (by decide) rfl hC (by omega) (fun q hq => by cases hq) (fun σ hC => ?_)
  refine am_aload_n (j := 0) d_QU_init_9 rfl rfl ?_
  refine am_iconst (v := (-1 : Int32)) d_QU_init_10 (by decide) ?_
  refine cw_putI d_QU_init_11 fl_QU_15 ft_4_3 (by omega) f0 (by decide) rfl hC (by omega) (fun q hq => by cases hq) (fun σ hC => ?_)
  refine am_aload_n (j := 0) d_QU_init_14 rfl rfl ?_
  refine am_iconst (v := (-1 : Int32)) d_QU_init_15 (by decide) ?_
  refine cw_putI d_QU_init_16 fl_QU_18 ft_4_4 (by omega) f0 (by decide) rfl hC (by omega) (fun q hq => by cases hq) (fun σ hC => ?_)
  refine am_aload_n (j := 0) d_QU_init_19 rfl rfl ?_
  refine am_iconst (v := (-1 : Int32)) d_QU_init_20 (by decide) ?_
  refine cw_putI d_QU_init_21 fl_QU_21 ft_4_5 (by omega) f0 (by decide) rfl hC (by omega) (fun q hq => by cases hq) (fun σ hC => ?_)
  refine am_aload_n (j := 0) d_QU_init_24 rfl rfl ?_
  refine am_iconst (v := (-1 : Int32)) d_QU_init_25 (by decide) ?_
  refine cw_putI d_QU_init_26 fl_QU_24 ft_4_6 (by omega) f0 (by decide) rfl hC (by omega) (fun q hq => by cases hq) (fun σ hC => ?_)
  refine am_aload_n (j := 0) d_QU_init_29 rfl rfl ?_
  refine am_bipush (v := (54 : Int32)) d_QU_init_30 (by decide) ?_
  refine cw_newaO (t := 0) (N := 54) (i + 2) (0 + 1) (0 + 54) d_QU_init_32 rfl (by decide) am_acI hg f1 (by decide) (by decide) (by decide) hC (by omega) (fun q hq => by simp only [List.mem_cons, List.not_mem_nil, or_false] at hq; rcases hq with rfl <;> dsimp only <;> omega) (by omega) (by omega) (by omega) (by show _ ≤ 6; omega) (by show _ ≤ 132; omega) (fun σ hC => ?_)
  have hC := Co_swap hC
  refine cw_putR (b := (i + 1)) d_QU_init_34 fl_QU_27 ft_4_10 rfl rfl hg (by omega) f0 (by decide) rfl (Or.inr ⟨_, rfl⟩) (by omega) hC (by omega) (fun q hq => by simp only [List.mem_cons, List.not_mem_nil, or_false] at hq; rcases hq with rfl <;> dsimp only <;> omega) (fun σ hC => ?_)
  refine am_aload_n (j := 0) d_QU_init_37 rfl rfl ?_
  refine am_bipush (v := (54 : Int32)) d_QU_init_38 (by decide) ?_
  refine cw_newa (t := 0) (N := 54) (i + 3) (0 + 2) (0 + 108) d_QU_init_40 rfl (by decide) am_acI hg f2 (by decide) (by decide) (by decide) hC (by omega) (fun q hq => by simp only [List.mem_cons, List.not_mem_nil, or_false] at hq; rcases hq with rfl | rfl <;> dsimp only <;> omega) (g2) (by omega) (by omega) (by omega) (by show _ ≤ 6; omega) (by show _ ≤ 132; omega) (fun σ hC => ?_)
  refine cw_putR (b := (i + 2)) d_QU_init_42 fl_QU_31 ft_4_11 rfl rfl hg (by omega) f0 (by decide) rfl (Or.inr ⟨_, rfl⟩) (by omega) hC (by omega) (fun q hq => by simp only [List.mem_cons, List.not_mem_nil, or_false] at hq; rcases hq with rfl <;> dsimp only <;> omega) (fun σ hC => ?_)
  refine am_aload_n (j := 0) d_QU_init_45 rfl rfl ?_
  refine am_bipush (v := (6 : Int32)) d_QU_init_46 (by decide) ?_
  refine cw_newa (t := 0) (N := 6) (i + 4) (0 + 3) (0 + 114) d_QU_init_48 rfl (by decide) am_acI hg f3 (by decide) (by decide) (by decide) hC (by omega) (fun q hq => by simp only [List.mem_cons, List.not_mem_nil, or_false] at hq; rcases hq with rfl | rfl <;> dsimp only <;> omega) (g3) (by omega) (by omega) (by omega) (by show _ ≤ 6; omega) (by show _ ≤ 132; omega) (fun σ hC => ?_)
  refine cw_putR (b := (i + 3)) d_QU_init_50 fl_QU_34 ft_4_13 rfl rfl hg (by omega) f0 (by decide) rfl (Or.inr ⟨_, rfl⟩) (by omega) hC (by omega) (fun q hq => by simp only [List.mem_cons, List.not_mem_nil, or_false] at hq; rcases hq with rfl <;> dsimp only <;> omega) (fun σ hC => ?_)
  refine am_aload_n (j := 0) d_QU_init_53 rfl rfl ?_
  refine am_bipush (v := (6 : Int32)) d_QU_init_54 (by decide) ?_
  refine cw_newa (t := 0) (N := 6) (i + 5) (0 + 4) (0 + 120) d_QU_init_56 rfl (by decide) am_acI hg f4 (by decide) (by decide) (by decide) hC (by omega) (fun q hq => by simp only [List.mem_cons, List.not_mem_nil, or_false] at hq; rcases hq with rfl | rfl <;> dsimp only <;> omega) (g4) (by omega) (by omega) (by omega) (by show _ ≤ 6; omega) (by show _ ≤ 132; omega) (fun σ hC => ?_)
  refine cw_putR (b := (i + 4)) d_QU_init_58 fl_QU_37 ft_4_14 rfl rfl hg (by omega) f0 (by decide) rfl (Or.inr ⟨_, rfl⟩) (by omega) hC (by omega) (fun q hq => by simp only [List.mem_cons, List.not_mem_nil, or_false] at hq; rcases hq with rfl <;> dsimp only <;> omega) (fun σ hC => ?_)
  refine am_aload_n (j := 0) d_QU_init_61 rfl rfl ?_
  refine am_bipush (v := (6 : Int32)) d_QU_init_62 (by decide) ?_
  refine cw_newa (t := 0) (N := 6) (i + 6) (0 + 5) (0 + 126) d_QU_init_64 rfl (by decide) am_acI hg f5 (by decide) (by decide) (by decide) hC (by omega) (fun q hq => by simp only [List.mem_cons, List.not_mem_nil, or_false] at hq; rcases hq with rfl | rfl <;> dsimp only <;> omega) (g5) (by omega) (by omega) (by omega) (by show _ ≤ 6; omega) (by show _ ≤ 132; omega) (fun σ hC => ?_)
  refine cw_putR (b := (i + 5)) d_QU_init_66 fl_QU_40 ft_4_15 rfl rfl hg (by omega) f0 (by decide) rfl (Or.inr ⟨_, rfl⟩) (by omega) hC (by omega) (fun q hq => by simp only [List.mem_cons, List.not_mem_nil, or_false] at hq; rcases hq with rfl <;> dsimp only <;> omega) (fun σ hC => ?_)
  refine am_aload_n (j := 0) d_QU_init_69 rfl rfl ?_
  refine am_bipush (v := (6 : Int32)) d_QU_init_70 (by decide) ?_
  refine cw_newa (t := 0) (N := 6) (i + 7) (0 + 6) (0 + 132) d_QU_init_72 rfl (by decide) am_acI hg f6 (by decide) (by decide) (by decide) hC (by omega) (fun q hq => by simp only [List.mem_cons, List.not_mem_nil, or_false] at hq; rcases hq with rfl | rfl <;> dsimp only <;> omega) (g6) (by omega) (by omega) (by omega) (by show _ ≤ 6; omega) (by show _ ≤ 132; omega) (fun σ hC => ?_)
  refine cw_putR (b := (i + 6)) d_QU_init_74 fl_QU_43 ft_4_16 rfl rfl hg (by omega) f0 (by decide) rfl (Or.inr ⟨_, rfl⟩) (by omega) hC (by omega) (fun q hq => by simp only [List.mem_cons, List.not_mem_nil, or_false] at hq; rcases hq with rfl <;> dsimp only <;> omega) (fun σ hC => ?_)
  refine am_aload_n (j := 0) d_QU_init_77 rfl rfl ?_
  refine cw_get (a := 0) (b := (i + 1)) d_QU_init_78 fl_QU_27 hg (by omega) f0 (by decide) rfl hC rfl rfl (by omega) (by omega) ?_
  refine am_iconst (v := (-1 : Int32)) d_QU_init_81 (by decide) ?_
  have hC := Co_swap hC
  refine cw_fill (N := 54) (na := 0) d_QU_init_82 cw_QU_init_82 (by omega) f1 (by decide) (Nat.le_of_ble_eq_true rfl) (by show _ ≤ 6; omega) (by show _ ≤ 132; omega) hC (by omega) (fun q hq => by simp only [List.mem_cons, List.not_mem_nil, or_false] at hq; rcases hq with rfl <;> dsimp only <;> omega) (fun σ hC => ?_)
  have hC := Co_shut hC (g1.trans (by funext k; simp)).symm
  exact am_vret d_QU_init_85 rfl (by show _ ≤ 6; omega) (by show _ ≤ 132; omega) (Co_end (Co_shut hC (am_obj f0 (fun k hk => by
    match k, hk with
    | 0, _ => rfl
    | 1, _ => rfl
    | 2, _ => rfl
    | 3, _ => rfl
    | 4, _ => rfl
    | 5, _ => rfl
    | 6, _ => rfl
    | 7, _ => rfl
    | 8, _ => rfl
    | 9, _ => rfl
    | 10, _ => simp [upd, am_z, am_fr, am_frL, l10]
    | 11, _ => simp [upd, am_z, am_fr, am_frL, l11]
    | 12, _ => rfl
    | 13, _ => simp [upd, am_z, am_fr, am_frL, l13]
    | 14, _ => simp [upd, am_z, am_fr, am_frL, l14]
    | 15, _ => simp [upd, am_z, am_fr, am_frL, l15]
    | 16, _ => simp [upd, am_z, am_fr, am_frL, l16]
    | k + 17, h => exact absurd h (by omega)) (fun k hk => by simp only [upd]; rw [if_neg (by omega), if_neg (by omega), if_neg (by omega), if_neg (by omega), if_neg (by omega), if_neg (by omega), if_neg (by omega), if_neg (by omega), if_neg (by omega), if_neg (by omega), if_neg (by omega)]; simp [am_z, (am_out_4 k hk).1]) am_out_4)) (by omega))
theorem cw_initA {l : Launch} {g : am_Gl} {Y : am_Y} {n0 : Nat} {ad0 : Nat → Nat} {P : am_P} {k z n : Nat} {σ : am_M} {pc : Nat} {lv : List (Nat × Value)} {st : List Value} {s0 : am_M} {lo : Nat} {op : List (Nat × (Nat → Int32))} {Y' : am_Y} {idx n1 kk9 : Nat} {f : Nat → Int32} (m k2 z2 : Nat) (d : decode Y.2.1 pc = .ok (.invokespecial idx, 3)) (cw : am_ci Y Y' idx 1) (ht : am_yt Y' = false) (hA : AC l g Y' (n1 + 1) σ [.ref n1, .ref 1] (am_made n1 kk9 σ)) (hn1 : n1 + 1 = n) (hcat : (st.map fun v => v.category).sum ≤ 8) (hC : Co s0 σ lo n ((n1, f) :: op)) (hlo : lo ≤ n1) (hop : ∀ q ∈ op, q.1 < n1) (hm : n1 + kk9 = m) (hk : k + am_yc Y' = k2) (hz : z + am_ys Y' = z2) (hk2 : k2 ≤ am_yc Y) (hz2 : z2 ≤ am_ys Y) (kk : ∀ σ' : am_M, Co s0 σ' lo m op → AW l g Y n0 ad0 P k2 z2 m σ' (pc + 3) lv st) : AW l g Y n0 ad0 P k z n σ pc lv (.ref 1 :: .ref n1 :: st) := by
  subst hn1; subst hk; subst hz
  refine am_callI (Y' := Y') (as := [.ref 1]) (rest := st) d cw ht hA rfl rfl hcat hk2 hz2 (fun v9 n' σ' hP hn => ?_)
  obtain ⟨e1, e2, h1, h2⟩ := hP
  cases e1
  subst e2
  have h3 := Co_made hC hlo hop hm h1 h2
  subst hm
  exact kk _ h3
theorem ct_AC_init {l : Launch} {g : am_Gl} (hg : g.2.2.2.1 = false) {i : Nat} {s : am_M} (hF : F_AC i) (hi : i < 270) (hz : s i = am_z 0) : AC l g m_AC_init (i + 1) s [.ref i] (am_made i 14 s) := by
  refine am_enter ok_AC_init rfl (Nat.le_of_ble_eq_true rfl) rfl (fun ad0 => ?_)
  obtain ⟨f0, f1, f2, f3, f4⟩ := hF
  have hC : Co s s i (i + 1) [(i, am_z 0)] := Co_start hz
  refine am_aload_n (j := 0) d_AC_init_0 rfl rfl ?_
  refine am_objInit d_AC_init_1 aw_1_107 (by decide) (Nat.le_of_ble_eq_true rfl) ?_
  refine am_aload_n (j := 0) d_AC_init_4 rfl rfl ?_
  refine am_bipush (v := (6 : Int32)) d_AC_init_5 (by decide) ?_
  refine cw_newr (t := 8) (N := 6) (Cn := "ClubBase$Step") (i + 2) (0 + 1) (0 + 6) d_AC_init_7 rfl (by decide) aw_1_108 (by decide +kernel) hg f1 (by decide) (by decide) (by decide) hC (by omega) (fun q hq => by simp only [List.mem_cons, List.not_mem_nil, or_false] at hq; rcases hq with rfl <;> dsimp only <;> omega) (by omega) (by omega) (by omega) (by show _ ≤ 13; omega) (by show _ ≤ 72; omega) (fun σ hC => ?_)
  have hC := Co_swap hC
  refine cw_putR (b := (i + 1)) d_AC_init_10 fl_AC_11 ft_0_0 rfl rfl hg (by omega) f0 (by decide) rfl (Or.inr ⟨_, rfl⟩) (by omega) hC (by omega) (fun q hq => by simp only [List.mem_cons, List.not_mem_nil, or_false] at hq; rcases hq with rfl <;> dsimp only <;> omega) (fun σ hC => ?_)
  refine am_iconst (v := (0 : Int32)) d_AC_init_13 (by decide) ?_
  refine am_istore_n (lv2 := [(1, .int (0 : Int32)), (0, .ref i)]) d_AC_init_14 rfl (by decide) rfl ?_
  refine am_sub [1, 0] (lv2 := [(0, .ref i), (1, .int (nI 0))]) rfl ?_
  have key : ∀ (m j : Nat), 6 - j < m → j ≤ 6 → ∀ σ : am_M, Co s σ i ((i + 2) + 2 * j) [(i, (upd (am_z 0) 0 (nI (i + 1)))), ((i + 1), (fun k => if k < j then nI ((i + 2) + 2 * k) else -1))] → AW l g m_AC_init (i + 1) ad0 (am_made i 14 s) ((0 + 1) + 2 * j) ((0 + 6) + 11 * j) ((i + 2) + 2 * j) σ 15 [(0, .ref i), (1, .int (nI j))] [] := by
    intro m
    induction m with
    | zero => intro j h; omega
    | succ m ih =>
      intro j h1 h2 σ hC
      refine am_iload_n (j := 1) d_AC_init_15 rfl rfl ?_
      refine am_aload_n (j := 0) d_AC_init_16 rfl rfl ?_
      refine cw_get (a := 0) (b := (i + 1)) d_AC_init_17 fl_AC_11 hg (by omega) f0 (by decide) rfl hC rfl rfl (by omega) (by omega) ?_
      refine am_alen (v := nI 6) d_AC_init_20 (by omega) f1 (by decide) rfl ?_
      refine am_icmp_ge (tgt := 43) d_AC_init_21 (by decide) (fun c => ?_) (fun c => ?_)
      · have e : j = 6 := by
          have := (nI_leI (a := 6) (b := j) (by omega) (by omega)).mp c
          omega
        subst e
        have hC : Co s σ i (i + 14) [(i, (upd (am_z 0) 0 (nI (i + 1)))), ((i + 1), (fun k => if k < 6 then nI ((i + 2) + 2 * k) else -1))] := hC
        change AW l g m_AC_init (i + 1) ad0 (am_made i 14 s) (0 + 13) (0 + 72) (i + 14) σ 43 [(0, .ref i), (1, .int (nI 6))] []
        have hC := Co_swap hC
        have hC := Co_shut hC (show _ = am_I (i + 1) by
          rw [am_I_r f1 (by decide)]
          funext k
          by_cases hk : k < 6
          · rw [if_pos hk, if_pos hk, f4 k hk]
          · rw [if_neg hk, if_neg hk])
        exact am_vret d_AC_init_43 rfl (by show _ ≤ 13; omega) (by show _ ≤ 72; omega) (Co_end (Co_shut hC (am_obj f0 (fun k hk => by
    match k, hk with
    | 0, _ => simp [upd, am_z, am_fr, am_frL, f2]
    | 1, _ => rfl
    | k + 2, h => exact absurd h (by omega)) (fun k hk => by simp only [upd]; rw [if_neg (by omega)]; simp [am_z, (am_out_0 k hk).1]) am_out_0)) (by omega))
      · have hlt : j < 6 := by
          have h3 : ¬ 6 ≤ j := fun q => c ((nI_leI (a := 6) (b := j) (by omega) (by omega)).mpr q)
          omega
        have he : am_sh ((i + 2) + 2 * j) = (0, 8, 5) := (f3 j (by omega)).1
        have hF9 : F_ST ((i + 2) + 2 * j) := f3 j (by omega)
        refine am_aload_n (j := 0) d_AC_init_24 rfl rfl ?_
        refine cw_get (a := 0) (b := (i + 1)) d_AC_init_25 fl_AC_11 hg (by omega) f0 (by decide) rfl hC rfl rfl (by omega) (by omega) ?_
        refine am_iload_n (j := 1) d_AC_init_28 rfl rfl ?_
        refine cw_new (ci := 8) (N := 5) ((i + 2) + 2 * j + 1) ((0 + 1) + 2 * j + 1) ((0 + 6) + 11 * j + 5) d_AC_init_29 nw_AC_9 hg he hC (by omega) (fun q hq => by simp only [List.mem_cons, List.not_mem_nil, or_false] at hq; rcases hq with rfl | rfl <;> dsimp only <;> omega) rfl (by omega) (by omega) (by show _ ≤ 13; omega) (by show _ ≤ 72; omega) (fun σ hC => ?_)
        refine am_dup d_AC_init_32 rfl ?_
        refine cw_initN (n1 := ((i + 2) + 2 * j)) (kk9 := 2) ((i + 2) + 2 * (j + 1)) ((0 + 1) + 2 * (j + 1)) ((0 + 6) + 11 * (j + 1)) d_AC_init_33 cw_AC_init_33 rfl (ct_ST_init hg hF9 (by omega) (hC.2.2 (((i + 2) + 2 * j), am_z 8) List.mem_cons_self)) (by omega) (Nat.le_of_ble_eq_true rfl) hC (by omega) (fun q hq => by simp only [List.mem_cons, List.not_mem_nil, or_false] at hq; rcases hq with rfl | rfl <;> dsimp only <;> omega) (by omega) (by show _ + 1 = _; omega) (by show _ + 6 = _; omega) (by show _ ≤ 13; omega) (by show _ ≤ 72; omega) (fun σ hC => ?_)
        have hC := Co_swap hC
        refine cw_aast (t := 8) (N := 6) (b := ((i + 2) + 2 * j)) (ci := 8) (M := 5) (x := nI j) d_AC_init_36 hg (by omega) f1 (by decide) (vp_in_nI (by omega) (by decide)) (by omega) (by omega) he rfl hC (by omega) (fun q hq => by simp only [List.mem_cons, List.not_mem_nil, or_false] at hq; rcases hq with rfl <;> dsimp only <;> omega) (fun σ hC => ?_)
        rw [am_arr1 (by omega)] at hC
        have hC := Co_swap hC
        refine am_iinc (j := 1) (v := nI (j + 1)) (lv2 := [(1, .int (nI (j + 1))), (0, .ref i)]) d_AC_init_37 rfl (nI_1 j) (by decide) rfl ?_
        refine am_goto (tgt := 15) d_AC_init_40 (by decide) ?_
        refine am_sub [1, 0] (lv2 := [(0, .ref i), (1, .int (nI (j + 1)))]) rfl ?_
        exact ih (j + 1) (by omega) (by omega) _ hC
  exact key 7 0 (by omega) (Nat.zero_le _) σ (by rw [← am_arr0 (B := (i + 2)) (S := 2)]; exact hC)
set_option maxHeartbeats 2000000 in
theorem ct_BA_init {l : Launch} {g : am_Gl} (hg : g.2.2.2.1 = false) {s : am_M} (hz : s 1 = am_z 2) : AC l g m_BA_init 2 s [.ref 1] (am_made 1 51 s) := by
  refine am_enter ok_BA_init rfl (Nat.le_of_ble_eq_true rfl) rfl (fun ad0 => ?_)
  have hC : Co s s 1 2 [(1, am_z 2)] := Co_start hz
  refine am_aload_n (j := 0) d_BA_init_0 rfl rfl ?_
  refine am_objInit d_BA_init_1 aw_0_33 (by decide) (Nat.le_of_ble_eq_true rfl) ?_
  refine am_aload_n (j := 0) d_BA_init_4 rfl rfl ?_
  refine am_bipush (v := (24 : Int32)) d_BA_init_5 (by decide) ?_
  refine cw_newr (t := 3) (N := 24) (Cn := "ClubBase$Column") 3 (0 + 1) (0 + 24) d_BA_init_7 rfl (by decide) aw_0_34 (by decide +kernel) hg sh_2 (by decide) (by decide) (by decide) hC (by omega) (fun q hq => by simp only [List.mem_cons, List.not_mem_nil, or_false] at hq; rcases hq with rfl <;> dsimp only <;> omega) (by omega) (by omega) (by omega) (by show _ ≤ 50; omega) (by show _ ≤ 2261; omega) (fun σ hC => ?_)
  have hC := Co_swap hC
  refine cw_putR (b := 2) d_BA_init_10 fl_BA_11 ft_2_0 rfl rfl hg (by omega) sh_1 (by decide) rfl (Or.inr ⟨_, rfl⟩) (by omega) hC (by omega) (fun q hq => by simp only [List.mem_cons, List.not_mem_nil, or_false] at hq; rcases hq with rfl <;> dsimp only <;> omega) (fun σ hC => ?_)
  refine am_aload_n (j := 0) d_BA_init_13 rfl rfl ?_
  refine cw_new (ci := 3) (N := 11) 4 (0 + 2) (0 + 35) d_BA_init_14 nw_BA_9 hg sh_3 hC (by omega) (fun q hq => by simp only [List.mem_cons, List.not_mem_nil, or_false] at hq; rcases hq with rfl | rfl <;> dsimp only <;> omega) rfl (by omega) (by omega) (by show _ ≤ 50; omega) (by show _ ≤ 2261; omega) (fun σ hC => ?_)
  refine am_dup d_BA_init_17 rfl ?_
  refine cw_initN (n1 := 3) (kk9 := 1) 4 (0 + 2) (0 + 35) d_BA_init_18 cw_BA_init_18 rfl (ct_CO_init hg F_CO_3 (by omega) (hC.2.2 (3, am_z 3) List.mem_cons_self)) (by omega) (Nat.le_of_ble_eq_true rfl) hC (by omega) (fun q hq => by simp only [List.mem_cons, List.not_mem_nil, or_false] at hq; rcases hq with rfl | rfl <;> dsimp only <;> omega) (by omega) (by show _ + 0 = _; omega) (by show _ + 0 = _; omega) (by show _ ≤ 50; omega) (by show _ ≤ 2261; omega) (fun σ hC => ?_)
  refine cw_putR (b := 3) d_BA_init_21 fl_BA_18 ft_2_1 rfl rfl hg (by omega) sh_1 (by decide) rfl (Or.inl ⟨_, rfl⟩) (by omega) hC (by omega) (fun q hq => by simp only [List.mem_cons, List.not_mem_nil, or_false] at hq; rcases hq with rfl <;> dsimp only <;> omega) (fun σ hC => ?_)
  refine am_aload_n (j := 0) d_BA_init_24 rfl rfl ?_
  refine am_iconst (v := (4 : Int32)) d_BA_init_25 (by decide) ?_
  refine cw_newa (t := 0) (N := 4) 5 (0 + 3) (0 + 39) d_BA_init_26 rfl (by decide) am_acI hg sh_4 (by decide) (by decide) (by decide) hC (by omega) (fun q hq => by simp only [List.mem_cons, List.not_mem_nil, or_false] at hq; rcases hq with rfl | rfl <;> dsimp only <;> omega) (am_I_0 sh_4 (by decide) (by decide +kernel)) (by omega) (by omega) (by omega) (by show _ ≤ 50; omega) (by show _ ≤ 2261; omega) (fun σ hC => ?_)
  refine cw_putR (b := 4) d_BA_init_28 fl_BA_22 ft_2_2 rfl rfl hg (by omega) sh_1 (by decide) rfl (Or.inr ⟨_, rfl⟩) (by omega) hC (by omega) (fun q hq => by simp only [List.mem_cons, List.not_mem_nil, or_false] at hq; rcases hq with rfl <;> dsimp only <;> omega) (fun σ hC => ?_)
  refine am_aload_n (j := 0) d_BA_init_31 rfl rfl ?_
  refine am_bipush (v := (8 : Int32)) d_BA_init_32 (by decide) ?_
  refine cw_newr (t := 4) (N := 8) (Cn := "ClubBase$Rule") 6 (0 + 4) (0 + 47) d_BA_init_34 rfl (by decide) aw_0_84 (by decide +kernel) hg sh_5 (by decide) (by decide) (by decide) hC (by omega) (fun q hq => by simp only [List.mem_cons, List.not_mem_nil, or_false] at hq; rcases hq with rfl | rfl <;> dsimp only <;> omega) (by omega) (by omega) (by omega) (by show _ ≤ 50; omega) (by show _ ≤ 2261; omega) (fun σ hC => ?_)
  have hC := Co_swap hC
  refine cw_putR (b := 5) d_BA_init_37 fl_BA_28 ft_2_4 rfl rfl hg (by omega) sh_1 (by decide) rfl (Or.inr ⟨_, rfl⟩) (by omega) hC (by omega) (fun q hq => by simp only [List.mem_cons, List.not_mem_nil, or_false] at hq; rcases hq with rfl | rfl <;> dsimp only <;> omega) (fun σ hC => ?_)
  refine am_aload_n (j := 0) d_BA_init_40 rfl rfl ?_
  refine cw_new (ci := 7) (N := 6) 7 (0 + 5) (0 + 53) d_BA_init_41 nw_BA_26 hg sh_6 hC (by omega) (fun q hq => by simp only [List.mem_cons, List.not_mem_nil, or_false] at hq; rcases hq with rfl | rfl | rfl <;> dsimp only <;> omega) rfl (by omega) (by omega) (by show _ ≤ 50; omega) (by show _ ≤ 2261; omega) (fun σ hC => ?_)
  refine am_dup d_BA_init_44 rfl ?_
  refine cw_initN (n1 := 6) (kk9 := 1) 7 (0 + 5) (0 + 53) d_BA_init_45 cw_BA_init_45 rfl (ct_RU_init hg F_RU_6 (by omega) (hC.2.2 (6, am_z 7) List.mem_cons_self)) (by omega) (Nat.le_of_ble_eq_true rfl) hC (by omega) (fun q hq => by simp only [List.mem_cons, List.not_mem_nil, or_false] at hq; rcases hq with rfl | rfl | rfl <;> dsimp only <;> omega) (by omega) (by show _ + 0 = _; omega) (by show _ + 0 = _; omega) (by show _ ≤ 50; omega) (by show _ ≤ 2261; omega) (fun σ hC => ?_)
  refine cw_putR (b := 6) d_BA_init_48 fl_BA_33 ft_2_5 rfl rfl hg (by omega) sh_1 (by decide) rfl (Or.inl ⟨_, rfl⟩) (by omega) hC (by omega) (fun q hq => by simp only [List.mem_cons, List.not_mem_nil, or_false] at hq; rcases hq with rfl | rfl <;> dsimp only <;> omega) (fun σ hC => ?_)
  refine am_aload_n (j := 0) d_BA_init_51 rfl rfl ?_
  refine am_bipush (v := (24 : Int32)) d_BA_init_52 (by decide) ?_
  refine cw_newa (t := 0) (N := 24) 8 (0 + 6) (0 + 77) d_BA_init_54 rfl (by decide) am_acI hg sh_7 (by decide) (by decide) (by decide) hC (by omega) (fun q hq => by simp only [List.mem_cons, List.not_mem_nil, or_false] at hq; rcases hq with rfl | rfl | rfl <;> dsimp only <;> omega) (am_I_0 sh_7 (by decide) (by decide +kernel)) (by omega) (by omega) (by omega) (by show _ ≤ 50; omega) (by show _ ≤ 2261; omega) (fun σ hC => ?_)
  refine cw_putR (b := 7) d_BA_init_56 fl_BA_37 ft_2_7 rfl rfl hg (by omega) sh_1 (by decide) rfl (Or.inr ⟨_, rfl⟩) (by omega) hC (by omega) (fun q hq => by simp only [List.mem_cons, List.not_mem_nil, or_false] at hq; rcases hq with rfl | rfl <;> dsimp only <;> omega) (fun σ hC => ?_)
  refine am_aload_n (j := 0) d_BA_init_59 rfl rfl ?_
  refine cw_new (ci := 6) (N := 3) 9 (0 + 7) (0 + 80) d_BA_init_60 nw_BA_40 hg sh_8 hC (by omega) (fun q hq => by simp only [List.mem_cons, List.not_mem_nil, or_false] at hq; rcases hq with rfl | rfl | rfl <;> dsimp only <;> omega) rfl (by omega) (by omega) (by show _ ≤ 50; omega) (by show _ ≤ 2261; omega) (fun σ hC => ?_)
  refine am_dup d_BA_init_63 rfl ?_
  refine cw_init (n1 := 8) (kk9 := 4) 12 (0 + 10) (0 + 924) d_BA_init_64 cw_BA_init_64 rfl (ct_RO_init hg F_RO_8 (by omega) (hC.2.2 (8, am_z 6) List.mem_cons_self)) (by omega) (Nat.le_of_ble_eq_true rfl) hC (by omega) (fun q hq => by simp only [List.mem_cons, List.not_mem_nil, or_false] at hq; rcases hq with rfl | rfl | rfl <;> dsimp only <;> omega) (by omega) (by show _ + 3 = _; omega) (by show _ + 844 = _; omega) (by show _ ≤ 50; omega) (by show _ ≤ 2261; omega) (fun σ hC => ?_)
  refine cw_putR (b := 8) d_BA_init_67 fl_BA_43 ft_2_9 rfl rfl hg (by omega) sh_1 (by decide) rfl (Or.inl ⟨_, rfl⟩) (by omega) hC (by omega) (fun q hq => by simp only [List.mem_cons, List.not_mem_nil, or_false] at hq; rcases hq with rfl | rfl <;> dsimp only <;> omega) (fun σ hC => ?_)
  refine am_aload_n (j := 0) d_BA_init_70 rfl rfl ?_
  refine cw_new (ci := 6) (N := 3) 13 (0 + 11) (0 + 927) d_BA_init_71 nw_BA_40 hg sh_12 hC (by omega) (fun q hq => by simp only [List.mem_cons, List.not_mem_nil, or_false] at hq; rcases hq with rfl | rfl | rfl <;> dsimp only <;> omega) rfl (by omega) (by omega) (by show _ ≤ 50; omega) (by show _ ≤ 2261; omega) (fun σ hC => ?_)
  refine am_dup d_BA_init_74 rfl ?_
  refine cw_init (n1 := 12) (kk9 := 4) 16 (0 + 14) (0 + 1771) d_BA_init_75 cw_BA_init_75 rfl (ct_RO_init hg F_RO_12 (by omega) (hC.2.2 (12, am_z 6) List.mem_cons_self)) (by omega) (Nat.le_of_ble_eq_true rfl) hC (by omega) (fun q hq => by simp only [List.mem_cons, List.not_mem_nil, or_false] at hq; rcases hq with rfl | rfl | rfl <;> dsimp only <;> omega) (by omega) (by show _ + 3 = _; omega) (by show _ + 844 = _; omega) (by show _ ≤ 50; omega) (by show _ ≤ 2261; omega) (fun σ hC => ?_)
  refine cw_putR (b := 12) d_BA_init_78 fl_BA_47 ft_2_10 rfl rfl hg (by omega) sh_1 (by decide) rfl (Or.inl ⟨_, rfl⟩) (by omega) hC (by omega) (fun q hq => by simp only [List.mem_cons, List.not_mem_nil, or_false] at hq; rcases hq with rfl | rfl <;> dsimp only <;> omega) (fun σ hC => ?_)
  refine am_aload_n (j := 0) d_BA_init_81 rfl rfl ?_
  refine cw_new (ci := 5) (N := 4) 17 (0 + 15) (0 + 1775) d_BA_init_82 nw_BA_50 hg sh_16 hC (by omega) (fun q hq => by simp only [List.mem_cons, List.not_mem_nil, or_false] at hq; rcases hq with rfl | rfl | rfl <;> dsimp only <;> omega) rfl (by omega) (by omega) (by show _ ≤ 50; omega) (by show _ ≤ 2261; omega) (fun σ hC => ?_)
  refine am_dup d_BA_init_85 rfl ?_
  refine cw_initN (n1 := 16) (kk9 := 1) 17 (0 + 15) (0 + 1775) d_BA_init_86 cw_BA_init_86 rfl (ct_RE_init hg F_RE_16 (by omega) (hC.2.2 (16, am_z 5) List.mem_cons_self)) (by omega) (Nat.le_of_ble_eq_true rfl) hC (by omega) (fun q hq => by simp only [List.mem_cons, List.not_mem_nil, or_false] at hq; rcases hq with rfl | rfl | rfl <;> dsimp only <;> omega) (by omega) (by show _ + 0 = _; omega) (by show _ + 0 = _; omega) (by show _ ≤ 50; omega) (by show _ ≤ 2261; omega) (fun σ hC => ?_)
  refine cw_putR (b := 16) d_BA_init_89 fl_BA_53 ft_2_11 rfl rfl hg (by omega) sh_1 (by decide) rfl (Or.inl ⟨_, rfl⟩) (by omega) hC (by omega) (fun q hq => by simp only [List.mem_cons, List.not_mem_nil, or_false] at hq; rcases hq with rfl | rfl <;> dsimp only <;> omega) (fun σ hC => ?_)
  refine am_aload_n (j := 0) d_BA_init_92 rfl rfl ?_
  refine am_bipush (v := (24 : Int32)) d_BA_init_93 (by decide) ?_
  refine cw_newa (t := 1) (N := 24) 18 (0 + 16) (0 + 1799) d_BA_init_95 rfl (by decide) am_acZ hg sh_17 (by decide) (by decide) (by decide) hC (by omega) (fun q hq => by simp only [List.mem_cons, List.not_mem_nil, or_false] at hq; rcases hq with rfl | rfl | rfl <;> dsimp only <;> omega) (am_I_0 sh_17 (by decide) (by decide +kernel)) (by omega) (by omega) (by omega) (by show _ ≤ 50; omega) (by show _ ≤ 2261; omega) (fun σ hC => ?_)
  refine cw_putR (b := 17) d_BA_init_97 fl_BA_57 ft_2_13 rfl rfl hg (by omega) sh_1 (by decide) rfl (Or.inr ⟨_, rfl⟩) (by omega) hC (by omega) (fun q hq => by simp only [List.mem_cons, List.not_mem_nil, or_false] at hq; rcases hq with rfl | rfl <;> dsimp only <;> omega) (fun σ hC => ?_)
  refine am_aload_n (j := 0) d_BA_init_100 rfl rfl ?_
  refine am_bipush (v := (120 : Int32)) d_BA_init_101 (by decide) ?_
  refine cw_newa (t := 1) (N := 120) 19 (0 + 17) (0 + 1919) d_BA_init_103 rfl (by decide) am_acZ hg sh_18 (by decide) (by decide) (by decide) hC (by omega) (fun q hq => by simp only [List.mem_cons, List.not_mem_nil, or_false] at hq; rcases hq with rfl | rfl | rfl <;> dsimp only <;> omega) (am_I_0 sh_18 (by decide) (by decide +kernel)) (by omega) (by omega) (by omega) (by show _ ≤ 50; omega) (by show _ ≤ 2261; omega) (fun σ hC => ?_)
  refine cw_putR (b := 18) d_BA_init_105 fl_BA_61 ft_2_14 rfl rfl hg (by omega) sh_1 (by decide) rfl (Or.inr ⟨_, rfl⟩) (by omega) hC (by omega) (fun q hq => by simp only [List.mem_cons, List.not_mem_nil, or_false] at hq; rcases hq with rfl | rfl <;> dsimp only <;> omega) (fun σ hC => ?_)
  refine am_aload_n (j := 0) d_BA_init_108 rfl rfl ?_
  refine am_bipush (v := (30 : Int32)) d_BA_init_109 (by decide) ?_
  refine cw_newa (t := 0) (N := 30) 20 (0 + 18) (0 + 1949) d_BA_init_111 rfl (by decide) am_acI hg sh_19 (by decide) (by decide) (by decide) hC (by omega) (fun q hq => by simp only [List.mem_cons, List.not_mem_nil, or_false] at hq; rcases hq with rfl | rfl | rfl <;> dsimp only <;> omega) (am_I_0 sh_19 (by decide) (by decide +kernel)) (by omega) (by omega) (by omega) (by show _ ≤ 50; omega) (by show _ ≤ 2261; omega) (fun σ hC => ?_)
  refine cw_putR (b := 19) d_BA_init_113 fl_BA_64 ft_2_15 rfl rfl hg (by omega) sh_1 (by decide) rfl (Or.inr ⟨_, rfl⟩) (by omega) hC (by omega) (fun q hq => by simp only [List.mem_cons, List.not_mem_nil, or_false] at hq; rcases hq with rfl | rfl <;> dsimp only <;> omega) (fun σ hC => ?_)
  refine am_iconst (v := (0 : Int32)) d_BA_init_116 (by decide) ?_
  refine am_istore_n (lv2 := [(1, .int (0 : Int32)), (0, .ref 1)]) d_BA_init_117 rfl (by decide) rfl ?_
  refine am_sub [1, 0] (lv2 := [(0, .ref 1), (1, .int (nI 0))]) rfl ?_
  have key : ∀ (m j : Nat), 24 - j < m → j ≤ 24 → ∀ σ : am_M, Co s σ 1 (20 + 1 * j) [(1, (upd (upd (upd (upd (upd (upd (upd (upd (upd (upd (upd (upd (am_z 2) 0 (nI 2)) 1 (nI 3)) 2 (nI 4)) 4 (nI 5)) 5 (nI 6)) 7 (nI 7)) 9 (nI 8)) 10 (nI 12)) 11 (nI 16)) 13 (nI 17)) 14 (nI 18)) 15 (nI 19))), (5, (fun _ => -1)), (2, (fun k => if k < j then nI (20 + 1 * k) else -1))] → AW l g m_BA_init 2 ad0 (am_made 1 51 s) ((0 + 18) + 1 * j) ((0 + 1949) + 11 * j) (20 + 1 * j) σ 118 [(0, .ref 1), (1, .int (nI j))] [] := by
    intro m
    induction m with
    | zero => intro j h; omega
    | succ m ih =>
      intro j h1 h2 σ hC
      refine am_iload_n (j := 1) d_BA_init_118 rfl rfl ?_
      refine am_aload_n (j := 0) d_BA_init_119 rfl rfl ?_
      refine cw_get (a := 0) (b := 2) d_BA_init_120 fl_BA_11 hg (by omega) sh_1 (by decide) rfl hC rfl rfl (by omega) (by omega) ?_
      refine am_alen (v := nI 24) d_BA_init_123 (by omega) sh_2 (by decide) rfl ?_
      refine am_icmp_ge (tgt := 146) d_BA_init_124 (by decide) (fun c => ?_) (fun c => ?_)
      · have e : j = 24 := by
          have := (nI_leI (a := 24) (b := j) (by omega) (by omega)).mp c
          omega
        subst e
        have hC : Co s σ 1 44 [(1, (upd (upd (upd (upd (upd (upd (upd (upd (upd (upd (upd (upd (am_z 2) 0 (nI 2)) 1 (nI 3)) 2 (nI 4)) 4 (nI 5)) 5 (nI 6)) 7 (nI 7)) 9 (nI 8)) 10 (nI 12)) 11 (nI 16)) 13 (nI 17)) 14 (nI 18)) 15 (nI 19))), (5, (fun _ => -1)), (2, (fun k => if k < 24 then nI (20 + 1 * k) else -1))] := hC
        change AW l g m_BA_init 2 ad0 (am_made 1 51 s) (0 + 42) (0 + 2213) 44 σ 146 [(0, .ref 1), (1, .int (nI 24))] []
        have hC := Co_rot hC
        have hC := Co_shut hC (show _ = am_I 2 by
          rw [am_I_r sh_2 (by decide)]
          funext k
          by_cases hk : k < 24
          · rw [if_pos hk, if_pos hk]
            exact congrArg nI ((by decide +kernel : ∀ k, k < 24 → 20 + 1 * k = am_lk 2 k) k hk)
          · rw [if_neg hk, if_neg hk])
        refine am_iconst (v := (0 : Int32)) d_BA_init_146 (by decide) ?_
        refine am_istore_n (lv2 := [(1, .int (0 : Int32)), (0, .ref 1)]) d_BA_init_147 rfl (by decide) rfl ?_
        refine am_sub [1, 0] (lv2 := [(0, .ref 1), (1, .int (nI 0))]) rfl ?_
        have key : ∀ (m j : Nat), 8 - j < m → j ≤ 8 → ∀ σ : am_M, Co s σ 1 (44 + 1 * j) [(1, (upd (upd (upd (upd (upd (upd (upd (upd (upd (upd (upd (upd (am_z 2) 0 (nI 2)) 1 (nI 3)) 2 (nI 4)) 4 (nI 5)) 5 (nI 6)) 7 (nI 7)) 9 (nI 8)) 10 (nI 12)) 11 (nI 16)) 13 (nI 17)) 14 (nI 18)) 15 (nI 19))), (5, (fun k => if k < j then nI (44 + 1 * k) else -1))] → AW l g m_BA_init 2 ad0 (am_made 1 51 s) ((0 + 42) + 1 * j) ((0 + 2213) + 6 * j) (44 + 1 * j) σ 148 [(0, .ref 1), (1, .int (nI j))] [] := by
          intro m
          induction m with
          | zero => intro j h; omega
          | succ m ih =>
            intro j h1 h2 σ hC
            refine am_iload_n (j := 1) d_BA_init_148 rfl rfl ?_
            refine am_aload_n (j := 0) d_BA_init_149 rfl rfl ?_
            refine cw_get (a := 0) (b := 5) d_BA_init_150 fl_BA_28 hg (by omega) sh_1 (by decide) rfl hC rfl rfl (by omega) (by omega) ?_
            refine am_alen (v := nI 8) d_BA_init_153 (by omega) sh_5 (by decide) rfl ?_
            refine am_icmp_ge (tgt := 176) d_BA_init_154 (by decide) (fun c => ?_) (fun c => ?_)
            · have e : j = 8 := by
                have := (nI_leI (a := 8) (b := j) (by omega) (by omega)).mp c
                omega
              subst e
              have hC : Co s σ 1 52 [(1, (upd (upd (upd (upd (upd (upd (upd (upd (upd (upd (upd (upd (am_z 2) 0 (nI 2)) 1 (nI 3)) 2 (nI 4)) 4 (nI 5)) 5 (nI 6)) 7 (nI 7)) 9 (nI 8)) 10 (nI 12)) 11 (nI 16)) 13 (nI 17)) 14 (nI 18)) 15 (nI 19))), (5, (fun k => if k < 8 then nI (44 + 1 * k) else -1))] := hC
              change AW l g m_BA_init 2 ad0 (am_made 1 51 s) (0 + 50) (0 + 2261) 52 σ 176 [(0, .ref 1), (1, .int (nI 8))] []
              have hC := Co_swap hC
              have hC := Co_shut hC (show _ = am_I 5 by
                rw [am_I_r sh_5 (by decide)]
                funext k
                by_cases hk : k < 8
                · rw [if_pos hk, if_pos hk]
                  exact congrArg nI ((by decide +kernel : ∀ k, k < 8 → 44 + 1 * k = am_lk 5 k) k hk)
                · rw [if_neg hk, if_neg hk])
              exact am_vret d_BA_init_176 rfl (by show _ ≤ 50; omega) (by show _ ≤ 2261; omega) (Co_end (Co_shut hC (am_obj sh_1 (by decide +kernel) (fun k hk => by simp only [upd]; rw [if_neg (by omega), if_neg (by omega), if_neg (by omega), if_neg (by omega), if_neg (by omega), if_neg (by omega), if_neg (by omega), if_neg (by omega), if_neg (by omega), if_neg (by omega), if_neg (by omega), if_neg (by omega)]; simp [am_z, (am_out_2 k hk).1]) am_out_2)) (by omega))
            · have hlt : j < 8 := by
                have h3 : ¬ 8 ≤ j := fun q => c ((nI_leI (a := 8) (b := j) (by omega) (by omega)).mpr q)
                omega
              have he : am_sh (44 + 1 * j) = (0, 7, 6) := (by decide +kernel : ∀ j, j < 8 → am_sh (44 + 1 * j) = (0, 7, 6)) j hlt
              have hF9 : F_RU (44 + 1 * j) := he
              refine am_aload_n (j := 0) d_BA_init_157 rfl rfl ?_
              refine cw_get (a := 0) (b := 5) d_BA_init_158 fl_BA_28 hg (by omega) sh_1 (by decide) rfl hC rfl rfl (by omega) (by omega) ?_
              refine am_iload_n (j := 1) d_BA_init_161 rfl rfl ?_
              refine cw_new (ci := 7) (N := 6) (44 + 1 * j + 1) ((0 + 42) + 1 * (j + 1)) ((0 + 2213) + 6 * (j + 1)) d_BA_init_162 nw_BA_26 hg he hC (by omega) (fun q hq => by simp only [List.mem_cons, List.not_mem_nil, or_false] at hq; rcases hq with rfl | rfl <;> dsimp only <;> omega) rfl (by omega) (by omega) (by show _ ≤ 50; omega) (by show _ ≤ 2261; omega) (fun σ hC => ?_)
              refine am_dup d_BA_init_165 rfl ?_
              refine cw_initN (n1 := (44 + 1 * j)) (kk9 := 1) (44 + 1 * (j + 1)) ((0 + 42) + 1 * (j + 1)) ((0 + 2213) + 6 * (j + 1)) d_BA_init_166 cw_BA_init_166 rfl (ct_RU_init hg hF9 (by omega) (hC.2.2 ((44 + 1 * j), am_z 7) List.mem_cons_self)) (by omega) (Nat.le_of_ble_eq_true rfl) hC (by omega) (fun q hq => by simp only [List.mem_cons, List.not_mem_nil, or_false] at hq; rcases hq with rfl | rfl <;> dsimp only <;> omega) (by omega) (by show _ + 0 = _; omega) (by show _ + 0 = _; omega) (by show _ ≤ 50; omega) (by show _ ≤ 2261; omega) (fun σ hC => ?_)
              have hC := Co_swap hC
              refine cw_aast (t := 4) (N := 8) (b := (44 + 1 * j)) (ci := 7) (M := 6) (x := nI j) d_BA_init_169 hg (by omega) sh_5 (by decide) (vp_in_nI (by omega) (by decide)) (by omega) (by omega) he rfl hC (by omega) (fun q hq => by simp only [List.mem_cons, List.not_mem_nil, or_false] at hq; rcases hq with rfl <;> dsimp only <;> omega) (fun σ hC => ?_)
              rw [am_arr1 (by omega)] at hC
              have hC := Co_swap hC
              refine am_iinc (j := 1) (v := nI (j + 1)) (lv2 := [(1, .int (nI (j + 1))), (0, .ref 1)]) d_BA_init_170 rfl (nI_1 j) (by decide) rfl ?_
              refine am_goto (tgt := 148) d_BA_init_173 (by decide) ?_
              refine am_sub [1, 0] (lv2 := [(0, .ref 1), (1, .int (nI (j + 1)))]) rfl ?_
              exact ih (j + 1) (by omega) (by omega) _ hC
        exact key 9 0 (by omega) (Nat.zero_le _) σ (by rw [← am_arr0 (B := 44) (S := 1)]; exact hC)
      · have hlt : j < 24 := by
          have h3 : ¬ 24 ≤ j := fun q => c ((nI_leI (a := 24) (b := j) (by omega) (by omega)).mpr q)
          omega
        have he : am_sh (20 + 1 * j) = (0, 3, 11) := (by decide +kernel : ∀ j, j < 24 → am_sh (20 + 1 * j) = (0, 3, 11)) j hlt
        have hF9 : F_CO (20 + 1 * j) := he
        refine am_aload_n (j := 0) d_BA_init_127 rfl rfl ?_
        refine cw_get (a := 0) (b := 2) d_BA_init_128 fl_BA_11 hg (by omega) sh_1 (by decide) rfl hC rfl rfl (by omega) (by omega) ?_
        refine am_iload_n (j := 1) d_BA_init_131 rfl rfl ?_
        refine cw_new (ci := 3) (N := 11) (20 + 1 * j + 1) ((0 + 18) + 1 * (j + 1)) ((0 + 1949) + 11 * (j + 1)) d_BA_init_132 nw_BA_9 hg he hC (by omega) (fun q hq => by simp only [List.mem_cons, List.not_mem_nil, or_false] at hq; rcases hq with rfl | rfl | rfl <;> dsimp only <;> omega) rfl (by omega) (by omega) (by show _ ≤ 50; omega) (by show _ ≤ 2261; omega) (fun σ hC => ?_)
        refine am_dup d_BA_init_135 rfl ?_
        refine cw_initN (n1 := (20 + 1 * j)) (kk9 := 1) (20 + 1 * (j + 1)) ((0 + 18) + 1 * (j + 1)) ((0 + 1949) + 11 * (j + 1)) d_BA_init_136 cw_BA_init_136 rfl (ct_CO_init hg hF9 (by omega) (hC.2.2 ((20 + 1 * j), am_z 3) List.mem_cons_self)) (by omega) (Nat.le_of_ble_eq_true rfl) hC (by omega) (fun q hq => by simp only [List.mem_cons, List.not_mem_nil, or_false] at hq; rcases hq with rfl | rfl | rfl <;> dsimp only <;> omega) (by omega) (by show _ + 0 = _; omega) (by show _ + 0 = _; omega) (by show _ ≤ 50; omega) (by show _ ≤ 2261; omega) (fun σ hC => ?_)
        have hC := Co_rot hC
        refine cw_aast (t := 3) (N := 24) (b := (20 + 1 * j)) (ci := 3) (M := 11) (x := nI j) d_BA_init_139 hg (by omega) sh_2 (by decide) (vp_in_nI (by omega) (by decide)) (by omega) (by omega) he rfl hC (by omega) (fun q hq => by simp only [List.mem_cons, List.not_mem_nil, or_false] at hq; rcases hq with rfl | rfl <;> dsimp only <;> omega) (fun σ hC => ?_)
        rw [am_arr1 (by omega)] at hC
        have hC := Co_rot (Co_rot hC)
        refine am_iinc (j := 1) (v := nI (j + 1)) (lv2 := [(1, .int (nI (j + 1))), (0, .ref 1)]) d_BA_init_140 rfl (nI_1 j) (by decide) rfl ?_
        refine am_goto (tgt := 118) d_BA_init_143 (by decide) ?_
        refine am_sub [1, 0] (lv2 := [(0, .ref 1), (1, .int (nI (j + 1)))]) rfl ?_
        exact ih (j + 1) (by omega) (by omega) _ hC
  exact key 25 0 (by omega) (Nat.zero_le _) σ (by rw [← am_arr0 (B := 20) (S := 1)]; exact hC)
theorem F_QUq (j : Nat) (h : j < 8) : F_QU (67 + 7 * j) := by
  match j, h with
  | 0, _ => exact F_QU_67
  | 1, _ => exact F_QU_74
  | 2, _ => exact F_QU_81
  | 3, _ => exact F_QU_88
  | 4, _ => exact F_QU_95
  | 5, _ => exact F_QU_102
  | 6, _ => exact F_QU_109
  | 7, _ => exact F_QU_116
  | j + 8, h => exact absurd h (by omega)
theorem F_ACq (j : Nat) (h : j < 4) : F_AC (126 + 14 * j) := by
  match j, h with
  | 0, _ => exact F_AC_126
  | 1, _ => exact F_AC_140
  | 2, _ => exact F_AC_154
  | 3, _ => exact F_AC_168
  | j + 4, h => exact absurd h (by omega)
theorem F_ROq (j : Nat) (h : j < 6) : F_RO (183 + 4 * j) := by
  match j, h with
  | 0, _ => exact F_RO_183
  | 1, _ => exact F_RO_187
  | 2, _ => exact F_RO_191
  | 3, _ => exact F_RO_195
  | 4, _ => exact F_RO_199
  | 5, _ => exact F_RO_203
  | j + 6, h => exact absurd h (by omega)
set_option maxHeartbeats 2000000 in
theorem ct_AS_init {l : Launch} {g : am_Gl} (hg : g.2.2.2.1 = false) {s : am_M} (hz : s 52 = am_z 1) : AC l g m_AS_init 53 s [.ref 52, .ref 1] (am_made 52 71 s) := by
  refine am_enter ok_AS_init rfl (Nat.le_of_ble_eq_true rfl) rfl (fun ad0 => ?_)
  have hC : Co s s 52 53 [(52, am_z 1)] := Co_start hz
  refine am_aload_n (j := 0) d_AS_init_0 rfl rfl ?_
  refine am_objInit d_AS_init_1 aw_0_222 (by decide) (Nat.le_of_ble_eq_true rfl) ?_
  refine am_aload_n (j := 0) d_AS_init_4 rfl rfl ?_
  refine am_bipush (v := (8 : Int32)) d_AS_init_5 (by decide) ?_
  refine cw_newr (t := 5) (N := 8) (Cn := "ClubBase$Question") 54 (0 + 1) (0 + 8) d_AS_init_7 rfl (by decide) aw_0_223 (by decide +kernel) hg sh_53 (by decide) (by decide) (by decide) hC (by omega) (fun q hq => by simp only [List.mem_cons, List.not_mem_nil, or_false] at hq; rcases hq with rfl <;> dsimp only <;> omega) (by omega) (by omega) (by omega) (by show _ ≤ 70; omega) (by show _ ≤ 4237; omega) (fun σ hC => ?_)
  have hC := Co_swap hC
  refine cw_putR (b := 53) d_AS_init_10 fl_AS_11 ft_1_1 rfl rfl hg (by omega) sh_52 (by decide) rfl (Or.inr ⟨_, rfl⟩) (by omega) hC (by omega) (fun q hq => by simp only [List.mem_cons, List.not_mem_nil, or_false] at hq; rcases hq with rfl <;> dsimp only <;> omega) (fun σ hC => ?_)
  refine am_aload_n (j := 0) d_AS_init_13 rfl rfl ?_
  refine cw_new (ci := 4) (N := 17) 55 (0 + 2) (0 + 25) d_AS_init_14 nw_AS_9 hg sh_54 hC (by omega) (fun q hq => by simp only [List.mem_cons, List.not_mem_nil, or_false] at hq; rcases hq with rfl | rfl <;> dsimp only <;> omega) rfl (by omega) (by omega) (by show _ ≤ 70; omega) (by show _ ≤ 4237; omega) (fun σ hC => ?_)
  refine am_dup d_AS_init_17 rfl ?_
  refine cw_init (n1 := 54) (kk9 := 7) 61 (0 + 8) (0 + 157) d_AS_init_18 cw_AS_init_18 rfl (ct_QU_init hg F_QU_54 (by omega) (hC.2.2 (54, am_z 4) List.mem_cons_self)) (by omega) (Nat.le_of_ble_eq_true rfl) hC (by omega) (fun q hq => by simp only [List.mem_cons, List.not_mem_nil, or_false] at hq; rcases hq with rfl | rfl <;> dsimp only <;> omega) (by omega) (by show _ + 6 = _; omega) (by show _ + 132 = _; omega) (by show _ ≤ 70; omega) (by show _ ≤ 4237; omega) (fun σ hC => ?_)
  refine cw_putR (b := 54) d_AS_init_21 fl_AS_18 ft_1_2 rfl rfl hg (by omega) sh_52 (by decide) rfl (Or.inl ⟨_, rfl⟩) (by omega) hC (by omega) (fun q hq => by simp only [List.mem_cons, List.not_mem_nil, or_false] at hq; rcases hq with rfl <;> dsimp only <;> omega) (fun σ hC => ?_)
  refine am_aload_n (j := 0) d_AS_init_24 rfl rfl ?_
  refine am_sipush (v := (1620 : Int32)) d_AS_init_25 (by decide) ?_
  refine cw_newa (t := 0) (N := 1620) 62 (0 + 9) (0 + 1777) d_AS_init_28 rfl (by decide) am_acI hg sh_61 (by decide) (by decide) (by decide) hC (by omega) (fun q hq => by simp only [List.mem_cons, List.not_mem_nil, or_false] at hq; rcases hq with rfl | rfl <;> dsimp only <;> omega) (am_I_0 sh_61 (by decide) (by decide +kernel)) (by omega) (by omega) (by omega) (by show _ ≤ 70; omega) (by show _ ≤ 4237; omega) (fun σ hC => ?_)
  refine cw_putR (b := 61) d_AS_init_30 fl_AS_22 ft_1_6 rfl rfl hg (by omega) sh_52 (by decide) rfl (Or.inr ⟨_, rfl⟩) (by omega) hC (by omega) (fun q hq => by simp only [List.mem_cons, List.not_mem_nil, or_false] at hq; rcases hq with rfl <;> dsimp only <;> omega) (fun σ hC => ?_)
  refine am_aload_n (j := 0) d_AS_init_33 rfl rfl ?_
  refine am_sipush (v := (270 : Int32)) d_AS_init_34 (by decide) ?_
  refine cw_newa (t := 0) (N := 270) 63 (0 + 10) (0 + 2047) d_AS_init_37 rfl (by decide) am_acI hg sh_62 (by decide) (by decide) (by decide) hC (by omega) (fun q hq => by simp only [List.mem_cons, List.not_mem_nil, or_false] at hq; rcases hq with rfl | rfl <;> dsimp only <;> omega) (am_I_0 sh_62 (by decide) (by decide +kernel)) (by omega) (by omega) (by omega) (by show _ ≤ 70; omega) (by show _ ≤ 4237; omega) (fun σ hC => ?_)
  refine cw_putR (b := 62) d_AS_init_39 fl_AS_26 ft_1_7 rfl rfl hg (by omega) sh_52 (by decide) rfl (Or.inr ⟨_, rfl⟩) (by omega) hC (by omega) (fun q hq => by simp only [List.mem_cons, List.not_mem_nil, or_false] at hq; rcases hq with rfl <;> dsimp only <;> omega) (fun σ hC => ?_)
  refine am_aload_n (j := 0) d_AS_init_42 rfl rfl ?_
  refine am_bipush (v := (30 : Int32)) d_AS_init_43 (by decide) ?_
  refine cw_newa (t := 0) (N := 30) 64 (0 + 11) (0 + 2077) d_AS_init_45 rfl (by decide) am_acI hg sh_63 (by decide) (by decide) (by decide) hC (by omega) (fun q hq => by simp only [List.mem_cons, List.not_mem_nil, or_false] at hq; rcases hq with rfl | rfl <;> dsimp only <;> omega) (am_I_0 sh_63 (by decide) (by decide +kernel)) (by omega) (by omega) (by omega) (by show _ ≤ 70; omega) (by show _ ≤ 4237; omega) (fun σ hC => ?_)
  refine cw_putR (b := 63) d_AS_init_47 fl_AS_29 ft_1_8 rfl rfl hg (by omega) sh_52 (by decide) rfl (Or.inr ⟨_, rfl⟩) (by omega) hC (by omega) (fun q hq => by simp only [List.mem_cons, List.not_mem_nil, or_false] at hq; rcases hq with rfl <;> dsimp only <;> omega) (fun σ hC => ?_)
  refine am_aload_n (j := 0) d_AS_init_50 rfl rfl ?_
  refine am_bipush (v := (30 : Int32)) d_AS_init_51 (by decide) ?_
  refine cw_newa (t := 0) (N := 30) 65 (0 + 12) (0 + 2107) d_AS_init_53 rfl (by decide) am_acI hg sh_64 (by decide) (by decide) (by decide) hC (by omega) (fun q hq => by simp only [List.mem_cons, List.not_mem_nil, or_false] at hq; rcases hq with rfl | rfl <;> dsimp only <;> omega) (am_I_0 sh_64 (by decide) (by decide +kernel)) (by omega) (by omega) (by omega) (by show _ ≤ 70; omega) (by show _ ≤ 4237; omega) (fun σ hC => ?_)
  refine cw_putR (b := 64) d_AS_init_55 fl_AS_32 ft_1_9 rfl rfl hg (by omega) sh_52 (by decide) rfl (Or.inr ⟨_, rfl⟩) (by omega) hC (by omega) (fun q hq => by simp only [List.mem_cons, List.not_mem_nil, or_false] at hq; rcases hq with rfl <;> dsimp only <;> omega) (fun σ hC => ?_)
  refine am_aload_n (j := 0) d_AS_init_58 rfl rfl ?_
  refine am_sipush (v := (930 : Int32)) d_AS_init_59 (by decide) ?_
  refine cw_newa (t := 0) (N := 930) 66 (0 + 13) (0 + 3037) d_AS_init_62 rfl (by decide) am_acI hg sh_65 (by decide) (by decide) (by decide) hC (by omega) (fun q hq => by simp only [List.mem_cons, List.not_mem_nil, or_false] at hq; rcases hq with rfl | rfl <;> dsimp only <;> omega) (am_I_0 sh_65 (by decide) (by decide +kernel)) (by omega) (by omega) (by omega) (by show _ ≤ 70; omega) (by show _ ≤ 4237; omega) (fun σ hC => ?_)
  refine cw_putR (b := 65) d_AS_init_64 fl_AS_35 ft_1_10 rfl rfl hg (by omega) sh_52 (by decide) rfl (Or.inr ⟨_, rfl⟩) (by omega) hC (by omega) (fun q hq => by simp only [List.mem_cons, List.not_mem_nil, or_false] at hq; rcases hq with rfl <;> dsimp only <;> omega) (fun σ hC => ?_)
  refine am_aload_n (j := 0) d_AS_init_67 rfl rfl ?_
  refine am_bipush (v := (8 : Int32)) d_AS_init_68 (by decide) ?_
  refine cw_newa (t := 0) (N := 8) 67 (0 + 14) (0 + 3045) d_AS_init_70 rfl (by decide) am_acI hg sh_66 (by decide) (by decide) (by decide) hC (by omega) (fun q hq => by simp only [List.mem_cons, List.not_mem_nil, or_false] at hq; rcases hq with rfl | rfl <;> dsimp only <;> omega) (am_I_0 sh_66 (by decide) (by decide +kernel)) (by omega) (by omega) (by omega) (by show _ ≤ 70; omega) (by show _ ≤ 4237; omega) (fun σ hC => ?_)
  refine cw_putR (b := 66) d_AS_init_72 fl_AS_38 ft_1_11 rfl rfl hg (by omega) sh_52 (by decide) rfl (Or.inr ⟨_, rfl⟩) (by omega) hC (by omega) (fun q hq => by simp only [List.mem_cons, List.not_mem_nil, or_false] at hq; rcases hq with rfl <;> dsimp only <;> omega) (fun σ hC => ?_)
  refine am_aload_n (j := 0) d_AS_init_75 rfl rfl ?_
  refine am_aload_n (j := 1) d_AS_init_76 rfl rfl ?_
  refine cw_putR (b := 1) d_AS_init_77 fl_AS_41 ft_1_0 rfl rfl hg (by omega) sh_52 (by decide) rfl (Or.inl ⟨_, rfl⟩) (by omega) hC (by omega) (fun q hq => by simp only [List.mem_cons, List.not_mem_nil, or_false] at hq; rcases hq with rfl <;> dsimp only <;> omega) (fun σ hC => ?_)
  refine am_iconst (v := (0 : Int32)) d_AS_init_80 (by decide) ?_
  refine am_istore_n (lv2 := [(2, .int (0 : Int32)), (0, .ref 52), (1, .ref 1)]) d_AS_init_81 rfl (by decide) rfl ?_
  refine am_sub [1, 2, 0] (lv2 := [(0, .ref 52), (1, .ref 1), (2, .int (nI 0))]) rfl ?_
  have key : ∀ (m j : Nat), 8 - j < m → j ≤ 8 → ∀ σ : am_M, Co s σ 52 (67 + 7 * j) [(52, (upd (upd (upd (upd (upd (upd (upd (upd (upd (am_z 1) 1 (nI 53)) 2 (nI 54)) 6 (nI 61)) 7 (nI 62)) 8 (nI 63)) 9 (nI 64)) 10 (nI 65)) 11 (nI 66)) 0 (nI 1))), (53, (fun k => if k < j then nI (67 + 7 * k) else -1))] → AW l g m_AS_init 53 ad0 (am_made 52 71 s) ((0 + 14) + 7 * j) ((0 + 3045) + 149 * j) (67 + 7 * j) σ 82 [(0, .ref 52), (1, .ref 1), (2, .int (nI j))] [] := by
    intro m
    induction m with
    | zero => intro j h; omega
    | succ m ih =>
      intro j h1 h2 σ hC
      refine am_iload_n (j := 2) d_AS_init_82 rfl rfl ?_
      refine am_aload_n (j := 0) d_AS_init_83 rfl rfl ?_
      refine cw_get (a := 0) (b := 53) d_AS_init_84 fl_AS_11 hg (by omega) sh_52 (by decide) rfl hC rfl rfl (by omega) (by omega) ?_
      refine am_alen (v := nI 8) d_AS_init_87 (by omega) sh_53 (by decide) rfl ?_
      refine am_icmp_ge (tgt := 110) d_AS_init_88 (by decide) (fun c => ?_) (fun c => ?_)
      · have e : j = 8 := by
          have := (nI_leI (a := 8) (b := j) (by omega) (by omega)).mp c
          omega
        subst e
        have hC : Co s σ 52 123 [(52, (upd (upd (upd (upd (upd (upd (upd (upd (upd (am_z 1) 1 (nI 53)) 2 (nI 54)) 6 (nI 61)) 7 (nI 62)) 8 (nI 63)) 9 (nI 64)) 10 (nI 65)) 11 (nI 66)) 0 (nI 1))), (53, (fun k => if k < 8 then nI (67 + 7 * k) else -1))] := hC
        change AW l g m_AS_init 53 ad0 (am_made 52 71 s) (0 + 70) (0 + 4237) 123 σ 110 [(0, .ref 52), (1, .ref 1), (2, .int (nI 8))] []
        have hC := Co_swap hC
        have hC := Co_shut hC (show _ = am_I 53 by
          rw [am_I_r sh_53 (by decide)]
          funext k
          by_cases hk : k < 8
          · rw [if_pos hk, if_pos hk]
            exact congrArg nI ((by decide +kernel : ∀ k, k < 8 → 67 + 7 * k = am_lk 53 k) k hk)
          · rw [if_neg hk, if_neg hk])
        exact am_vret d_AS_init_110 rfl (by show _ ≤ 70; omega) (by show _ ≤ 4237; omega) (Co_end (Co_shut hC (am_obj sh_52 (by decide +kernel) (fun k hk => by simp only [upd]; rw [if_neg (by omega), if_neg (by omega), if_neg (by omega), if_neg (by omega), if_neg (by omega), if_neg (by omega), if_neg (by omega), if_neg (by omega), if_neg (by omega)]; simp [am_z, (am_out_1 k hk).1]) am_out_1)) (by omega))
      · have hlt : j < 8 := by
          have h3 : ¬ 8 ≤ j := fun q => c ((nI_leI (a := 8) (b := j) (by omega) (by omega)).mpr q)
          omega
        have he : am_sh (67 + 7 * j) = (0, 4, 17) := (F_QUq j hlt).1
        have hF9 : F_QU (67 + 7 * j) := F_QUq j hlt
        refine am_aload_n (j := 0) d_AS_init_91 rfl rfl ?_
        refine cw_get (a := 0) (b := 53) d_AS_init_92 fl_AS_11 hg (by omega) sh_52 (by decide) rfl hC rfl rfl (by omega) (by omega) ?_
        refine am_iload_n (j := 2) d_AS_init_95 rfl rfl ?_
        refine cw_new (ci := 4) (N := 17) (67 + 7 * j + 1) ((0 + 14) + 7 * j + 1) ((0 + 3045) + 149 * j + 17) d_AS_init_96 nw_AS_9 hg he hC (by omega) (fun q hq => by simp only [List.mem_cons, List.not_mem_nil, or_false] at hq; rcases hq with rfl | rfl <;> dsimp only <;> omega) rfl (by omega) (by omega) (by show _ ≤ 70; omega) (by show _ ≤ 4237; omega) (fun σ hC => ?_)
        refine am_dup d_AS_init_99 rfl ?_
        refine cw_init (n1 := (67 + 7 * j)) (kk9 := 7) (67 + 7 * (j + 1)) ((0 + 14) + 7 * (j + 1)) ((0 + 3045) + 149 * (j + 1)) d_AS_init_100 cw_AS_init_100 rfl (ct_QU_init hg hF9 (by omega) (hC.2.2 ((67 + 7 * j), am_z 4) List.mem_cons_self)) (by omega) (Nat.le_of_ble_eq_true rfl) hC (by omega) (fun q hq => by simp only [List.mem_cons, List.not_mem_nil, or_false] at hq; rcases hq with rfl | rfl <;> dsimp only <;> omega) (by omega) (by show _ + 6 = _; omega) (by show _ + 132 = _; omega) (by show _ ≤ 70; omega) (by show _ ≤ 4237; omega) (fun σ hC => ?_)
        have hC := Co_swap hC
        refine cw_aast (t := 5) (N := 8) (b := (67 + 7 * j)) (ci := 4) (M := 17) (x := nI j) d_AS_init_103 hg (by omega) sh_53 (by decide) (vp_in_nI (by omega) (by decide)) (by omega) (by omega) he rfl hC (by omega) (fun q hq => by simp only [List.mem_cons, List.not_mem_nil, or_false] at hq; rcases hq with rfl <;> dsimp only <;> omega) (fun σ hC => ?_)
        rw [am_arr1 (by omega)] at hC
        have hC := Co_swap hC
        refine am_iinc (j := 2) (v := nI (j + 1)) (lv2 := [(2, .int (nI (j + 1))), (0, .ref 52), (1, .ref 1)]) d_AS_init_104 rfl (nI_1 j) (by decide) rfl ?_
        refine am_goto (tgt := 82) d_AS_init_107 (by decide) ?_
        refine am_sub [1, 2, 0] (lv2 := [(0, .ref 52), (1, .ref 1), (2, .int (nI (j + 1)))]) rfl ?_
        exact ih (j + 1) (by omega) (by omega) _ hC
  exact key 9 0 (by omega) (Nat.zero_le _) σ (by rw [← am_arr0 (B := 67) (S := 7)]; exact hC)
set_option maxHeartbeats 2000000 in
theorem ct_CB_init {l : Launch} {g : am_Gl} (hg : g.2.2.2.1 = false) {s : am_M} (hz : s 0 = am_z 9) : AC l g m_CB_init 1 s [.ref 0] (am_made 0 207 s) := by
  refine am_enter ok_CB_init rfl (Nat.le_of_ble_eq_true rfl) rfl (fun ad0 => ?_)
  have hC : Co s s 0 1 [(0, am_z 9)] := Co_start hz
  refine am_aload_n (j := 0) d_CB_init_0 rfl rfl ?_
  refine am_objInit d_CB_init_1 aw_0_25 (by decide) (Nat.le_of_ble_eq_true rfl) ?_
  refine am_aload_n (j := 0) d_CB_init_4 rfl rfl ?_
  refine cw_new (ci := 2) (N := 16) 2 (0 + 1) (0 + 16) d_CB_init_5 nw_CB_9 hg sh_1 hC (by omega) (fun q hq => by simp only [List.mem_cons, List.not_mem_nil, or_false] at hq; rcases hq with rfl <;> dsimp only <;> omega) rfl (by omega) (by omega) (by show _ ≤ 206; omega) (by show _ ≤ 11924; omega) (fun σ hC => ?_)
  refine am_dup d_CB_init_8 rfl ?_
  refine cw_init (n1 := 1) (kk9 := 51) 52 (0 + 51) (0 + 2277) d_CB_init_9 cw_CB_init_9 rfl (ct_BA_init hg (hC.2.2 (1, am_z 2) List.mem_cons_self)) (by omega) (Nat.le_of_ble_eq_true rfl) hC (by omega) (fun q hq => by simp only [List.mem_cons, List.not_mem_nil, or_false] at hq; rcases hq with rfl <;> dsimp only <;> omega) (by omega) (by show _ + 50 = _; omega) (by show _ + 2261 = _; omega) (by show _ ≤ 206; omega) (by show _ ≤ 11924; omega) (fun σ hC => ?_)
  refine cw_putR (b := 1) d_CB_init_12 fl_CB_12 ft_9_0 rfl rfl hg (by omega) sh_0 (by decide) rfl (Or.inl ⟨_, rfl⟩) (by omega) hC (by omega) (fun q hq => by cases hq) (fun σ hC => ?_)
  refine am_aload_n (j := 0) d_CB_init_15 rfl rfl ?_
  refine cw_new (ci := 1) (N := 12) 53 (0 + 52) (0 + 2289) d_CB_init_16 nw_CB_16 hg sh_52 hC (by omega) (fun q hq => by simp only [List.mem_cons, List.not_mem_nil, or_false] at hq; rcases hq with rfl <;> dsimp only <;> omega) rfl (by omega) (by omega) (by show _ ≤ 206; omega) (by show _ ≤ 11924; omega) (fun σ hC => ?_)
  refine am_dup d_CB_init_19 rfl ?_
  refine am_aload_n (j := 0) d_CB_init_20 rfl rfl ?_
  refine cw_get (a := 1) (b := 1) d_CB_init_21 fl_CB_12 hg (by omega) sh_0 (by decide) rfl hC rfl rfl (by omega) (by omega) ?_
  refine cw_initA (n1 := 52) (kk9 := 71) 123 (0 + 122) (0 + 6526) d_CB_init_24 cw_CB_init_24 rfl (ct_AS_init hg (hC.2.2 (52, am_z 1) List.mem_cons_self)) (by omega) (Nat.le_of_ble_eq_true rfl) hC (by omega) (fun q hq => by simp only [List.mem_cons, List.not_mem_nil, or_false] at hq; rcases hq with rfl <;> dsimp only <;> omega) (by omega) (by show _ + 70 = _; omega) (by show _ + 4237 = _; omega) (by show _ ≤ 206; omega) (by show _ ≤ 11924; omega) (fun σ hC => ?_)
  refine cw_putR (b := 52) d_CB_init_27 fl_CB_21 ft_9_1 rfl rfl hg (by omega) sh_0 (by decide) rfl (Or.inl ⟨_, rfl⟩) (by omega) hC (by omega) (fun q hq => by cases hq) (fun σ hC => ?_)
  refine am_aload_n (j := 0) d_CB_init_30 rfl rfl ?_
  refine cw_new (ci := 5) (N := 4) 124 (0 + 123) (0 + 6530) d_CB_init_31 nw_CB_25 hg sh_123 hC (by omega) (fun q hq => by simp only [List.mem_cons, List.not_mem_nil, or_false] at hq; rcases hq with rfl <;> dsimp only <;> omega) rfl (by omega) (by omega) (by show _ ≤ 206; omega) (by show _ ≤ 11924; omega) (fun σ hC => ?_)
  refine am_dup d_CB_init_34 rfl ?_
  refine cw_initN (n1 := 123) (kk9 := 1) 124 (0 + 123) (0 + 6530) d_CB_init_35 cw_CB_init_35 rfl (ct_RE_init hg F_RE_123 (by omega) (hC.2.2 (123, am_z 5) List.mem_cons_self)) (by omega) (Nat.le_of_ble_eq_true rfl) hC (by omega) (fun q hq => by simp only [List.mem_cons, List.not_mem_nil, or_false] at hq; rcases hq with rfl <;> dsimp only <;> omega) (by omega) (by show _ + 0 = _; omega) (by show _ + 0 = _; omega) (by show _ ≤ 206; omega) (by show _ ≤ 11924; omega) (fun σ hC => ?_)
  refine cw_putR (b := 123) d_CB_init_38 fl_CB_28 ft_9_2 rfl rfl hg (by omega) sh_0 (by decide) rfl (Or.inl ⟨_, rfl⟩) (by omega) hC (by omega) (fun q hq => by cases hq) (fun σ hC => ?_)
  refine am_aload_n (j := 0) d_CB_init_41 rfl rfl ?_
  refine am_bipush (v := (6 : Int32)) d_CB_init_42 (by decide) ?_
  refine cw_newaO (t := 0) (N := 6) 125 (0 + 124) (0 + 6536) d_CB_init_44 rfl (by decide) am_acI hg sh_124 (by decide) (by decide) (by decide) hC (by omega) (fun q hq => by simp only [List.mem_cons, List.not_mem_nil, or_false] at hq; rcases hq with rfl <;> dsimp only <;> omega) (by omega) (by omega) (by omega) (by show _ ≤ 206; omega) (by show _ ≤ 11924; omega) (fun σ hC => ?_)
  have hC := Co_swap hC
  refine cw_putR (b := 124) d_CB_init_46 fl_CB_32 ft_9_3 rfl rfl hg (by omega) sh_0 (by decide) rfl (Or.inr ⟨_, rfl⟩) (by omega) hC (by omega) (fun q hq => by simp only [List.mem_cons, List.not_mem_nil, or_false] at hq; rcases hq with rfl <;> dsimp only <;> omega) (fun σ hC => ?_)
  refine am_aload_n (j := 0) d_CB_init_49 rfl rfl ?_
  refine cw_get (a := 0) (b := 124) d_CB_init_50 fl_CB_32 hg (by omega) sh_0 (by decide) rfl hC rfl rfl (by omega) (by omega) ?_
  refine am_ldc (v := (-1000000 : Int32)) d_CB_init_53 aw_1_99 ?_
  have hC := Co_swap hC
  refine cw_fill (N := 6) (na := 0) d_CB_init_55 cw_CB_init_55 (by omega) sh_124 (by decide) (Nat.le_of_ble_eq_true rfl) (by show _ ≤ 206; omega) (by show _ ≤ 11924; omega) hC (by omega) (fun q hq => by simp only [List.mem_cons, List.not_mem_nil, or_false] at hq; rcases hq with rfl <;> dsimp only <;> omega) (fun σ hC => ?_)
  have hC := Co_shut hC ((am_I_s (M := 6) (v := -1000000) sh_124 (by decide) (by decide +kernel) : am_I 124 = _).trans rfl).symm
  refine am_aload_n (j := 0) d_CB_init_58 rfl rfl ?_
  refine am_iconst (v := (4 : Int32)) d_CB_init_59 (by decide) ?_
  refine cw_newr (t := 6) (N := 4) (Cn := "ClubBase$Act") 126 (0 + 125) (0 + 6540) d_CB_init_60 rfl (by decide) aw_1_101 (by decide +kernel) hg sh_125 (by decide) (by decide) (by decide) hC (by omega) (fun q hq => by simp only [List.mem_cons, List.not_mem_nil, or_false] at hq; rcases hq with rfl <;> dsimp only <;> omega) (by omega) (by omega) (by omega) (by show _ ≤ 206; omega) (by show _ ≤ 11924; omega) (fun σ hC => ?_)
  have hC := Co_swap hC
  refine cw_putR (b := 125) d_CB_init_63 fl_CB_45 ft_9_4 rfl rfl hg (by omega) sh_0 (by decide) rfl (Or.inr ⟨_, rfl⟩) (by omega) hC (by omega) (fun q hq => by simp only [List.mem_cons, List.not_mem_nil, or_false] at hq; rcases hq with rfl <;> dsimp only <;> omega) (fun σ hC => ?_)
  refine am_iconst (v := (0 : Int32)) d_CB_init_66 (by decide) ?_
  refine am_istore_n (lv2 := [(1, .int (0 : Int32)), (0, .ref 0)]) d_CB_init_67 rfl (by decide) rfl ?_
  refine am_sub [1, 0] (lv2 := [(0, .ref 0), (1, .int (nI 0))]) rfl ?_
  have key : ∀ (m j : Nat), 4 - j < m → j ≤ 4 → ∀ σ : am_M, Co s σ 0 (126 + 14 * j) [(0, (upd (upd (upd (upd (upd (am_z 9) 0 (nI 1)) 1 (nI 52)) 2 (nI 123)) 3 (nI 124)) 4 (nI 125))), (125, (fun k => if k < j then nI (126 + 14 * k) else -1))] → AW l g m_CB_init 1 ad0 (am_made 0 207 s) ((0 + 125) + 14 * j) ((0 + 6540) + 74 * j) (126 + 14 * j) σ 68 [(0, .ref 0), (1, .int (nI j))] [] := by
    intro m
    induction m with
    | zero => intro j h; omega
    | succ m ih =>
      intro j h1 h2 σ hC
      refine am_iload_n (j := 1) d_CB_init_68 rfl rfl ?_
      refine am_iconst (v := (4 : Int32)) d_CB_init_69 (by decide) ?_
      refine am_icmp_ge (tgt := 92) d_CB_init_70 (by decide) (fun c => ?_) (fun c => ?_)
      · have e : j = 4 := by
          have := (nI_leI (a := 4) (b := j) (by omega) (by omega)).mp c
          omega
        subst e
        have hC : Co s σ 0 182 [(0, (upd (upd (upd (upd (upd (am_z 9) 0 (nI 1)) 1 (nI 52)) 2 (nI 123)) 3 (nI 124)) 4 (nI 125))), (125, (fun k => if k < 4 then nI (126 + 14 * k) else -1))] := hC
        change AW l g m_CB_init 1 ad0 (am_made 0 207 s) (0 + 181) (0 + 6836) 182 σ 92 [(0, .ref 0), (1, .int (nI 4))] []
        have hC := Co_swap hC
        have hC := Co_shut hC (show _ = am_I 125 by
          rw [am_I_r sh_125 (by decide)]
          funext k
          by_cases hk : k < 4
          · rw [if_pos hk, if_pos hk]
            exact congrArg nI ((by decide +kernel : ∀ k, k < 4 → 126 + 14 * k = am_lk 125 k) k hk)
          · rw [if_neg hk, if_neg hk])
        refine am_aload_n (j := 0) d_CB_init_92 rfl rfl ?_
        refine am_bipush (v := (6 : Int32)) d_CB_init_93 (by decide) ?_
        refine cw_newr (t := 7) (N := 6) (Cn := "ClubBase$Rows") 183 (0 + 182) (0 + 6842) d_CB_init_95 rfl (by decide) aw_1_146 (by decide +kernel) hg sh_182 (by decide) (by decide) (by decide) hC (by omega) (fun q hq => by simp only [List.mem_cons, List.not_mem_nil, or_false] at hq; rcases hq with rfl <;> dsimp only <;> omega) (by omega) (by omega) (by omega) (by show _ ≤ 206; omega) (by show _ ≤ 11924; omega) (fun σ hC => ?_)
        have hC := Co_swap hC
        refine cw_putR (b := 182) d_CB_init_98 fl_CB_52 ft_9_6 rfl rfl hg (by omega) sh_0 (by decide) rfl (Or.inr ⟨_, rfl⟩) (by omega) hC (by omega) (fun q hq => by simp only [List.mem_cons, List.not_mem_nil, or_false] at hq; rcases hq with rfl <;> dsimp only <;> omega) (fun σ hC => ?_)
        refine am_iconst (v := (0 : Int32)) d_CB_init_101 (by decide) ?_
        refine am_istore_n (lv2 := [(1, .int (0 : Int32)), (0, .ref 0)]) d_CB_init_102 rfl (by decide) rfl ?_
        refine am_sub [1, 0] (lv2 := [(0, .ref 0), (1, .int (nI 0))]) rfl ?_
        have key : ∀ (m j : Nat), 6 - j < m → j ≤ 6 → ∀ σ : am_M, Co s σ 0 (183 + 4 * j) [(0, (upd (upd (upd (upd (upd (upd (am_z 9) 0 (nI 1)) 1 (nI 52)) 2 (nI 123)) 3 (nI 124)) 4 (nI 125)) 6 (nI 182))), (182, (fun k => if k < j then nI (183 + 4 * k) else -1))] → AW l g m_CB_init 1 ad0 (am_made 0 207 s) ((0 + 182) + 4 * j) ((0 + 6842) + 847 * j) (183 + 4 * j) σ 103 [(0, .ref 0), (1, .int (nI j))] [] := by
          intro m
          induction m with
          | zero => intro j h; omega
          | succ m ih =>
            intro j h1 h2 σ hC
            refine am_iload_n (j := 1) d_CB_init_103 rfl rfl ?_
            refine am_aload_n (j := 0) d_CB_init_104 rfl rfl ?_
            refine cw_get (a := 0) (b := 182) d_CB_init_105 fl_CB_52 hg (by omega) sh_0 (by decide) rfl hC rfl rfl (by omega) (by omega) ?_
            refine am_alen (v := nI 6) d_CB_init_108 (by omega) sh_182 (by decide) rfl ?_
            refine am_icmp_ge (tgt := 131) d_CB_init_109 (by decide) (fun c => ?_) (fun c => ?_)
            · have e : j = 6 := by
                have := (nI_leI (a := 6) (b := j) (by omega) (by omega)).mp c
                omega
              subst e
              have hC : Co s σ 0 207 [(0, (upd (upd (upd (upd (upd (upd (am_z 9) 0 (nI 1)) 1 (nI 52)) 2 (nI 123)) 3 (nI 124)) 4 (nI 125)) 6 (nI 182))), (182, (fun k => if k < 6 then nI (183 + 4 * k) else -1))] := hC
              change AW l g m_CB_init 1 ad0 (am_made 0 207 s) (0 + 206) (0 + 11924) 207 σ 131 [(0, .ref 0), (1, .int (nI 6))] []
              have hC := Co_swap hC
              have hC := Co_shut hC (show _ = am_I 182 by
                rw [am_I_r sh_182 (by decide)]
                funext k
                by_cases hk : k < 6
                · rw [if_pos hk, if_pos hk]
                  exact congrArg nI ((by decide +kernel : ∀ k, k < 6 → 183 + 4 * k = am_lk 182 k) k hk)
                · rw [if_neg hk, if_neg hk])
              refine am_aload_n (j := 0) d_CB_init_131 rfl rfl ?_
              refine am_iconst (v := (-1 : Int32)) d_CB_init_132 (by decide) ?_
              refine cw_putI d_CB_init_133 fl_CB_57 ft_9_8 (by omega) sh_0 (by decide) rfl hC (by omega) (fun q hq => by cases hq) (fun σ hC => ?_)
              exact am_vret d_CB_init_136 rfl (by show _ ≤ 206; omega) (by show _ ≤ 11924; omega) (Co_end (Co_shut hC (am_obj sh_0 (by decide +kernel) (fun k hk => by simp only [upd]; rw [if_neg (by omega), if_neg (by omega), if_neg (by omega), if_neg (by omega), if_neg (by omega), if_neg (by omega), if_neg (by omega)]; simp [am_z, (am_out_9 k hk).1]) am_out_9)) (by omega))
            · have hlt : j < 6 := by
                have h3 : ¬ 6 ≤ j := fun q => c ((nI_leI (a := 6) (b := j) (by omega) (by omega)).mpr q)
                omega
              have he : am_sh (183 + 4 * j) = (0, 6, 3) := (F_ROq j hlt).1
              have hF9 : F_RO (183 + 4 * j) := F_ROq j hlt
              refine am_aload_n (j := 0) d_CB_init_112 rfl rfl ?_
              refine cw_get (a := 0) (b := 182) d_CB_init_113 fl_CB_52 hg (by omega) sh_0 (by decide) rfl hC rfl rfl (by omega) (by omega) ?_
              refine am_iload_n (j := 1) d_CB_init_116 rfl rfl ?_
              refine cw_new (ci := 6) (N := 3) (183 + 4 * j + 1) ((0 + 182) + 4 * j + 1) ((0 + 6842) + 847 * j + 3) d_CB_init_117 nw_CB_50 hg he hC (by omega) (fun q hq => by simp only [List.mem_cons, List.not_mem_nil, or_false] at hq; rcases hq with rfl | rfl <;> dsimp only <;> omega) rfl (by omega) (by omega) (by show _ ≤ 206; omega) (by show _ ≤ 11924; omega) (fun σ hC => ?_)
              refine am_dup d_CB_init_120 rfl ?_
              refine cw_init (n1 := (183 + 4 * j)) (kk9 := 4) (183 + 4 * (j + 1)) ((0 + 182) + 4 * (j + 1)) ((0 + 6842) + 847 * (j + 1)) d_CB_init_121 cw_CB_init_121 rfl (ct_RO_init hg hF9 (by omega) (hC.2.2 ((183 + 4 * j), am_z 6) List.mem_cons_self)) (by omega) (Nat.le_of_ble_eq_true rfl) hC (by omega) (fun q hq => by simp only [List.mem_cons, List.not_mem_nil, or_false] at hq; rcases hq with rfl | rfl <;> dsimp only <;> omega) (by omega) (by show _ + 3 = _; omega) (by show _ + 844 = _; omega) (by show _ ≤ 206; omega) (by show _ ≤ 11924; omega) (fun σ hC => ?_)
              have hC := Co_swap hC
              refine cw_aast (t := 7) (N := 6) (b := (183 + 4 * j)) (ci := 6) (M := 3) (x := nI j) d_CB_init_124 hg (by omega) sh_182 (by decide) (vp_in_nI (by omega) (by decide)) (by omega) (by omega) he rfl hC (by omega) (fun q hq => by simp only [List.mem_cons, List.not_mem_nil, or_false] at hq; rcases hq with rfl <;> dsimp only <;> omega) (fun σ hC => ?_)
              rw [am_arr1 (by omega)] at hC
              have hC := Co_swap hC
              refine am_iinc (j := 1) (v := nI (j + 1)) (lv2 := [(1, .int (nI (j + 1))), (0, .ref 0)]) d_CB_init_125 rfl (nI_1 j) (by decide) rfl ?_
              refine am_goto (tgt := 103) d_CB_init_128 (by decide) ?_
              refine am_sub [1, 0] (lv2 := [(0, .ref 0), (1, .int (nI (j + 1)))]) rfl ?_
              exact ih (j + 1) (by omega) (by omega) _ hC
        exact key 7 0 (by omega) (Nat.zero_le _) σ (by rw [← am_arr0 (B := 183) (S := 4)]; exact hC)
      · have hlt : j < 4 := by
          have h3 : ¬ 4 ≤ j := fun q => c ((nI_leI (a := 4) (b := j) (by omega) (by omega)).mpr q)
          omega
        have he : am_sh (126 + 14 * j) = (0, 0, 2) := (F_ACq j hlt).1
        have hF9 : F_AC (126 + 14 * j) := F_ACq j hlt
        refine am_aload_n (j := 0) d_CB_init_73 rfl rfl ?_
        refine cw_get (a := 0) (b := 125) d_CB_init_74 fl_CB_45 hg (by omega) sh_0 (by decide) rfl hC rfl rfl (by omega) (by omega) ?_
        refine am_iload_n (j := 1) d_CB_init_77 rfl rfl ?_
        refine cw_new (ci := 0) (N := 2) (126 + 14 * j + 1) ((0 + 125) + 14 * j + 1) ((0 + 6540) + 74 * j + 2) d_CB_init_78 nw_CB_43 hg he hC (by omega) (fun q hq => by simp only [List.mem_cons, List.not_mem_nil, or_false] at hq; rcases hq with rfl | rfl <;> dsimp only <;> omega) rfl (by omega) (by omega) (by show _ ≤ 206; omega) (by show _ ≤ 11924; omega) (fun σ hC => ?_)
        refine am_dup d_CB_init_81 rfl ?_
        refine cw_init (n1 := (126 + 14 * j)) (kk9 := 14) (126 + 14 * (j + 1)) ((0 + 125) + 14 * (j + 1)) ((0 + 6540) + 74 * (j + 1)) d_CB_init_82 cw_CB_init_82 rfl (ct_AC_init hg hF9 (by omega) (hC.2.2 ((126 + 14 * j), am_z 0) List.mem_cons_self)) (by omega) (Nat.le_of_ble_eq_true rfl) hC (by omega) (fun q hq => by simp only [List.mem_cons, List.not_mem_nil, or_false] at hq; rcases hq with rfl | rfl <;> dsimp only <;> omega) (by omega) (by show _ + 13 = _; omega) (by show _ + 72 = _; omega) (by show _ ≤ 206; omega) (by show _ ≤ 11924; omega) (fun σ hC => ?_)
        have hC := Co_swap hC
        refine cw_aast (t := 6) (N := 4) (b := (126 + 14 * j)) (ci := 0) (M := 2) (x := nI j) d_CB_init_85 hg (by omega) sh_125 (by decide) (vp_in_nI (by omega) (by decide)) (by omega) (by omega) he rfl hC (by omega) (fun q hq => by simp only [List.mem_cons, List.not_mem_nil, or_false] at hq; rcases hq with rfl <;> dsimp only <;> omega) (fun σ hC => ?_)
        rw [am_arr1 (by omega)] at hC
        have hC := Co_swap hC
        refine am_iinc (j := 1) (v := nI (j + 1)) (lv2 := [(1, .int (nI (j + 1))), (0, .ref 0)]) d_CB_init_86 rfl (nI_1 j) (by decide) rfl ?_
        refine am_goto (tgt := 68) d_CB_init_89 (by decide) ?_
        refine am_sub [1, 0] (lv2 := [(0, .ref 0), (1, .int (nI (j + 1)))]) rfl ?_
        exact ih (j + 1) (by omega) (by omega) _ hC
  exact key 5 0 (by omega) (Nat.zero_le _) σ (by rw [← am_arr0 (B := 126) (S := 14)]; exact hC)
