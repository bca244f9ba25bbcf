/-! the layout: the Towns, Nights, the Rules, the Ledgers -/
theorem Ltw_4 {h : HP} (L : Lay h) : TwS h 4 := ⟨Lk L K_4, ⟨Lr L R_4_5, Lr L R_4_6, Lr L R_4_7, Lr L R_4_8, Lr L R_4_9, Lr L R_4_10, Lr L R_4_11, Lr L R_4_12⟩, ⟨Lk L K_5, Lk L K_6, Lk L K_7, Lk L K_8, Lk L K_9, Lk L K_10, Lk L K_11, Lk L K_12⟩, ⟨Ln L N_5, Ln L N_6, Ln L N_7, Ln L N_8, Ln L N_9, Ln L N_10, Ln L N_11, Ln L N_12⟩⟩
theorem Ltw_13 {h : HP} (L : Lay h) : TwS h 13 := ⟨Lk L K_13, ⟨Lr L R_13_5, Lr L R_13_6, Lr L R_13_7, Lr L R_13_8, Lr L R_13_9, Lr L R_13_10, Lr L R_13_11, Lr L R_13_12⟩, ⟨Lk L K_14, Lk L K_15, Lk L K_16, Lk L K_17, Lk L K_18, Lk L K_19, Lk L K_20, Lk L K_21⟩, ⟨Ln L N_14, Ln L N_15, Ln L N_16, Ln L N_17, Ln L N_18, Ln L N_19, Ln L N_20, Ln L N_21⟩⟩
theorem Ltw_30 {h : HP} (L : Lay h) : TwS h 30 := ⟨Lk L K_30, ⟨Lr L R_30_5, Lr L R_30_6, Lr L R_30_7, Lr L R_30_8, Lr L R_30_9, Lr L R_30_10, Lr L R_30_11, Lr L R_30_12⟩, ⟨Lk L K_31, Lk L K_32, Lk L K_33, Lk L K_34, Lk L K_35, Lk L K_36, Lk L K_37, Lk L K_38⟩, ⟨Ln L N_31, Ln L N_32, Ln L N_33, Ln L N_34, Ln L N_35, Ln L N_36, Ln L N_37, Ln L N_38⟩⟩
theorem Ltw_47 {h : HP} (L : Lay h) : TwS h 47 := ⟨Lk L K_47, ⟨Lr L R_47_5, Lr L R_47_6, Lr L R_47_7, Lr L R_47_8, Lr L R_47_9, Lr L R_47_10, Lr L R_47_11, Lr L R_47_12⟩, ⟨Lk L K_48, Lk L K_49, Lk L K_50, Lk L K_51, Lk L K_52, Lk L K_53, Lk L K_54, Lk L K_55⟩, ⟨Ln L N_48, Ln L N_49, Ln L N_50, Ln L N_51, Ln L N_52, Ln L N_53, Ln L N_54, Ln L N_55⟩⟩
theorem Ltw_68 {h : HP} (L : Lay h) : TwS h 68 := ⟨Lk L K_68, ⟨Lr L R_68_5, Lr L R_68_6, Lr L R_68_7, Lr L R_68_8, Lr L R_68_9, Lr L R_68_10, Lr L R_68_11, Lr L R_68_12⟩, ⟨Lk L K_69, Lk L K_70, Lk L K_71, Lk L K_72, Lk L K_73, Lk L K_74, Lk L K_75, Lk L K_76⟩, ⟨Ln L N_69, Ln L N_70, Ln L N_71, Ln L N_72, Ln L N_73, Ln L N_74, Ln L N_75, Ln L N_76⟩⟩
theorem Ltw_77 {h : HP} (L : Lay h) : TwS h 77 := ⟨Lk L K_77, ⟨Lr L R_77_5, Lr L R_77_6, Lr L R_77_7, Lr L R_77_8, Lr L R_77_9, Lr L R_77_10, Lr L R_77_11, Lr L R_77_12⟩, ⟨Lk L K_78, Lk L K_79, Lk L K_80, Lk L K_81, Lk L K_82, Lk L K_83, Lk L K_84, Lk L K_85⟩, ⟨Ln L N_78, Ln L N_79, Ln L N_80, Ln L N_81, Ln L N_82, Ln L N_83, Ln L N_84, Ln L N_85⟩⟩
theorem Ltw_86 {h : HP} (L : Lay h) : TwS h 86 := ⟨Lk L K_86, ⟨Lr L R_86_5, Lr L R_86_6, Lr L R_86_7, Lr L R_86_8, Lr L R_86_9, Lr L R_86_10, Lr L R_86_11, Lr L R_86_12⟩, ⟨Lk L K_87, Lk L K_88, Lk L K_89, Lk L K_90, Lk L K_91, Lk L K_92, Lk L K_93, Lk L K_94⟩, ⟨Ln L N_87, Ln L N_88, Ln L N_89, Ln L N_90, Ln L N_91, Ln L N_92, Ln L N_93, Ln L N_94⟩⟩
theorem Ltw_95 {h : HP} (L : Lay h) : TwS h 95 := ⟨Lk L K_95, ⟨Lr L R_95_5, Lr L R_95_6, Lr L R_95_7, Lr L R_95_8, Lr L R_95_9, Lr L R_95_10, Lr L R_95_11, Lr L R_95_12⟩, ⟨Lk L K_96, Lk L K_97, Lk L K_98, Lk L K_99, Lk L K_100, Lk L K_101, Lk L K_102, Lk L K_103⟩, ⟨Ln L N_96, Ln L N_97, Ln L N_98, Ln L N_99, Ln L N_100, Ln L N_101, Ln L N_102, Ln L N_103⟩⟩
theorem Ltw_104 {h : HP} (L : Lay h) : TwS h 104 := ⟨Lk L K_104, ⟨Lr L R_104_5, Lr L R_104_6, Lr L R_104_7, Lr L R_104_8, Lr L R_104_9, Lr L R_104_10, Lr L R_104_11, Lr L R_104_12⟩, ⟨Lk L K_105, Lk L K_106, Lk L K_107, Lk L K_108, Lk L K_109, Lk L K_110, Lk L K_111, Lk L K_112⟩, ⟨Ln L N_105, Ln L N_106, Ln L N_107, Ln L N_108, Ln L N_109, Ln L N_110, Ln L N_111, Ln L N_112⟩⟩
theorem Ltw_114 {h : HP} (L : Lay h) : TwS h 114 := ⟨Lk L K_114, ⟨Lr L R_114_5, Lr L R_114_6, Lr L R_114_7, Lr L R_114_8, Lr L R_114_9, Lr L R_114_10, Lr L R_114_11, Lr L R_114_12⟩, ⟨Lk L K_115, Lk L K_116, Lk L K_117, Lk L K_118, Lk L K_119, Lk L K_120, Lk L K_121, Lk L K_122⟩, ⟨Ln L N_115, Ln L N_116, Ln L N_117, Ln L N_118, Ln L N_119, Ln L N_120, Ln L N_121, Ln L N_122⟩⟩
theorem Ltw_157 {h : HP} (L : Lay h) : TwS h 157 := ⟨Lk L K_157, ⟨Lr L R_157_5, Lr L R_157_6, Lr L R_157_7, Lr L R_157_8, Lr L R_157_9, Lr L R_157_10, Lr L R_157_11, Lr L R_157_12⟩, ⟨Lk L K_158, Lk L K_159, Lk L K_160, Lk L K_161, Lk L K_162, Lk L K_163, Lk L K_164, Lk L K_165⟩, ⟨Ln L N_158, Ln L N_159, Ln L N_160, Ln L N_161, Ln L N_162, Ln L N_163, Ln L N_164, Ln L N_165⟩⟩
theorem Ltw_181 {h : HP} (L : Lay h) : TwS h 181 := ⟨Lk L K_181, ⟨Lr L R_181_5, Lr L R_181_6, Lr L R_181_7, Lr L R_181_8, Lr L R_181_9, Lr L R_181_10, Lr L R_181_11, Lr L R_181_12⟩, ⟨Lk L K_182, Lk L K_183, Lk L K_184, Lk L K_185, Lk L K_186, Lk L K_187, Lk L K_188, Lk L K_189⟩, ⟨Ln L N_182, Ln L N_183, Ln L N_184, Ln L N_185, Ln L N_186, Ln L N_187, Ln L N_188, Ln L N_189⟩⟩
theorem Ltw_205 {h : HP} (L : Lay h) : TwS h 205 := ⟨Lk L K_205, ⟨Lr L R_205_5, Lr L R_205_6, Lr L R_205_7, Lr L R_205_8, Lr L R_205_9, Lr L R_205_10, Lr L R_205_11, Lr L R_205_12⟩, ⟨Lk L K_206, Lk L K_207, Lk L K_208, Lk L K_209, Lk L K_210, Lk L K_211, Lk L K_212, Lk L K_213⟩, ⟨Ln L N_206, Ln L N_207, Ln L N_208, Ln L N_209, Ln L N_210, Ln L N_211, Ln L N_212, Ln L N_213⟩⟩
theorem Ltw_229 {h : HP} (L : Lay h) : TwS h 229 := ⟨Lk L K_229, ⟨Lr L R_229_5, Lr L R_229_6, Lr L R_229_7, Lr L R_229_8, Lr L R_229_9, Lr L R_229_10, Lr L R_229_11, Lr L R_229_12⟩, ⟨Lk L K_230, Lk L K_231, Lk L K_232, Lk L K_233, Lk L K_234, Lk L K_235, Lk L K_236, Lk L K_237⟩, ⟨Ln L N_230, Ln L N_231, Ln L N_232, Ln L N_233, Ln L N_234, Ln L N_235, Ln L N_236, Ln L N_237⟩⟩
theorem Ltw_166 {h : HP} (L : Lay h) : TwS h 166 := ⟨Lk L K_166, ⟨Lr L R_166_5, Lr L R_166_6, Lr L R_166_7, Lr L R_166_8, Lr L R_166_9, Lr L R_166_10, Lr L R_166_11, Lr L R_166_12⟩, ⟨Lk L K_167, Lk L K_168, Lk L K_169, Lk L K_170, Lk L K_171, Lk L K_172, Lk L K_173, Lk L K_174⟩, ⟨Ln L N_167, Ln L N_168, Ln L N_169, Ln L N_170, Ln L N_171, Ln L N_172, Ln L N_173, Ln L N_174⟩⟩
theorem Ltw_190 {h : HP} (L : Lay h) : TwS h 190 := ⟨Lk L K_190, ⟨Lr L R_190_5, Lr L R_190_6, Lr L R_190_7, Lr L R_190_8, Lr L R_190_9, Lr L R_190_10, Lr L R_190_11, Lr L R_190_12⟩, ⟨Lk L K_191, Lk L K_192, Lk L K_193, Lk L K_194, Lk L K_195, Lk L K_196, Lk L K_197, Lk L K_198⟩, ⟨Ln L N_191, Ln L N_192, Ln L N_193, Ln L N_194, Ln L N_195, Ln L N_196, Ln L N_197, Ln L N_198⟩⟩
theorem Ltw_214 {h : HP} (L : Lay h) : TwS h 214 := ⟨Lk L K_214, ⟨Lr L R_214_5, Lr L R_214_6, Lr L R_214_7, Lr L R_214_8, Lr L R_214_9, Lr L R_214_10, Lr L R_214_11, Lr L R_214_12⟩, ⟨Lk L K_215, Lk L K_216, Lk L K_217, Lk L K_218, Lk L K_219, Lk L K_220, Lk L K_221, Lk L K_222⟩, ⟨Ln L N_215, Ln L N_216, Ln L N_217, Ln L N_218, Ln L N_219, Ln L N_220, Ln L N_221, Ln L N_222⟩⟩
theorem Ltw_238 {h : HP} (L : Lay h) : TwS h 238 := ⟨Lk L K_238, ⟨Lr L R_238_5, Lr L R_238_6, Lr L R_238_7, Lr L R_238_8, Lr L R_238_9, Lr L R_238_10, Lr L R_238_11, Lr L R_238_12⟩, ⟨Lk L K_239, Lk L K_240, Lk L K_241, Lk L K_242, Lk L K_243, Lk L K_244, Lk L K_245, Lk L K_246⟩, ⟨Ln L N_239, Ln L N_240, Ln L N_241, Ln L N_242, Ln L N_243, Ln L N_244, Ln L N_245, Ln L N_246⟩⟩
theorem Lng {h : HP} (L : Lay h) : NgS h 40 := ⟨Lk L K_40, ⟨Lr L R_40_0, Lr L R_40_1, Lr L R_40_2, Lr L R_40_3, Lr L R_40_4⟩, ⟨Lk L K_41, Lk L K_42, Lk L K_43, Lk L K_44, Lk L K_45⟩, ⟨Ln L N_41, Ln L N_42, Ln L N_43, Ln L N_44, Ln L N_45⟩⟩
theorem Lru {h : HP} (L : Lay h) {r : Nat} (hr : r < 6) : RuS h (126 + 5 * r) := by
  rcases (show r = 0 ∨ r = 1 ∨ r = 2 ∨ r = 3 ∨ r = 4 ∨ r = 5 by omega) with rfl | rfl | rfl | rfl | rfl | rfl
  · exact ⟨Lk L K_126, ⟨Lr L R_126_0, Lr L R_126_1, Lr L R_126_3, Lr L R_126_4⟩, ⟨Lk L K_127, Lk L K_128, Lk L K_129, Lk L K_130⟩, ⟨Ln L N_127, Ln L N_128, Ln L N_129, Ln L N_130⟩⟩
  · exact ⟨Lk L K_131, ⟨Lr L R_131_0, Lr L R_131_1, Lr L R_131_3, Lr L R_131_4⟩, ⟨Lk L K_132, Lk L K_133, Lk L K_134, Lk L K_135⟩, ⟨Ln L N_132, Ln L N_133, Ln L N_134, Ln L N_135⟩⟩
  · exact ⟨Lk L K_136, ⟨Lr L R_136_0, Lr L R_136_1, Lr L R_136_3, Lr L R_136_4⟩, ⟨Lk L K_137, Lk L K_138, Lk L K_139, Lk L K_140⟩, ⟨Ln L N_137, Ln L N_138, Ln L N_139, Ln L N_140⟩⟩
  · exact ⟨Lk L K_141, ⟨Lr L R_141_0, Lr L R_141_1, Lr L R_141_3, Lr L R_141_4⟩, ⟨Lk L K_142, Lk L K_143, Lk L K_144, Lk L K_145⟩, ⟨Ln L N_142, Ln L N_143, Ln L N_144, Ln L N_145⟩⟩
  · exact ⟨Lk L K_146, ⟨Lr L R_146_0, Lr L R_146_1, Lr L R_146_3, Lr L R_146_4⟩, ⟨Lk L K_147, Lk L K_148, Lk L K_149, Lk L K_150⟩, ⟨Ln L N_147, Ln L N_148, Ln L N_149, Ln L N_150⟩⟩
  · exact ⟨Lk L K_151, ⟨Lr L R_151_0, Lr L R_151_1, Lr L R_151_3, Lr L R_151_4⟩, ⟨Lk L K_152, Lk L K_153, Lk L K_154, Lk L K_155⟩, ⟨Ln L N_152, Ln L N_153, Ln L N_154, Ln L N_155⟩⟩
theorem Llv {h : HP} (L : Lay h) {k : Nat} (hk : k < 5) : hR h 59 k = some (68 + 9 * k) ∧ TwS h (68 + 9 * k) := by
  rcases (show k = 0 ∨ k = 1 ∨ k = 2 ∨ k = 3 ∨ k = 4 by omega) with rfl | rfl | rfl | rfl | rfl
  · exact ⟨Lr L R_59_0, Ltw_68 L⟩
  · exact ⟨Lr L R_59_1, Ltw_77 L⟩
  · exact ⟨Lr L R_59_2, Ltw_86 L⟩
  · exact ⟨Lr L R_59_3, Ltw_95 L⟩
  · exact ⟨Lr L R_59_4, Ltw_104 L⟩
theorem Lrl {h : HP} (L : Lay h) {k : Nat} (hk : k < 6) : hR h 2 k = some (126 + 5 * k) := by
  rcases (show k = 0 ∨ k = 1 ∨ k = 2 ∨ k = 3 ∨ k = 4 ∨ k = 5 by omega) with rfl | rfl | rfl | rfl | rfl | rfl
  · exact Lr L R_2_0
  · exact Lr L R_2_1
  · exact Lr L R_2_2
  · exact Lr L R_2_3
  · exact Lr L R_2_4
  · exact Lr L R_2_5
theorem Lim {h : HP} (L : Lay h) {k : Nat} (hk : k < 4) : hR h 27 k = some (156 + 24 * k) := by
  rcases (show k = 0 ∨ k = 1 ∨ k = 2 ∨ k = 3 by omega) with rfl | rfl | rfl | rfl
  · exact Lr L R_27_0
  · exact Lr L R_27_1
  · exact Lr L R_27_2
  · exact Lr L R_27_3
def LeS (h : HP) (e : Nat) : Prop := hK h e = 4 ∧ (hR h e 0 = some (e + 1) ∧ hR h e 1 = some (e + 10) ∧ hR h e 2 = some (e + 19) ∧ hR h e 3 = some (e + 21) ∧ hR h e 4 = some (e + 22) ∧ hR h e 5 = some (e + 23)) ∧ (TwS h (e + 1) ∧ TwS h (e + 10)) ∧ (hK h (e + 19) = 6 ∧ hR h (e + 19) 0 = some (e + 20) ∧ hK h (e + 20) = 21 ∧ hN h (e + 20) = 680) ∧ (hK h (e + 21) = 21 ∧ hK h (e + 22) = 21 ∧ hK h (e + 23) = 21) ∧ hN h (e + 21) = 10 ∧ hN h (e + 22) = 10 ∧ hN h (e + 23) = 10
theorem Lle_3 {h : HP} (L : Lay h) : LeS h 3 := ⟨Lk L K_3, ⟨Lr L R_3_0, Lr L R_3_1, Lr L R_3_2, Lr L R_3_3, Lr L R_3_4, Lr L R_3_5⟩, ⟨Ltw_4 L, Ltw_13 L⟩, ⟨Lk L K_22, Lr L R_22_0, Lk L K_23, Ln L N_23⟩, ⟨Lk L K_24, Lk L K_25, Lk L K_26⟩, Ln L N_24, Ln L N_25, Ln L N_26⟩
theorem Lle {h : HP} (L : Lay h) {k : Nat} (hk : k < 4) : LeS h (156 + 24 * k) := by
  rcases (show k = 0 ∨ k = 1 ∨ k = 2 ∨ k = 3 by omega) with rfl | rfl | rfl | rfl
  · exact ⟨Lk L K_156, ⟨Lr L R_156_0, Lr L R_156_1, Lr L R_156_2, Lr L R_156_3, Lr L R_156_4, Lr L R_156_5⟩, ⟨Ltw_157 L, Ltw_166 L⟩, ⟨Lk L K_175, Lr L R_175_0, Lk L K_176, Ln L N_176⟩, ⟨Lk L K_177, Lk L K_178, Lk L K_179⟩, Ln L N_177, Ln L N_178, Ln L N_179⟩
  · exact ⟨Lk L K_180, ⟨Lr L R_180_0, Lr L R_180_1, Lr L R_180_2, Lr L R_180_3, Lr L R_180_4, Lr L R_180_5⟩, ⟨Ltw_181 L, Ltw_190 L⟩, ⟨Lk L K_199, Lr L R_199_0, Lk L K_200, Ln L N_200⟩, ⟨Lk L K_201, Lk L K_202, Lk L K_203⟩, Ln L N_201, Ln L N_202, Ln L N_203⟩
  · exact ⟨Lk L K_204, ⟨Lr L R_204_0, Lr L R_204_1, Lr L R_204_2, Lr L R_204_3, Lr L R_204_4, Lr L R_204_5⟩, ⟨Ltw_205 L, Ltw_214 L⟩, ⟨Lk L K_223, Lr L R_223_0, Lk L K_224, Ln L N_224⟩, ⟨Lk L K_225, Lk L K_226, Lk L K_227⟩, Ln L N_225, Ln L N_226, Ln L N_227⟩
  · exact ⟨Lk L K_228, ⟨Lr L R_228_0, Lr L R_228_1, Lr L R_228_2, Lr L R_228_3, Lr L R_228_4, Lr L R_228_5⟩, ⟨Ltw_229 L, Ltw_238 L⟩, ⟨Lk L K_247, Lr L R_247_0, Lk L K_248, Ln L N_248⟩, ⟨Lk L K_249, Lk L K_250, Lk L K_251⟩, Ln L N_249, Ln L N_250, Ln L N_251⟩
