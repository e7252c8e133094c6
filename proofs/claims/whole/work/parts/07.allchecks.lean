/-! All checks together. -/
def ajGo : Nat → List (List (List (Nat × ajE))) → Prop
  | _, [] => True
  | k, t :: r => ajAll k t = true ∧ ajGo (k + 1) r
theorem ajGo_at : ∀ (l : List (List (List (Nat × ajE)))) (k i : Nat) (t : List (List (Nat × ajE))), ajGo k l → l[i]? = some t → ajAll (k + i) t = true
  | [], _, _, _, _, h => by simp at h
  | a :: l, k, 0, t, hg, h => by
    rw [List.getElem?_cons_zero] at h
    cases h
    exact hg.1
  | a :: l, k, i + 1, t, hg, h => by
    rw [List.getElem?_cons_succ] at h
    have h1 := ajGo_at l (k + 1) i t hg.2 h
    rwa [show k + 1 + i = k + (i + 1) by omega] at h1
theorem ajFind_some : ∀ (l : List (Nat × ajE)) (p : Nat) (en : ajE), ajFind p l = some en → (p, en) ∈ l
  | [], _, _, h => by cases h
  | (q, e) :: r, p, en, h => by
    unfold ajFind at h
    split at h
    · rename_i hb
      rw [Nat.beq_eq] at hb
      subst hb
      cases h
      exact List.mem_cons_self
    · exact List.mem_cons_of_mem _ (ajFind_some r p en h)
set_option maxRecDepth 100000 in
theorem ajGo_all : ajGo 0 ajTs := ⟨ajK_0, ajK_1, ajK_2, ajK_3, ajK_4, ajK_5, ajK_6, ajK_7, ajK_8, ajK_9, ajK_10, ajK_11, ajK_12, ajK_13, ajK_14, ajK_15, ajK_16, ajK_17, ajK_18, ajK_19, ajK_20, ajK_21, ajK_22, ajK_23, ajK_24, ajK_25, ajK_26, ajK_27, ajK_28, ajK_29, ajK_30, ajK_31, ajK_32, ajK_33, ajK_34, ajK_35, ajK_36, ajK_37, ajK_38, ajK_39, ajK_40, ajK_41, ajK_42, ajK_43, ajK_44, ajK_45, ajK_46, ajK_47, ajK_48, ajK_49, ajK_50, ajK_51, ajK_52, ajK_53, ajK_54, ajK_55, ajK_56, ajK_57, ajK_58, ajK_59, ajK_60, ajK_61, ajK_62, ajK_63, ajK_64, ajK_65, ajK_66, ajK_67, ajK_68, ajK_69, ajK_70, ajK_71, ajK_72, ajK_73, ajK_74, ajK_75, ajK_76, ajK_77, ajK_78, ajK_79, ajK_80, ajK_81, ajK_82, ajK_83, ajK_84, ajK_85, ajK_86, ajK_87, ajK_88, ajK_89, ajK_90, ajK_91, ajK_92, ajK_93, ajK_94, ajK_95, ajK_96, ajK_97, ajK_98, ajK_99, ajK_100, ajK_101, ajK_102, ajK_103, ajK_104, ajK_105, ajK_106, ajK_107, ajK_108, ajK_109, ajK_110, ajK_111, ajK_112, ajK_113, ajK_114, ajK_115, ajK_116, ajK_117, ajK_118, ajK_119, ajK_120, ajK_121, ajK_122, ajK_123, ajK_124, ajK_125, ajK_126, ajK_127, ajK_128, ajK_129, ajK_130, ajK_131, ajK_132, ajK_133, ajK_134, ajK_135, ajK_136, ajK_137, ajK_138, ajK_139, ajK_140, ajK_141, ajK_142, ajK_143, ajK_144, ajK_145, ajK_146, ajK_147, ajK_148, ajK_149, ajK_150, ajK_151, ajK_152, ajK_153, ajK_154, ajK_155, ajK_156, ajK_157, ajK_158, ajK_159, ajK_160, ajK_161, ajK_162, ajK_163, ajK_164, ajK_165, ajK_166, ajK_167, ajK_168, ajK_169, ajK_170, ajK_171, ajK_172, ajK_173, ajK_174, ajK_175, ajK_176, ajK_177, ajK_178, ajK_179, ajK_180, ajK_181, ajK_182, ajK_183, ajK_184, ajK_185, ajK_186, ajK_187, ajK_188, ajK_189, ajK_190, ajK_191, ajK_192, ajK_193, ajK_194, ajK_195, ajK_196, ajK_197, ajK_198, ajK_199, ajK_200, ajK_201, ajK_202, ajK_203, ajK_204, ajK_205, ajK_206, ajK_207, ajK_208, ajK_209, ajK_210, ajK_211, ajK_212, ajK_213, ajK_214, ajK_215, ajK_216, ajK_217, ajK_218, ajK_219, ajK_220, ajK_221, ajK_222, ajK_223, ajK_224, ajK_225, ajK_226, ajK_227, ajK_228, ajK_229, ajK_230, ajK_231, ajK_232, ajK_233, ajK_234, ajK_235, ajK_236, ajK_237, ajK_238, ajK_239, ajK_240, ajK_241, ajK_242, ajK_243, ajK_244, ajK_245, ajK_246, ajK_247, ajK_248, ajK_249, ajK_250, ajK_251, ajK_252, ajK_253, ajK_254, ajK_255, ajK_256, ajK_257, ajK_258, ajK_259, ajK_260, ajK_261, ajK_262, ajK_263, trivial⟩
theorem ajChk_all : ∀ mi pc en, ajCode mi pc = some en → ajChk mi pc en = true := by
  intro mi pc en h
  have h1 := ajFind_some _ _ _ h
  cases ht : ajTs[mi]? with
  | none =>
    rw [List.getD_eq_getElem?_getD, List.getD_eq_getElem?_getD, ht] at h1
    simp at h1
  | some t =>
    have h2 := ajGo_at ajTs 0 mi t ajGo_all ht
    rw [Nat.zero_add] at h2
    rw [List.getD_eq_getElem?_getD, List.getD_eq_getElem?_getD, ht] at h1
    dsimp only [Option.getD_some] at h1
    cases hc : t[pc / 64]? with
    | none =>
      rw [hc] at h1
      simp at h1
    | some ch =>
      rw [hc] at h1
      dsimp only [Option.getD_some] at h1
      exact List.all_eq_true.mp (List.all_eq_true.mp h2 ch (List.mem_of_getElem? hc)) (pc, en) h1
