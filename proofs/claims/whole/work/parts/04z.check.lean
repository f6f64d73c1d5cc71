/-! the law's own rows; and all of them -/
set_option maxRecDepth 100000 in
theorem ai_kl0 : ((ar_293.drop 0).take 60).all (ai_row am_293) = true := by decide +kernel
set_option maxRecDepth 100000 in
theorem ai_kl1 : ((ar_293.drop 60).take 60).all (ai_row am_293) = true := by decide +kernel
set_option maxRecDepth 100000 in
theorem ai_kl2 : ((ar_293.drop 120).take 60).all (ai_row am_293) = true := by decide +kernel
set_option maxRecDepth 100000 in
theorem ai_kl3 : ((ar_293.drop 180).take 60).all (ai_row am_293) = true := by decide +kernel
set_option maxRecDepth 100000 in
theorem ai_kl4 : ((ar_293.drop 240).take 60).all (ai_row am_293) = true := by decide +kernel
set_option maxRecDepth 100000 in
theorem ai_kl5 : ((ar_293.drop 300).take 60).all (ai_row am_293) = true := by decide +kernel
set_option maxRecDepth 100000 in
theorem ai_kl6 : ((ar_293.drop 360).take 60).all (ai_row am_293) = true := by decide +kernel
set_option maxRecDepth 100000 in
theorem ai_kl7 : ((ar_293.drop 420).take 60).all (ai_row am_293) = true := by decide +kernel
set_option maxRecDepth 100000 in
theorem ai_kl8 : ((ar_293.drop 480).take 60).all (ai_row am_293) = true := by decide +kernel
set_option maxRecDepth 100000 in
theorem ai_kl9 : ((ar_293.drop 540).take 60).all (ai_row am_293) = true := by decide +kernel
set_option maxRecDepth 100000 in
theorem ai_kl10 : ((ar_293.drop 600).take 60).all (ai_row am_293) = true := by decide +kernel
set_option maxRecDepth 100000 in
theorem ai_kl11 : ((ar_293.drop 660).take 60).all (ai_row am_293) = true := by decide +kernel
set_option maxRecDepth 100000 in
theorem ai_kl12 : ((ar_293.drop 720).take 60).all (ai_row am_293) = true := by decide +kernel
set_option maxRecDepth 100000 in
theorem ai_kl13 : ((ar_293.drop 780).take 60).all (ai_row am_293) = true := by decide +kernel
set_option maxRecDepth 100000 in
theorem ai_kl14 : ((ar_293.drop 840).take 60).all (ai_row am_293) = true := by decide +kernel
set_option maxRecDepth 100000 in
theorem ai_kl15 : ((ar_293.drop 900).take 60).all (ai_row am_293) = true := by decide +kernel
set_option maxRecDepth 100000 in
theorem ai_kl16 : ((ar_293.drop 960).take 60).all (ai_row am_293) = true := by decide +kernel
set_option maxRecDepth 100000 in
theorem ai_kl17 : ((ar_293.drop 1020).take 60).all (ai_row am_293) = true := by decide +kernel
set_option maxRecDepth 100000 in
theorem ai_kl18 : ((ar_293.drop 1080).take 60).all (ai_row am_293) = true := by decide +kernel
set_option maxRecDepth 100000 in
theorem ai_kl19 : ((ar_293.drop 1140).take 60).all (ai_row am_293) = true := by decide +kernel
set_option maxRecDepth 100000 in
theorem ai_kl20 : ((ar_293.drop 1200).take 60).all (ai_row am_293) = true := by decide +kernel
set_option maxRecDepth 100000 in
theorem ai_klc : ai_cont ar_293 = true := by decide +kernel
theorem ai_kl : ar_293.all (ai_row am_293) = true := by
  have sp : ∀ (i : Nat), (ar_293.drop i).all (ai_row am_293) = (((ar_293.drop i).take 60).all (ai_row am_293) && (ar_293.drop (i + 60)).all (ai_row am_293)) := by
    intro i
    conv => lhs; rw [← List.take_append_drop 60 (ar_293.drop i), List.all_append, List.drop_drop]
  show (ar_293.drop 0).all (ai_row am_293) = true
  rw [sp 0, ai_kl0, Bool.true_and, sp 60, ai_kl1, Bool.true_and, sp 120, ai_kl2, Bool.true_and, sp 180, ai_kl3, Bool.true_and, sp 240, ai_kl4, Bool.true_and, sp 300, ai_kl5, Bool.true_and, sp 360, ai_kl6, Bool.true_and, sp 420, ai_kl7, Bool.true_and, sp 480, ai_kl8, Bool.true_and, sp 540, ai_kl9, Bool.true_and, sp 600, ai_kl10, Bool.true_and, sp 660, ai_kl11, Bool.true_and, sp 720, ai_kl12, Bool.true_and, sp 780, ai_kl13, Bool.true_and, sp 840, ai_kl14, Bool.true_and, sp 900, ai_kl15, Bool.true_and, sp 960, ai_kl16, Bool.true_and, sp 1020, ai_kl17, Bool.true_and, sp 1080, ai_kl18, Bool.true_and, sp 1140, ai_kl19, Bool.true_and, sp 1200, ai_kl20, Bool.true_and]
  rfl
theorem ai_k293 : ai_mk am_293 = true := by
  have h : ai_mk am_293 = ((true || ai_mok am_293) && (ar_293.all (ai_row am_293) && ai_cont ar_293)) := rfl
  rw [h, ai_kl, ai_klc]; rfl
theorem ai_ck0 : [am_0, am_1, am_2, am_3, am_4, am_5, am_6, am_7, am_8, am_9, am_10, am_11, am_12, am_13, am_14, am_15, am_16, am_17, am_18, am_19].all ai_mk = true := by
  simp only [List.all_cons, List.all_nil, ai_k0, ai_k1, ai_k2, ai_k3, ai_k4, ai_k5, ai_k6, ai_k7, ai_k8, ai_k9, ai_k10, ai_k11, ai_k12, ai_k13, ai_k14, ai_k15, ai_k16, ai_k17, ai_k18, ai_k19, Bool.and_self]
theorem ai_ck1 : [am_20, am_21, am_22, am_23, am_24, am_25, am_26, am_27, am_28, am_29, am_30, am_31, am_32, am_33, am_34, am_35, am_36, am_37, am_38, am_39].all ai_mk = true := by
  simp only [List.all_cons, List.all_nil, ai_k20, ai_k21, ai_k22, ai_k23, ai_k24, ai_k25, ai_k26, ai_k27, ai_k28, ai_k29, ai_k30, ai_k31, ai_k32, ai_k33, ai_k34, ai_k35, ai_k36, ai_k37, ai_k38, ai_k39, Bool.and_self]
theorem ai_ck2 : [am_40, am_41, am_42, am_43, am_44, am_45, am_46, am_47, am_48, am_49, am_50, am_51, am_52, am_53, am_54, am_55, am_56, am_57, am_58, am_59].all ai_mk = true := by
  simp only [List.all_cons, List.all_nil, ai_k40, ai_k41, ai_k42, ai_k43, ai_k44, ai_k45, ai_k46, ai_k47, ai_k48, ai_k49, ai_k50, ai_k51, ai_k52, ai_k53, ai_k54, ai_k55, ai_k56, ai_k57, ai_k58, ai_k59, Bool.and_self]
theorem ai_ck3 : [am_60, am_61, am_62, am_63, am_64, am_65, am_66, am_67, am_68, am_69, am_70, am_71, am_72, am_73, am_74, am_75, am_76, am_77, am_78, am_79].all ai_mk = true := by
  simp only [List.all_cons, List.all_nil, ai_k60, ai_k61, ai_k62, ai_k63, ai_k64, ai_k65, ai_k66, ai_k67, ai_k68, ai_k69, ai_k70, ai_k71, ai_k72, ai_k73, ai_k74, ai_k75, ai_k76, ai_k77, ai_k78, ai_k79, Bool.and_self]
theorem ai_ck4 : [am_80, am_81, am_82, am_83, am_84, am_85, am_86, am_87, am_88, am_89, am_90, am_91, am_92, am_93, am_94, am_95, am_96, am_97, am_98, am_99].all ai_mk = true := by
  simp only [List.all_cons, List.all_nil, ai_k80, ai_k81, ai_k82, ai_k83, ai_k84, ai_k85, ai_k86, ai_k87, ai_k88, ai_k89, ai_k90, ai_k91, ai_k92, ai_k93, ai_k94, ai_k95, ai_k96, ai_k97, ai_k98, ai_k99, Bool.and_self]
theorem ai_ck5 : [am_100, am_101, am_102, am_103, am_104, am_105, am_106, am_107, am_108, am_109, am_110, am_111, am_112, am_113, am_114, am_115, am_116, am_117, am_118, am_119].all ai_mk = true := by
  simp only [List.all_cons, List.all_nil, ai_k100, ai_k101, ai_k102, ai_k103, ai_k104, ai_k105, ai_k106, ai_k107, ai_k108, ai_k109, ai_k110, ai_k111, ai_k112, ai_k113, ai_k114, ai_k115, ai_k116, ai_k117, ai_k118, ai_k119, Bool.and_self]
theorem ai_ck6 : [am_120, am_121, am_122, am_123, am_124, am_125, am_126, am_127, am_128, am_129, am_130, am_131, am_132, am_133, am_134, am_135, am_136, am_137, am_138, am_139].all ai_mk = true := by
  simp only [List.all_cons, List.all_nil, ai_k120, ai_k121, ai_k122, ai_k123, ai_k124, ai_k125, ai_k126, ai_k127, ai_k128, ai_k129, ai_k130, ai_k131, ai_k132, ai_k133, ai_k134, ai_k135, ai_k136, ai_k137, ai_k138, ai_k139, Bool.and_self]
theorem ai_ck7 : [am_140, am_141, am_142, am_143, am_144, am_145, am_146, am_147, am_148, am_149, am_150, am_151, am_152, am_153, am_154, am_155, am_156, am_157, am_158, am_159].all ai_mk = true := by
  simp only [List.all_cons, List.all_nil, ai_k140, ai_k141, ai_k142, ai_k143, ai_k144, ai_k145, ai_k146, ai_k147, ai_k148, ai_k149, ai_k150, ai_k151, ai_k152, ai_k153, ai_k154, ai_k155, ai_k156, ai_k157, ai_k158, ai_k159, Bool.and_self]
theorem ai_ck8 : [am_160, am_161, am_162, am_163, am_164, am_165, am_166, am_167, am_168, am_169, am_170, am_171, am_172, am_173, am_174, am_175, am_176, am_177, am_178, am_179].all ai_mk = true := by
  simp only [List.all_cons, List.all_nil, ai_k160, ai_k161, ai_k162, ai_k163, ai_k164, ai_k165, ai_k166, ai_k167, ai_k168, ai_k169, ai_k170, ai_k171, ai_k172, ai_k173, ai_k174, ai_k175, ai_k176, ai_k177, ai_k178, ai_k179, Bool.and_self]
theorem ai_ck9 : [am_180, am_181, am_182, am_183, am_184, am_185, am_186, am_187, am_188, am_189, am_190, am_191, am_192, am_193, am_194, am_195, am_196, am_197, am_198, am_199].all ai_mk = true := by
  simp only [List.all_cons, List.all_nil, ai_k180, ai_k181, ai_k182, ai_k183, ai_k184, ai_k185, ai_k186, ai_k187, ai_k188, ai_k189, ai_k190, ai_k191, ai_k192, ai_k193, ai_k194, ai_k195, ai_k196, ai_k197, ai_k198, ai_k199, Bool.and_self]
theorem ai_ck10 : [am_200, am_201, am_202, am_203, am_204, am_205, am_206, am_207, am_208, am_209, am_210, am_211, am_212, am_213, am_214, am_215, am_216, am_217, am_218, am_219].all ai_mk = true := by
  simp only [List.all_cons, List.all_nil, ai_k200, ai_k201, ai_k202, ai_k203, ai_k204, ai_k205, ai_k206, ai_k207, ai_k208, ai_k209, ai_k210, ai_k211, ai_k212, ai_k213, ai_k214, ai_k215, ai_k216, ai_k217, ai_k218, ai_k219, Bool.and_self]
theorem ai_ck11 : [am_220, am_221, am_222, am_223, am_224, am_225, am_226, am_227, am_228, am_229, am_230, am_231, am_232, am_233, am_234, am_235, am_236, am_237, am_238, am_239].all ai_mk = true := by
  simp only [List.all_cons, List.all_nil, ai_k220, ai_k221, ai_k222, ai_k223, ai_k224, ai_k225, ai_k226, ai_k227, ai_k228, ai_k229, ai_k230, ai_k231, ai_k232, ai_k233, ai_k234, ai_k235, ai_k236, ai_k237, ai_k238, ai_k239, Bool.and_self]
theorem ai_ck12 : [am_240, am_241, am_242, am_243, am_244, am_245, am_246, am_247, am_248, am_249, am_250, am_251, am_252, am_253, am_254, am_255, am_256, am_257, am_258, am_259].all ai_mk = true := by
  simp only [List.all_cons, List.all_nil, ai_k240, ai_k241, ai_k242, ai_k243, ai_k244, ai_k245, ai_k246, ai_k247, ai_k248, ai_k249, ai_k250, ai_k251, ai_k252, ai_k253, ai_k254, ai_k255, ai_k256, ai_k257, ai_k258, ai_k259, Bool.and_self]
theorem ai_ck13 : [am_260, am_261, am_262, am_263, am_264, am_265, am_266, am_267, am_268, am_269, am_270, am_271, am_272, am_273, am_274, am_275, am_276, am_277, am_278, am_279].all ai_mk = true := by
  simp only [List.all_cons, List.all_nil, ai_k260, ai_k261, ai_k262, ai_k263, ai_k264, ai_k265, ai_k266, ai_k267, ai_k268, ai_k269, ai_k270, ai_k271, ai_k272, ai_k273, ai_k274, ai_k275, ai_k276, ai_k277, ai_k278, ai_k279, Bool.and_self]
theorem ai_ck14 : [am_280, am_281, am_282, am_283, am_284, am_285, am_286, am_287, am_288, am_289, am_290, am_291, am_292, am_293].all ai_mk = true := by
  simp only [List.all_cons, List.all_nil, ai_k280, ai_k281, ai_k282, ai_k283, ai_k284, ai_k285, ai_k286, ai_k287, ai_k288, ai_k289, ai_k290, ai_k291, ai_k292, ai_k293, Bool.and_self]
theorem ai_ck_all : ai_mt.all ai_mk = true := by
  show ([am_0, am_1, am_2, am_3, am_4, am_5, am_6, am_7, am_8, am_9, am_10, am_11, am_12, am_13, am_14, am_15, am_16, am_17, am_18, am_19] ++ ([am_20, am_21, am_22, am_23, am_24, am_25, am_26, am_27, am_28, am_29, am_30, am_31, am_32, am_33, am_34, am_35, am_36, am_37, am_38, am_39] ++ ([am_40, am_41, am_42, am_43, am_44, am_45, am_46, am_47, am_48, am_49, am_50, am_51, am_52, am_53, am_54, am_55, am_56, am_57, am_58, am_59] ++ ([am_60, am_61, am_62, am_63, am_64, am_65, am_66, am_67, am_68, am_69, am_70, am_71, am_72, am_73, am_74, am_75, am_76, am_77, am_78, am_79] ++ ([am_80, am_81, am_82, am_83, am_84, am_85, am_86, am_87, am_88, am_89, am_90, am_91, am_92, am_93, am_94, am_95, am_96, am_97, am_98, am_99] ++ ([am_100, am_101, am_102, am_103, am_104, am_105, am_106, am_107, am_108, am_109, am_110, am_111, am_112, am_113, am_114, am_115, am_116, am_117, am_118, am_119] ++ ([am_120, am_121, am_122, am_123, am_124, am_125, am_126, am_127, am_128, am_129, am_130, am_131, am_132, am_133, am_134, am_135, am_136, am_137, am_138, am_139] ++ ([am_140, am_141, am_142, am_143, am_144, am_145, am_146, am_147, am_148, am_149, am_150, am_151, am_152, am_153, am_154, am_155, am_156, am_157, am_158, am_159] ++ ([am_160, am_161, am_162, am_163, am_164, am_165, am_166, am_167, am_168, am_169, am_170, am_171, am_172, am_173, am_174, am_175, am_176, am_177, am_178, am_179] ++ ([am_180, am_181, am_182, am_183, am_184, am_185, am_186, am_187, am_188, am_189, am_190, am_191, am_192, am_193, am_194, am_195, am_196, am_197, am_198, am_199] ++ ([am_200, am_201, am_202, am_203, am_204, am_205, am_206, am_207, am_208, am_209, am_210, am_211, am_212, am_213, am_214, am_215, am_216, am_217, am_218, am_219] ++ ([am_220, am_221, am_222, am_223, am_224, am_225, am_226, am_227, am_228, am_229, am_230, am_231, am_232, am_233, am_234, am_235, am_236, am_237, am_238, am_239] ++ ([am_240, am_241, am_242, am_243, am_244, am_245, am_246, am_247, am_248, am_249, am_250, am_251, am_252, am_253, am_254, am_255, am_256, am_257, am_258, am_259] ++ ([am_260, am_261, am_262, am_263, am_264, am_265, am_266, am_267, am_268, am_269, am_270, am_271, am_272, am_273, am_274, am_275, am_276, am_277, am_278, am_279] ++ ([am_280, am_281, am_282, am_283, am_284, am_285, am_286, am_287, am_288, am_289, am_290, am_291, am_292, am_293]))))))))))))))).all ai_mk = true
  simp only [List.all_append, ai_ck0, ai_ck1, ai_ck2, ai_ck3, ai_ck4, ai_ck5, ai_ck6, ai_ck7, ai_ck8, ai_ck9, ai_ck10, ai_ck11, ai_ck12, ai_ck13, ai_ck14, Bool.and_self]
theorem ai_ok_m : ∀ M ∈ ai_mt, (ai_mC M = 12 ∨ ai_mok M = true) ∧ ai_rk M = true := by
  intro M hM
  have h := List.all_eq_true.mp ai_ck_all M hM
  simpa only [ai_mk, Bool.and_eq_true, Bool.or_eq_true, decide_eq_true_eq] using h
