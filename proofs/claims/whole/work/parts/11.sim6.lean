/-! all instructions together; whole runs -/
set_option maxRecDepth 100000 in
theorem fM_l0 : ∀ M ∈ aMt0, FM M := List.forall_mem_cons.mpr ⟨fM_0, List.forall_mem_cons.mpr ⟨fM_1, List.forall_mem_cons.mpr ⟨fM_2, List.forall_mem_cons.mpr ⟨fM_3, List.forall_mem_cons.mpr ⟨fM_4, List.forall_mem_cons.mpr ⟨fM_5, List.forall_mem_cons.mpr ⟨fM_6, List.forall_mem_cons.mpr ⟨fM_7, List.forall_mem_cons.mpr ⟨fM_8, List.forall_mem_cons.mpr ⟨fM_9, List.forall_mem_cons.mpr ⟨fM_10, List.forall_mem_cons.mpr ⟨fM_11, List.forall_mem_cons.mpr ⟨fM_12, List.forall_mem_cons.mpr ⟨fM_13, List.forall_mem_cons.mpr ⟨fM_14, List.forall_mem_cons.mpr ⟨fM_15, List.forall_mem_cons.mpr ⟨fM_16, List.forall_mem_cons.mpr ⟨fM_17, List.forall_mem_cons.mpr ⟨fM_18, List.forall_mem_cons.mpr ⟨fM_19, List.forall_mem_cons.mpr ⟨fM_20, List.forall_mem_cons.mpr ⟨fM_21, List.forall_mem_cons.mpr ⟨fM_22, List.forall_mem_cons.mpr ⟨fM_23, List.forall_mem_cons.mpr ⟨fM_24, List.forall_mem_cons.mpr ⟨fM_25, List.forall_mem_cons.mpr ⟨fM_26, List.forall_mem_cons.mpr ⟨fM_27, List.forall_mem_cons.mpr ⟨fM_28, List.forall_mem_cons.mpr ⟨fM_29, List.forall_mem_cons.mpr ⟨fM_30, List.forall_mem_cons.mpr ⟨fM_31, List.forall_mem_cons.mpr ⟨fM_32, List.forall_mem_cons.mpr ⟨fM_33, List.forall_mem_cons.mpr ⟨fM_34, List.forall_mem_cons.mpr ⟨fM_35, List.forall_mem_cons.mpr ⟨fM_36, List.forall_mem_cons.mpr ⟨fM_37, List.forall_mem_cons.mpr ⟨fM_38, List.forall_mem_cons.mpr ⟨fM_39, fun _ h => absurd h List.not_mem_nil⟩⟩⟩⟩⟩⟩⟩⟩⟩⟩⟩⟩⟩⟩⟩⟩⟩⟩⟩⟩⟩⟩⟩⟩⟩⟩⟩⟩⟩⟩⟩⟩⟩⟩⟩⟩⟩⟩⟩⟩
set_option maxRecDepth 100000 in
theorem fM_l1 : ∀ M ∈ aMt1, FM M := List.forall_mem_cons.mpr ⟨fM_40, List.forall_mem_cons.mpr ⟨fM_41, List.forall_mem_cons.mpr ⟨fM_42, List.forall_mem_cons.mpr ⟨fM_43, List.forall_mem_cons.mpr ⟨fM_44, List.forall_mem_cons.mpr ⟨fM_45, List.forall_mem_cons.mpr ⟨fM_46, List.forall_mem_cons.mpr ⟨fM_47, List.forall_mem_cons.mpr ⟨fM_48, List.forall_mem_cons.mpr ⟨fM_49, List.forall_mem_cons.mpr ⟨fM_50, List.forall_mem_cons.mpr ⟨fM_51, List.forall_mem_cons.mpr ⟨fM_52, List.forall_mem_cons.mpr ⟨fM_53, List.forall_mem_cons.mpr ⟨fM_54, List.forall_mem_cons.mpr ⟨fM_55, List.forall_mem_cons.mpr ⟨fM_56, List.forall_mem_cons.mpr ⟨fM_57, List.forall_mem_cons.mpr ⟨fM_58, List.forall_mem_cons.mpr ⟨fM_59, List.forall_mem_cons.mpr ⟨fM_60, List.forall_mem_cons.mpr ⟨fM_61, List.forall_mem_cons.mpr ⟨fM_62, List.forall_mem_cons.mpr ⟨fM_63, List.forall_mem_cons.mpr ⟨fM_64, List.forall_mem_cons.mpr ⟨fM_65, List.forall_mem_cons.mpr ⟨fM_66, List.forall_mem_cons.mpr ⟨fM_67, List.forall_mem_cons.mpr ⟨fM_68, List.forall_mem_cons.mpr ⟨fM_69, List.forall_mem_cons.mpr ⟨fM_70, List.forall_mem_cons.mpr ⟨fM_71, List.forall_mem_cons.mpr ⟨fM_72, List.forall_mem_cons.mpr ⟨fM_73, List.forall_mem_cons.mpr ⟨fM_74, List.forall_mem_cons.mpr ⟨fM_75, List.forall_mem_cons.mpr ⟨fM_76, List.forall_mem_cons.mpr ⟨fM_77, List.forall_mem_cons.mpr ⟨fM_78, List.forall_mem_cons.mpr ⟨fM_79, fun _ h => absurd h List.not_mem_nil⟩⟩⟩⟩⟩⟩⟩⟩⟩⟩⟩⟩⟩⟩⟩⟩⟩⟩⟩⟩⟩⟩⟩⟩⟩⟩⟩⟩⟩⟩⟩⟩⟩⟩⟩⟩⟩⟩⟩⟩
set_option maxRecDepth 100000 in
theorem fM_l2 : ∀ M ∈ aMt2, FM M := List.forall_mem_cons.mpr ⟨fM_80, List.forall_mem_cons.mpr ⟨fM_81, List.forall_mem_cons.mpr ⟨fM_82, List.forall_mem_cons.mpr ⟨fM_83, List.forall_mem_cons.mpr ⟨fM_84, List.forall_mem_cons.mpr ⟨fM_85, List.forall_mem_cons.mpr ⟨fM_86, List.forall_mem_cons.mpr ⟨fM_87, List.forall_mem_cons.mpr ⟨fM_88, List.forall_mem_cons.mpr ⟨fM_89, List.forall_mem_cons.mpr ⟨fM_90, List.forall_mem_cons.mpr ⟨fM_91, List.forall_mem_cons.mpr ⟨fM_92, List.forall_mem_cons.mpr ⟨fM_93, List.forall_mem_cons.mpr ⟨fM_94, List.forall_mem_cons.mpr ⟨fM_95, List.forall_mem_cons.mpr ⟨fM_96, List.forall_mem_cons.mpr ⟨fM_97, List.forall_mem_cons.mpr ⟨fM_98, List.forall_mem_cons.mpr ⟨fM_99, List.forall_mem_cons.mpr ⟨fM_100, List.forall_mem_cons.mpr ⟨fM_101, List.forall_mem_cons.mpr ⟨fM_102, List.forall_mem_cons.mpr ⟨fM_103, List.forall_mem_cons.mpr ⟨fM_104, List.forall_mem_cons.mpr ⟨fM_105, List.forall_mem_cons.mpr ⟨fM_106, List.forall_mem_cons.mpr ⟨fM_107, List.forall_mem_cons.mpr ⟨fM_108, List.forall_mem_cons.mpr ⟨fM_109, List.forall_mem_cons.mpr ⟨fM_110, List.forall_mem_cons.mpr ⟨fM_111, List.forall_mem_cons.mpr ⟨fM_112, List.forall_mem_cons.mpr ⟨fM_113, List.forall_mem_cons.mpr ⟨fM_114, List.forall_mem_cons.mpr ⟨fM_115, List.forall_mem_cons.mpr ⟨fM_116, List.forall_mem_cons.mpr ⟨fM_117, List.forall_mem_cons.mpr ⟨fM_118, List.forall_mem_cons.mpr ⟨fM_119, fun _ h => absurd h List.not_mem_nil⟩⟩⟩⟩⟩⟩⟩⟩⟩⟩⟩⟩⟩⟩⟩⟩⟩⟩⟩⟩⟩⟩⟩⟩⟩⟩⟩⟩⟩⟩⟩⟩⟩⟩⟩⟩⟩⟩⟩⟩
set_option maxRecDepth 100000 in
theorem fM_l3 : ∀ M ∈ aMt3, FM M := List.forall_mem_cons.mpr ⟨fM_120, List.forall_mem_cons.mpr ⟨fM_121, List.forall_mem_cons.mpr ⟨fM_122, List.forall_mem_cons.mpr ⟨fM_123, List.forall_mem_cons.mpr ⟨fM_124, List.forall_mem_cons.mpr ⟨fM_125, List.forall_mem_cons.mpr ⟨fM_126, List.forall_mem_cons.mpr ⟨fM_127, List.forall_mem_cons.mpr ⟨fM_128, List.forall_mem_cons.mpr ⟨fM_129, List.forall_mem_cons.mpr ⟨fM_130, List.forall_mem_cons.mpr ⟨fM_131, List.forall_mem_cons.mpr ⟨fM_132, List.forall_mem_cons.mpr ⟨fM_133, List.forall_mem_cons.mpr ⟨fM_134, List.forall_mem_cons.mpr ⟨fM_135, List.forall_mem_cons.mpr ⟨fM_136, List.forall_mem_cons.mpr ⟨fM_137, List.forall_mem_cons.mpr ⟨fM_138, List.forall_mem_cons.mpr ⟨fM_139, List.forall_mem_cons.mpr ⟨fM_140, List.forall_mem_cons.mpr ⟨fM_141, List.forall_mem_cons.mpr ⟨fM_142, List.forall_mem_cons.mpr ⟨fM_143, List.forall_mem_cons.mpr ⟨fM_144, List.forall_mem_cons.mpr ⟨fM_145, List.forall_mem_cons.mpr ⟨fM_146, List.forall_mem_cons.mpr ⟨fM_147, List.forall_mem_cons.mpr ⟨fM_148, List.forall_mem_cons.mpr ⟨fM_149, List.forall_mem_cons.mpr ⟨fM_150, List.forall_mem_cons.mpr ⟨fM_151, List.forall_mem_cons.mpr ⟨fM_152, List.forall_mem_cons.mpr ⟨fM_153, List.forall_mem_cons.mpr ⟨fM_154, List.forall_mem_cons.mpr ⟨fM_155, List.forall_mem_cons.mpr ⟨fM_156, List.forall_mem_cons.mpr ⟨fM_157, List.forall_mem_cons.mpr ⟨fM_158, List.forall_mem_cons.mpr ⟨fM_159, fun _ h => absurd h List.not_mem_nil⟩⟩⟩⟩⟩⟩⟩⟩⟩⟩⟩⟩⟩⟩⟩⟩⟩⟩⟩⟩⟩⟩⟩⟩⟩⟩⟩⟩⟩⟩⟩⟩⟩⟩⟩⟩⟩⟩⟩⟩
set_option maxRecDepth 100000 in
theorem fM_l4 : ∀ M ∈ aMt4, FM M := List.forall_mem_cons.mpr ⟨fM_160, List.forall_mem_cons.mpr ⟨fM_161, List.forall_mem_cons.mpr ⟨fM_162, List.forall_mem_cons.mpr ⟨fM_163, List.forall_mem_cons.mpr ⟨fM_164, List.forall_mem_cons.mpr ⟨fM_165, List.forall_mem_cons.mpr ⟨fM_166, List.forall_mem_cons.mpr ⟨fM_167, List.forall_mem_cons.mpr ⟨fM_168, List.forall_mem_cons.mpr ⟨fM_169, List.forall_mem_cons.mpr ⟨fM_170, List.forall_mem_cons.mpr ⟨fM_171, List.forall_mem_cons.mpr ⟨fM_172, List.forall_mem_cons.mpr ⟨fM_173, List.forall_mem_cons.mpr ⟨fM_174, List.forall_mem_cons.mpr ⟨fM_175, List.forall_mem_cons.mpr ⟨fM_176, List.forall_mem_cons.mpr ⟨fM_177, List.forall_mem_cons.mpr ⟨fM_178, List.forall_mem_cons.mpr ⟨fM_179, List.forall_mem_cons.mpr ⟨fM_180, List.forall_mem_cons.mpr ⟨fM_181, List.forall_mem_cons.mpr ⟨fM_182, List.forall_mem_cons.mpr ⟨fM_183, List.forall_mem_cons.mpr ⟨fM_184, List.forall_mem_cons.mpr ⟨fM_185, List.forall_mem_cons.mpr ⟨fM_186, List.forall_mem_cons.mpr ⟨fM_187, List.forall_mem_cons.mpr ⟨fM_188, List.forall_mem_cons.mpr ⟨fM_189, List.forall_mem_cons.mpr ⟨fM_190, List.forall_mem_cons.mpr ⟨fM_191, List.forall_mem_cons.mpr ⟨fM_192, List.forall_mem_cons.mpr ⟨fM_193, List.forall_mem_cons.mpr ⟨fM_194, List.forall_mem_cons.mpr ⟨fM_195, List.forall_mem_cons.mpr ⟨fM_196, List.forall_mem_cons.mpr ⟨fM_197, List.forall_mem_cons.mpr ⟨fM_198, List.forall_mem_cons.mpr ⟨fM_199, fun _ h => absurd h List.not_mem_nil⟩⟩⟩⟩⟩⟩⟩⟩⟩⟩⟩⟩⟩⟩⟩⟩⟩⟩⟩⟩⟩⟩⟩⟩⟩⟩⟩⟩⟩⟩⟩⟩⟩⟩⟩⟩⟩⟩⟩⟩
set_option maxRecDepth 100000 in
theorem fM_l5 : ∀ M ∈ aMt5, FM M := List.forall_mem_cons.mpr ⟨fM_200, List.forall_mem_cons.mpr ⟨fM_201, List.forall_mem_cons.mpr ⟨fM_202, List.forall_mem_cons.mpr ⟨fM_203, List.forall_mem_cons.mpr ⟨fM_204, List.forall_mem_cons.mpr ⟨fM_205, List.forall_mem_cons.mpr ⟨fM_206, List.forall_mem_cons.mpr ⟨fM_207, List.forall_mem_cons.mpr ⟨fM_208, List.forall_mem_cons.mpr ⟨fM_209, List.forall_mem_cons.mpr ⟨fM_210, List.forall_mem_cons.mpr ⟨fM_211, List.forall_mem_cons.mpr ⟨fM_212, List.forall_mem_cons.mpr ⟨fM_213, List.forall_mem_cons.mpr ⟨fM_214, List.forall_mem_cons.mpr ⟨fM_215, List.forall_mem_cons.mpr ⟨fM_216, List.forall_mem_cons.mpr ⟨fM_217, List.forall_mem_cons.mpr ⟨fM_218, List.forall_mem_cons.mpr ⟨fM_219, List.forall_mem_cons.mpr ⟨fM_220, List.forall_mem_cons.mpr ⟨fM_221, List.forall_mem_cons.mpr ⟨fM_222, List.forall_mem_cons.mpr ⟨fM_223, List.forall_mem_cons.mpr ⟨fM_224, List.forall_mem_cons.mpr ⟨fM_225, List.forall_mem_cons.mpr ⟨fM_226, List.forall_mem_cons.mpr ⟨fM_227, List.forall_mem_cons.mpr ⟨fM_228, List.forall_mem_cons.mpr ⟨fM_229, List.forall_mem_cons.mpr ⟨fM_230, List.forall_mem_cons.mpr ⟨fM_231, List.forall_mem_cons.mpr ⟨fM_232, List.forall_mem_cons.mpr ⟨fM_233, List.forall_mem_cons.mpr ⟨fM_234, List.forall_mem_cons.mpr ⟨fM_235, List.forall_mem_cons.mpr ⟨fM_236, List.forall_mem_cons.mpr ⟨fM_237, List.forall_mem_cons.mpr ⟨fM_238, List.forall_mem_cons.mpr ⟨fM_239, fun _ h => absurd h List.not_mem_nil⟩⟩⟩⟩⟩⟩⟩⟩⟩⟩⟩⟩⟩⟩⟩⟩⟩⟩⟩⟩⟩⟩⟩⟩⟩⟩⟩⟩⟩⟩⟩⟩⟩⟩⟩⟩⟩⟩⟩⟩
set_option maxRecDepth 100000 in
theorem fM_l6 : ∀ M ∈ aMt6, FM M := List.forall_mem_cons.mpr ⟨fM_240, List.forall_mem_cons.mpr ⟨fM_241, List.forall_mem_cons.mpr ⟨fM_242, List.forall_mem_cons.mpr ⟨fM_243, List.forall_mem_cons.mpr ⟨fM_244, List.forall_mem_cons.mpr ⟨fM_245, List.forall_mem_cons.mpr ⟨fM_246, List.forall_mem_cons.mpr ⟨fM_247, List.forall_mem_cons.mpr ⟨fM_248, List.forall_mem_cons.mpr ⟨fM_249, List.forall_mem_cons.mpr ⟨fM_250, List.forall_mem_cons.mpr ⟨fM_251, List.forall_mem_cons.mpr ⟨fM_252, List.forall_mem_cons.mpr ⟨fM_253, List.forall_mem_cons.mpr ⟨fM_254, List.forall_mem_cons.mpr ⟨fM_255, List.forall_mem_cons.mpr ⟨fM_256, List.forall_mem_cons.mpr ⟨fM_257, List.forall_mem_cons.mpr ⟨fM_258, List.forall_mem_cons.mpr ⟨fM_259, List.forall_mem_cons.mpr ⟨fM_260, List.forall_mem_cons.mpr ⟨fM_261, List.forall_mem_cons.mpr ⟨fM_262, List.forall_mem_cons.mpr ⟨fM_263, List.forall_mem_cons.mpr ⟨fM_264, List.forall_mem_cons.mpr ⟨fM_265, fun _ h => absurd h List.not_mem_nil⟩⟩⟩⟩⟩⟩⟩⟩⟩⟩⟩⟩⟩⟩⟩⟩⟩⟩⟩⟩⟩⟩⟩⟩⟩⟩
theorem fM_all {y : Nat} {M : aM} (h : aMt[y]? = some M) : FM M := by
  have h := List.mem_of_getElem? h
  simp only [aMt, List.mem_append] at h
  rcases h with h | h | h | h | h | h | h
  · exact fM_l0 M h
  · exact fM_l1 M h
  · exact fM_l2 M h
  · exact fM_l3 M h
  · exact fM_l4 M h
  · exact fM_l5 M h
  · exact fM_l6 M h
theorem st2_len (L : List AV) (k : Nat) (v : AV) : (st2 L k v).length = L.length := by
  unfold st2
  rw [stL_len, st1_len]
theorem nc_mono {sc : AS} {i : AI} {L S L' S' : List AV} {h h' : AH} {G : Option Prop} (hn : nc sc i L S h = some (L', S', h', G)) (hG : okG G) : hNx h ≤ hNx h' ∧ hWd h ≤ hWd h' ∧ L'.length = L.length := by
  cases i <;> simp only [nc, bI, bIg, bL, bLg, bLI, ldI, ldL, ldA, sI, sL, sA, reduceCtorEq] at hn <;> (repeat' split at hn) <;> first
    | (cases hn; done)
    | (simp only [Option.some.injEq, Prod.mk.injEq] at hn
       obtain ⟨rfl, rfl, rfl, rfl⟩ := hn
       simp only [okG] at hG
       refine ⟨?_, ?_, ?_⟩ <;> first | exact Int.le_refl _ | rfl | exact st1_len .. | exact st2_len .. | (simp only [hNew, hNx, hWd]; omega) | (unfold hNew hNx hWd; omega))
theorem EvN_mono {sc : AS} {X : RN} (hX : ∀ y as h r h', X y as h r h' → hNx h ≤ hNx h' ∧ hWd h ≤ hWd h') {m : Nat} : ∀ (k pc : Nat) (L S : List AV) (h : AH) (r : Option AV) (h2 : AH), EvN sc X m k pc L S h r h2 → hNx h ≤ hNx h2 ∧ hWd h ≤ hWd h2
  | 0, _, _, _, _, _, _, he => he.elim
  | k + 1, pc, L, S, h, r, h2, he => by
    rw [EvN] at he
    rcases he with ⟨L', -, he⟩ | ⟨i, len, -, he⟩
    · exact EvN_mono hX k _ _ _ _ _ _ he
    · rcases he with ⟨L', S', h', G, hn, hG, he⟩ | ⟨pc', S', -, he⟩ | ⟨-, -, e⟩ | ⟨y, as, S', r', h', -, -, -, -, hx, he⟩
      · have h1 := nc_mono hn hG
        have h3 := EvN_mono hX k _ _ _ _ _ _ he
        omega
      · exact EvN_mono hX k _ _ _ _ _ _ he
      · rw [e]; exact ⟨Int.le_refl _, Int.le_refl _⟩
      · have h1 := hX _ _ _ _ _ hx
        have h3 := EvN_mono hX k _ _ _ _ _ _ he
        omega
theorem Runs_mono {sc : AS} : ∀ (d y : Nat) (as : List AV) (h : AH) (r : Option AV) (h' : AH), Runs sc d y as h r h' → hNx h ≤ hNx h' ∧ hWd h ≤ hWd h'
  | 0, _, _, _, _, _, he => he.elim
  | d + 1, _, _, _, _, _, ⟨_, k, he⟩ => EvN_mono (Runs_mono d) k _ _ _ _ _ _ he
theorem res_end {M : aM} {i0 i : AI} (h : resI M i0 = some i) (he : i = .ireturn ∨ i = .lreturn ∨ i = .areturn ∨ i = .return_) : i0 = i := by
  cases i0 <;> simp only [resI, Option.some.injEq, reduceCtorEq] at h <;> first
    | exact h
    | (exfalso
       (repeat' split at h) <;> first
        | (cases h; done)
        | (simp only [Option.some.injEq] at h; subst h; simp at he; done))
theorem nar_of {ty : FieldType} {v : Int32} (h : vp_nar ty v = v) (h2 : ∃ y, narrow ty (.int v) = .int y) : narrow ty (.int v) = .int v := by
  obtain ⟨y, hy⟩ := h2
  simp only [vp_nar, hy] at h
  rw [hy, h]
section SIM6
variable {p : Program} {l : Launch} {e : Env} {R : Room} {s : State} {m : MethodId} {args : Array Value} {below : List Frame} {meth : Method} {c : Code} {Q : State → Prop} {Z : EZ} {sc : AS} {n0 w0 : Int} {M : aM}
theorem sim_nc {i0 i : AI} {pc len : Nat} (C : Cx p R s m args meth c Z sc M) (hml : c.maxLocals = M.2.2.1) (hwA : ∀ ty, Cond.arrayClass ty ∈ [Cond.arrayClass .int, .arrayClass .long, .arrayClass .char, .arrayClass .byte, .arrayClass .boolean] → (Cond.arrayClass ty).before args s = true) (hoi : (Cond.code Lib.objectInit ⟨#[0xb1]⟩ 1 none).before args s = true) (hd : decode M.1 pc = .ok (i0, len)) (hlen : lenI i0 = 0 ∨ lenI i0 = len) (hr : resI M i0 = some i) (hs0 : (s.heap.size : Int) = zB Z + n0)
    {L S L' S' : List AV} {h h' : AH} {G : Option Prop} (hLl : L.length = M.2.2.1) (hn : nc sc i L S h = some (L', S', h', G)) (hG : okG G) (hn0 : n0 ≤ hNx h) (hw0 : w0 ≤ hWd h) (hm1 : (hNx h' - n0).toNat ≤ R.cells) (hm2 : (hWd h' - w0).toNat ≤ R.slots) (kk : Wst p l e R s m args below meth c Q Z n0 w0 (pc + len) L' S' h') : Wst p l e R s m args below meth c Q Z n0 w0 pc L S h := by
  rcases hlen with hlen | hlen
  · cases i0 <;> first
      | (simp [lenI] at hlen; done)
      | (simp only [resI, Option.some.injEq] at hr; subst hr; simp [nc] at hn; done)
  · cases i0 <;> first
      | (simp [resI] at hr; done)
      | (refine sim_arith C hd hlen hr ?_ hn hG kk; simp; done)
      | (refine sim_conv C hd hlen hr ?_ hn kk; simp; done)
      | (refine sim_dup C hd hlen hr ?_ hn kk; simp; done)
      | (refine sim_ald C hd hlen hr ?_ hn hG kk; simp; done)
      | (refine sim_ast C hd hlen hr ?_ hn hG kk; simp; done)
      | (refine sim_const C hd hlen hr ?_ hn kk; simp; done)
      | (refine sim_ldc C hd hlen hr ?_ hn kk; simp; done)
      | (refine sim_load C hd hlen hr ?_ hn kk; simp; done)
      | (exact sim_store C hd hlen hr (Or.inl ⟨_, rfl, rfl⟩) hn kk)
      | (exact sim_store C hd hlen hr (Or.inr (Or.inl rfl)) hn kk)
      | (exact sim_store C hd hlen hr (Or.inr (Or.inr (Or.inl ⟨_, rfl, rfl⟩))) hn kk)
      | (exact sim_store C hd hlen hr (Or.inr (Or.inr (Or.inr rfl))) hn kk)
      | (exact sim_lstore C hd hlen hr (Or.inl ⟨_, rfl, rfl⟩) hn kk)
      | (exact sim_lstore C hd hlen hr (Or.inr rfl) hn kk)
      | (exact sim_iinc C hd hlen hr hn kk)
      | (exact sim_getfield C hd hlen hr hn hG kk)
      | (exact sim_putfield C hd hlen hr hn hG kk)
      | (exact sim_getstatic C hd hlen hr hn kk)
      | (exact sim_aast C hd hlen hr hn hG kk)
      | (exact sim_alen C hd hlen hr hn hG kk)
      | (exact sim_newarray C hwA hd hlen hr hs0 hn hG hn0 hw0 hm1 hm2 kk)
      | (exact sim_anewarray C hd hlen hr hs0 hn hG hn0 hw0 hm1 hm2 kk)
      | (exact sim_new C hd hlen hr hs0 hn hn0 hw0 hm1 hm2 kk)
      | (simp only [resI, Option.some.injEq] at hr; subst hr; simp [nc] at hn; done)
      | (have hi : i = .swap := by
           revert hn
           have hr2 := hr
           simp only [resI] at hr2
           split at hr2 <;> (try cases hr2) <;> simp [nc]
         subst hi
         exact sim_swap C hml hd hlen hr hLl hn hG kk)
      | (have hi : i = .pop2 := by
           revert hn
           have hr2 := hr
           simp only [resI] at hr2
           split at hr2 <;> (try cases hr2) <;> simp [nc]
         subst hi
         exact sim_pop2 C hml hd hlen hr hoi hLl hn hG kk)
      | (exfalso
         revert hn
         have hr2 := hr
         simp only [resI] at hr2
         split at hr2 <;> (try cases hr2) <;> simp [nc])
theorem sim_fin {mi : Nat} {i0 i : AI} {pc len : Nat} (C : Cx p R s m args meth c Z sc M) (hlocks : meth.locks = false) (hret : meth.sig.returnType = M.2.2.2.1) (hmM : aMt[mi]? = some M) (hd : decode M.1 pc = .ok (i0, len)) (hlen : lenI i0 = 0 ∨ lenI i0 = len) (hr : resI M i0 = some i)
    {L S : List AV} {h : AH} {r : Option AV} (hf : fin i S = some r) (hg : finG (mRt mi) r) : Wst p l e R s m args below meth c (MQ below (QcA Z r h) args s (hNx h - n0).toNat (hWd h - w0).toNat (zF Z)) Z n0 w0 pc L S h := by
  obtain ⟨hx, hb, -⟩ := C
  have hrt : mRt mi = M.2.2.2.1 := by unfold mRt; rw [hmM]; rfl
  rw [hrt, ← hret] at hg
  intro H locs ls hL hS hH hva
  have hq : ∀ t : State, t.heap = H → s.WarmedH t.vm → QcA Z r h args s (.returned (r.map (cV Z))) t := by
    intro t ht _
    refine ⟨rfl, by rw [ht]; exact hH, fun v hv => ?_, hva.F ht⟩
    unfold fin at hf
    split at hf <;> (try cases hf)
    · cases hv
    · cases hv; exact hS _ (by simp)
    · cases hv; exact hS _ (by simp)
    · cases hv; exact hS _ (by simp)
    · cases hv; exact hS _ (by simp)
  unfold fin at hf
  split at hf <;> (try cases hf)
  · have := res_end hr (by simp)
    subst this
    simp only [lenI] at hlen
    have hlen : len = 1 := by omega
    subst hlen
    refine W.vret hx hb ?_ hq hva.2.2 hd hlocks
    revert hg
    unfold finG
    split <;> intro hg <;> first | assumption | exact hg.elim | simp_all
  · rename_i x
    have := res_end hr (by simp)
    subst this
    simp only [lenI] at hlen
    have hlen : len = 1 := by omega
    subst hlen
    have hw := wf_ti (hS (0, x) (by simp))
    have key : ∃ ty, meth.sig.returnType = some ty ∧ narrow ty (.int (Int32.ofInt x)) = .int (Int32.ofInt x) := by
      generalize meth.sig.returnType = t at hg
      unfold finG at hg
      split at hg <;> first
        | exact hg.elim
        | (rename_i h0; cases h0; done)
        | (rename_i h0; cases h0; exact ⟨_, rfl, rfl⟩)
        | (rename_i h0; cases h0; exact ⟨_, rfl, nar_of (nar_z hg) ⟨_, rfl⟩⟩)
        | (rename_i h0; cases h0; exact ⟨_, rfl, nar_of (nar_b hg) ⟨_, rfl⟩⟩)
        | (rename_i h0; cases h0; exact ⟨_, rfl, nar_of (nar_c hg) ⟨_, rfl⟩⟩)
        | (exact ⟨_, rfl, rfl⟩)
    obtain ⟨ty, h1, h2⟩ := key
    exact W.zret hx hb h1 h2 hq hva.2.2 hd hlocks
  · rename_i x
    have := res_end hr (by simp)
    subst this
    simp only [lenI] at hlen
    have hlen : len = 1 := by omega
    subst hlen
    have key : meth.sig.returnType = some .long := by
      generalize meth.sig.returnType = t at hg
      unfold finG at hg
      split at hg <;> first | exact hg.elim | rfl | simp_all
    exact W.lret hx hb key hq hva.2.2 hd hlocks
  · rename_i x
    have := res_end hr (by simp)
    subst this
    simp only [lenI] at hlen
    have hlen : len = 1 := by omega
    subst hlen
    have key : ∃ n, meth.sig.returnType = some (.object n) := by
      generalize meth.sig.returnType = t at hg
      unfold finG at hg
      split at hg <;> first | exact hg.elim | exact ⟨_, rfl⟩ | simp_all
    obtain ⟨n, key⟩ := key
    refine W.aret hx hb key (Or.inl ⟨_, rfl⟩) ?_ hq hva.2.2 hd hlocks
    rcases Int.lt_or_le x 0 with hx0 | hx0
    · exact Or.inl (cV2_none hx0)
    · exact Or.inr ⟨_, cV2_some hx0⟩
  · rename_i x
    have := res_end hr (by simp)
    subst this
    simp only [lenI] at hlen
    have hlen : len = 1 := by omega
    subst hlen
    have key : ∃ n, meth.sig.returnType = some (.object n) := by
      generalize meth.sig.returnType = t at hg
      unfold finG at hg
      split at hg <;> first | exact hg.elim | exact ⟨_, rfl⟩ | simp_all
    obtain ⟨n, key⟩ := key
    exact W.aret hx hb key (Or.inl ⟨_, rfl⟩) (Or.inr ⟨_, rfl⟩) hq hva.2.2 hd hlocks
theorem sim_EvN {d mi : Nat} {X : RN} (C : Cx p R s m args meth c Z sc M) (hml : c.maxLocals = M.2.2.1) (hmM : aMt[mi]? = some M) (hwA : ∀ ty, Cond.arrayClass ty ∈ [Cond.arrayClass .int, .arrayClass .long, .arrayClass .char, .arrayClass .byte, .arrayClass .boolean] → (Cond.arrayClass ty).before args s = true) (hoi : (Cond.code Lib.objectInit ⟨#[0xb1]⟩ 1 none).before args s = true)
    (hdR : d + 1 ≤ R.frames ∧ 64 * (d + 1) ≤ R.locals) (hs0 : (s.heap.size : Int) = zB Z + n0) (hXm : ∀ y as h r h', X y as h r h' → hNx h ≤ hNx h' ∧ hWd h ≤ hWd h') (hXM : ∀ y as h r h', X y as h r h' → ∀ M', aMt[y]? = some M' → MetA l Z sc d M' as h r h')
    {h2 : AH} {r2 : Option AV} (hc2 : (hNx h2 - n0).toNat ≤ R.cells) (hw2 : (hWd h2 - w0).toNat ≤ R.slots)
    (hend : ∀ (pc : Nat) (L S : List AV) (i0 i : AI) (len : Nat), decode M.1 pc = .ok (i0, len) → (lenI i0 = 0 ∨ lenI i0 = len) → resI M i0 = some i → fin i S = some r2 → finG (mRt mi) r2 → Wst p l e R s m args below meth c Q Z n0 w0 pc L S h2) :
    ∀ (k pc : Nat) (L S : List AV) (h : AH), EvN sc X mi k pc L S h r2 h2 → L.length = M.2.2.1 → n0 ≤ hNx h → w0 ≤ hWd h → Wst p l e R s m args below meth c Q Z n0 w0 pc L S h
  | 0, _, _, _, _, he, _, _, _ => he.elim
  | k + 1, pc, L, S, h, he, hLl, hn0, hw0 => by
    rw [EvN] at he
    rcases he with ⟨L', hwk, he⟩ | ⟨i, len, hfe, he⟩
    · intro H locs ls hL hS hH hva
      exact sim_EvN C hml hmM hwA hoi hdR hs0 hXm hXM hc2 hw2 hend k pc L' S h he (hwk.1.trans hLl) hn0 hw0 H locs ls (hL.weak hwk) hS hH hva
    · have hfe2 : ∃ i0, decode M.1 pc = .ok (i0, len) ∧ resI M i0 = some i ∧ okJ pc i = true ∧ (lenI i0 = 0 ∨ lenI i0 = len) := by
        unfold fetch at hfe
        rw [hmM] at hfe
        simp only at hfe
        split at hfe
        · rename_i i0 len0 hdec
          split at hfe
          · rename_i j hj
            split at hfe
            · rename_i hc
              simp only [Option.some.injEq, Prod.mk.injEq] at hfe
              obtain ⟨rfl, rfl⟩ := hfe
              simp only [Bool.and_eq_true, Bool.or_eq_true, beq_iff_eq] at hc
              exact ⟨i0, hdec, hj, hc.1, hc.2⟩
            · cases hfe
          · cases hfe
        · cases hfe
      obtain ⟨i0, hd, hr, hok, hlen⟩ := hfe2
      rcases he with ⟨L', S', h', G, hn, hG, he⟩ | ⟨pc', S', hj, he⟩ | ⟨hf, hg, e⟩ | ⟨y, as, S', r', h', hS, hnp, hS4, hcg, hx, he⟩
      · have h1 := nc_mono hn hG
        have h3 := EvN_mono hXm k _ _ _ _ _ _ he
        exact sim_nc C hml hwA hoi hd hlen hr hs0 hLl hn hG hn0 hw0 (by omega) (by omega) (sim_EvN C hml hmM hwA hoi hdR hs0 hXm hXM hc2 hw2 hend k _ L' S' h' he (h1.2.2.trans hLl) (by omega) (by omega))
      · exact sim_jmp C hd hlen hr hok hj (sim_EvN C hml hmM hwA hoi hdR hs0 hXm hXM hc2 hw2 hend k _ L S' h he hLl hn0 hw0)
      · subst e
        exact hend pc L S i0 i len hd hlen hr hf hg
      · have h1 := hXm _ _ _ _ _ hx
        have h3 := EvN_mono hXm k _ _ _ _ _ _ he
        subst hS
        exact sim_call C hml hd hlen hr hdR hs0 hLl hnp hS4 hcg (hXM _ _ _ _ _ hx) hn0 hw0 h1.1 h1.2 (by omega) (by omega) (sim_EvN C hml hmM hwA hoi hdR hs0 hXm hXM hc2 hw2 hend k _ L _ h' he hLl (by omega) (by omega))
end SIM6
