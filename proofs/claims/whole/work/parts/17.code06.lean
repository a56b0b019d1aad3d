/-! the code of the methods, by program; what it rests on, looked at; the contracts -/
def k_N_doesFail : ai_C := [
  [(0, .aload_n 0, 1, 0, 0, 0, 0, 0, []), (1, .iload_n 2, 1, 2, 0, 0, 0, 0, []), (2, .invokevirtual 403, 3, 0, 2, 130, 0, 0, [(0, 12)]), (5, .istore_n 3, 1, 3, 0, 0, 0, 0, []), (6, .iconst 0, 1, 0, 0, 0, 0, 0, []), (7, .istore 4, 2, 4, 0, 0, 0, 0, []), (9, .iload 4, 2, 4, 0, 0, 0, 0, []), (11, .iload_n 3, 1, 3, 0, 0, 0, 0, []), (12, .if_icmp .ge 22, 3, 34, 0, 0, 0, 0, []), (15, .aload_n 0, 1, 0, 0, 0, 0, 0, [])],
  [(16, .iload_n 1, 1, 1, 0, 0, 0, 0, []), (17, .iload_n 2, 1, 2, 0, 0, 0, 0, []), (18, .iload 4, 2, 4, 0, 0, 0, 0, []), (20, .invokevirtual 424, 3, 1, 4, 137, 0, 0, [(0, 12)]), (23, .ifCond .ne 5, 3, 28, 0, 0, 0, 0, []), (26, .iconst 1, 1, 0, 0, 0, 0, 1, []), (27, .ireturn, 1, 0, 0, 0, 3, 0, []), (28, .iinc 4 1, 3, 4, 0, 0, 0, 1, []), (31, .goto (-22), 3, 9, 0, 0, 0, 0, [])],
  [(34, .iconst 0, 1, 0, 0, 0, 0, 0, []), (35, .ireturn, 1, 0, 0, 0, 3, 0, [])]]
def i_N_doesFail : ai_I := ((⟨"SuiteBenchModel", "doesFail", "(II)Z"⟩, prog_14_method_86_code, 5, (some .boolean), 3, 7, 163, 0, 2, 0, 12) : ai_I)
def o_N_doesFail (a : Nat) : SP := match a with
  | 0 => f_N_testsOf
  | 1 => f_N_isTestPassed
  | _ => fun _ _ _ _ _ => False
theorem mo_N_doesFail : ∀ a, ai_mono (o_N_doesFail a)
  | 0 => mf_N_testsOf
  | 1 => mf_N_isTestPassed
  | _ + 2 => fun _ _ _ _ _ _ _ h => h
def f_N_doesFail : SP := ai_M o_N_doesFail 0 5 k_N_doesFail
theorem mf_N_doesFail : ai_mono f_N_doesFail := M_mono mo_N_doesFail
abbrev cal_N_doesFail : List ai_I := [i_N_testsOf, i_N_isTestPassed]
theorem a_N_doesFail : ai_all "SuiteBenchModel" prog_14_method_86_code 5 kc_N cal_N_doesFail 7 163 false (some .boolean) k_N_doesFail = true := by decide +kernel
theorem w_N_doesFail : ai_CW i_N_doesFail := ⟨(tk_mem (l := [((Jvm.Cond.code ({ cls := "SuiteBenchModel", name := "doesFail", desc := "(II)Z" } : Jvm.MethodName) prog_14_method_86_code (5 : Nat) (Option.some Jvm.ClassFile.FieldType.boolean)), 9, 200)]) (by decide +kernel) _ (List.mem_singleton.mpr rfl)), (tk_mem (l := [((Jvm.Cond.initialized "SuiteBenchModel"), 1, 15)]) (by decide +kernel) _ (List.mem_singleton.mpr rfl)), ⟨by decide +kernel, by decide +kernel, by decide +kernel⟩, ⟨(tk_mem (l := [((Jvm.Cond.instanceMethod ({ cls := "SuiteBenchModel", name := "doesFail", desc := "(II)Z" } : Jvm.MethodName)), 9, 199)]) (by decide +kernel) _ (List.mem_singleton.mpr rfl)), gw_sel 130 (by decide +kernel), .inl ⟨_, _, rfl⟩⟩⟩
theorem c_N_doesFail {E2 : (Nat → Nat) → State → Heap → Prop} (hE : ai_XH E2) : ai_S E2 i_N_doesFail f_N_doesFail := snd_M (by decide) rfl (by decide) a_N_doesFail kc_N_ok (by rfl) (by decide) (fun a i h => match a, h with
    | 0, h => by cases h; exact ⟨c_N_testsOf hE, w_N_testsOf⟩
    | 1, h => by cases h; exact ⟨c_N_isTestPassed hE, w_N_isTestPassed⟩
    | _ + 2, h => by simp [cal_N_doesFail, ai_nth] at h)
def k_N_laysMutants : ai_C := [
  [(0, .aload_n 0, 1, 0, 0, 0, 0, 0, []), (1, .getfield 93, 3, 12, 48, 25, 2, 48, []), (4, .iload_n 1, 1, 1, 0, 0, 0, 0, []), (5, .baload, 1, 0, 0, 0, 52, 0, []), (6, .ifCond .eq 4, 3, 10, 0, 0, 0, 0, []), (9, .return_, 1, 0, 0, 0, 0, 0, []), (10, .aload_n 0, 1, 0, 0, 0, 0, 0, []), (11, .getfield 93, 3, 12, 48, 25, 2, 48, []), (14, .iload_n 1, 1, 1, 0, 0, 0, 0, []), (15, .iconst 1, 1, 0, 0, 0, 0, 1, [])],
  [(16, .bastore, 1, 0, 0, 0, 52, 0, []), (17, .iload_n 1, 1, 1, 0, 0, 0, 0, []), (18, .iconst 1, 1, 0, 0, 0, 0, 1, []), (19, .if_icmp .le 10, 3, 29, 0, 0, 0, 0, []), (22, .aload_n 0, 1, 0, 0, 0, 0, 0, []), (23, .iload_n 1, 1, 1, 0, 0, 0, 0, []), (24, .iconst 2, 1, 0, 0, 0, 0, 2, []), (25, .isub, 1, 0, 0, 0, 0, 0, []), (26, .invokevirtual 373, 3, 0, 2, 129, 9, 0, [(0, 12)]), (29, .iconst 4, 1, 0, 0, 0, 0, 4, []), (30, .iload_n 1, 1, 1, 0, 0, 0, 0, []), (31, .imul, 1, 0, 0, 0, 0, 0, [])],
  [(32, .istore_n 2, 1, 2, 0, 0, 0, 0, []), (33, .aload_n 0, 1, 0, 0, 0, 0, 0, []), (34, .getfield 90, 3, 12, 47, 52, 2, 47, []), (37, .iload_n 2, 1, 2, 0, 0, 0, 0, []), (38, .iconst 0, 1, 0, 0, 0, 0, 0, []), (39, .iastore, 1, 0, 0, 0, 0, 0, []), (40, .aload_n 0, 1, 0, 0, 0, 0, 0, []), (41, .getfield 90, 3, 12, 47, 52, 2, 47, []), (44, .iload_n 2, 1, 2, 0, 0, 0, 0, []), (45, .iconst 1, 1, 0, 0, 0, 0, 1, []), (46, .iadd, 1, 0, 0, 0, 0, 0, []), (47, .iconst 0, 1, 0, 0, 0, 0, 0, [])],
  [(48, .iastore, 1, 0, 0, 0, 0, 0, []), (49, .aload_n 0, 1, 0, 0, 0, 0, 0, []), (50, .getfield 90, 3, 12, 47, 52, 2, 47, []), (53, .iload_n 2, 1, 2, 0, 0, 0, 0, []), (54, .iconst 2, 1, 0, 0, 0, 0, 2, []), (55, .iadd, 1, 0, 0, 0, 0, 0, []), (56, .iconst 0, 1, 0, 0, 0, 0, 0, []), (57, .iastore, 1, 0, 0, 0, 0, 0, []), (58, .aload_n 0, 1, 0, 0, 0, 0, 0, []), (59, .getfield 90, 3, 12, 47, 52, 2, 47, []), (62, .iload_n 2, 1, 2, 0, 0, 0, 0, []), (63, .iconst 3, 1, 0, 0, 0, 0, 3, [])],
  [(64, .iadd, 1, 0, 0, 0, 0, 0, []), (65, .bipush (-2), 2, 0, 0, 0, 0, (-2), []), (67, .iastore, 1, 0, 0, 0, 0, 0, []), (68, .aload_n 0, 1, 0, 0, 0, 0, 0, []), (69, .invokevirtual 449, 3, 1, 1, 145, 0, 0, [(0, 12)]), (72, .istore_n 3, 1, 3, 0, 0, 0, 0, []), (73, .iconst 0, 1, 0, 0, 0, 0, 0, []), (74, .istore 4, 2, 4, 0, 0, 0, 0, []), (76, .iload 4, 2, 4, 0, 0, 0, 0, []), (78, .iload_n 3, 1, 3, 0, 0, 0, 0, []), (79, .if_icmp .ge 148, 3, 227, 0, 0, 0, 0, [])],
  [(82, .aload_n 0, 1, 0, 0, 0, 0, 0, []), (83, .iload 4, 2, 4, 0, 0, 0, 0, []), (85, .bipush 48, 2, 0, 0, 0, 0, 48, []), (87, .invokevirtual 452, 3, 2, 3, 146, 9, 0, [(0, 12)]), (90, .aload_n 0, 1, 0, 0, 0, 0, 0, []), (91, .iconst 0, 1, 0, 0, 0, 0, 0, []), (92, .iconst 0, 1, 0, 0, 0, 0, 0, []), (93, .bipush 48, 2, 0, 0, 0, 0, 48, []), (95, .iconst 0, 1, 0, 0, 0, 0, 0, [])],
  [(96, .invokevirtual 334, 3, 3, 5, 12, 0, 0, [(0, 12)]), (99, .bipush (-2), 2, 0, 0, 0, 0, (-2), []), (101, .if_icmp .ne 7, 3, 108, 0, 0, 0, 0, []), (104, .iconst 1, 1, 0, 0, 0, 0, 1, []), (105, .goto 4, 3, 109, 0, 0, 0, 0, []), (108, .iconst 0, 1, 0, 0, 0, 0, 0, []), (109, .istore 5, 2, 5, 0, 0, 0, 0, []), (111, .iload 5, 2, 5, 0, 0, 0, 0, [])],
  [(113, .ifCond .ne 17, 3, 130, 0, 0, 0, 0, []), (116, .aload_n 0, 1, 0, 0, 0, 0, 0, []), (117, .bipush 48, 2, 0, 0, 0, 0, 48, []), (119, .iload_n 1, 1, 1, 0, 0, 0, 0, []), (120, .invokevirtual 455, 3, 4, 3, 147, 0, 0, [(0, 12)]), (123, .ifCond .eq 7, 3, 130, 0, 0, 0, 0, []), (126, .iconst 1, 1, 0, 0, 0, 0, 1, []), (127, .goto 4, 3, 131, 0, 0, 0, 0, [])],
  [(130, .iconst 0, 1, 0, 0, 0, 0, 0, []), (131, .istore 6, 2, 6, 0, 0, 0, 0, []), (133, .aload_n 0, 1, 0, 0, 0, 0, 0, []), (134, .getfield 90, 3, 12, 47, 52, 2, 47, []), (137, .iload_n 2, 1, 2, 0, 0, 0, 0, []), (138, .dup2, 1, 0, 0, 0, 0, 0, []), (139, .iaload, 1, 0, 0, 0, 0, 0, []), (140, .iload 5, 2, 5, 0, 0, 0, 0, []), (142, .ifCond .eq 7, 3, 149, 0, 0, 0, 0, [])],
  [(145, .iconst 1, 1, 0, 0, 0, 0, 1, []), (146, .goto 4, 3, 150, 0, 0, 0, 0, []), (149, .iconst 0, 1, 0, 0, 0, 0, 0, []), (150, .iadd, 1, 0, 0, 0, 0, 0, []), (151, .iastore, 1, 0, 0, 0, 0, 0, []), (152, .aload_n 0, 1, 0, 0, 0, 0, 0, []), (153, .getfield 90, 3, 12, 47, 52, 2, 47, []), (156, .iload_n 2, 1, 2, 0, 0, 0, 0, []), (157, .iconst 1, 1, 0, 0, 0, 0, 1, []), (158, .iadd, 1, 0, 0, 0, 0, 0, []), (159, .dup2, 1, 0, 0, 0, 0, 0, [])],
  [(160, .iaload, 1, 0, 0, 0, 0, 0, []), (161, .iload 6, 2, 6, 0, 0, 0, 0, []), (163, .ifCond .eq 7, 3, 170, 0, 0, 0, 0, []), (166, .iconst 1, 1, 0, 0, 0, 0, 1, []), (167, .goto 4, 3, 171, 0, 0, 0, 0, []), (170, .iconst 0, 1, 0, 0, 0, 0, 0, []), (171, .iadd, 1, 0, 0, 0, 0, 0, []), (172, .iastore, 1, 0, 0, 0, 0, 0, []), (173, .iload 5, 2, 5, 0, 0, 0, 0, []), (175, .ifCond .ne 46, 3, 221, 0, 0, 0, 0, [])],
  [(178, .iload 6, 2, 6, 0, 0, 0, 0, []), (180, .ifCond .eq 6, 3, 186, 0, 0, 0, 0, []), (183, .goto 38, 3, 221, 0, 0, 0, 0, []), (186, .aload_n 0, 1, 0, 0, 0, 0, 0, []), (187, .getfield 90, 3, 12, 47, 52, 2, 47, []), (190, .iload_n 2, 1, 2, 0, 0, 0, 0, []), (191, .iconst 2, 1, 0, 0, 0, 0, 2, [])],
  [(192, .iadd, 1, 0, 0, 0, 0, 0, []), (193, .dup2, 1, 0, 0, 0, 0, 0, []), (194, .iaload, 1, 0, 0, 0, 0, 0, []), (195, .iconst 1, 1, 0, 0, 0, 0, 1, []), (196, .iadd, 1, 0, 0, 0, 0, 0, []), (197, .iastore, 1, 0, 0, 0, 0, 0, []), (198, .aload_n 0, 1, 0, 0, 0, 0, 0, []), (199, .getfield 90, 3, 12, 47, 52, 2, 47, []), (202, .iload_n 2, 1, 2, 0, 0, 0, 0, []), (203, .iconst 3, 1, 0, 0, 0, 0, 3, []), (204, .iadd, 1, 0, 0, 0, 0, 0, []), (205, .iaload, 1, 0, 0, 0, 0, 0, []), (206, .bipush (-2), 2, 0, 0, 0, 0, (-2), [])],
  [(208, .if_icmp .ne 13, 3, 221, 0, 0, 0, 0, []), (211, .aload_n 0, 1, 0, 0, 0, 0, 0, []), (212, .getfield 90, 3, 12, 47, 52, 2, 47, []), (215, .iload_n 2, 1, 2, 0, 0, 0, 0, []), (216, .iconst 3, 1, 0, 0, 0, 0, 3, []), (217, .iadd, 1, 0, 0, 0, 0, 0, []), (218, .iload 4, 2, 4, 0, 0, 0, 0, []), (220, .iastore, 1, 0, 0, 0, 0, 0, []), (221, .iinc 4 1, 3, 4, 0, 0, 0, 1, [])],
  [(224, .goto (-148), 3, 76, 0, 0, 0, 0, []), (227, .return_, 1, 0, 0, 0, 0, 0, [])]]
def i_N_laysMutants : ai_I := ((⟨"SuiteBenchModel", "laysMutants", "(I)V"⟩, prog_14_method_96_code, 7, none, 9, 8, 187, 0, 1, 0, 12) : ai_I)
def o_N_laysMutants (a : Nat) : SP := match a with
  | 0 => f_N_laysWay
  | 1 => f_N_mutantMany
  | 2 => f_N_laysMutant
  | 3 => f_N_unlike
  | 4 => f_N_doesFail
  | _ => fun _ _ _ _ _ => False
theorem mo_N_laysMutants : ∀ a, ai_mono (o_N_laysMutants a)
  | 0 => mf_N_laysWay
  | 1 => mf_N_mutantMany
  | 2 => mf_N_laysMutant
  | 3 => mf_N_unlike
  | 4 => mf_N_doesFail
  | _ + 5 => fun _ _ _ _ _ _ _ h => h
def f_N_laysMutants : SP := ai_M o_N_laysMutants 0 7 k_N_laysMutants
theorem mf_N_laysMutants : ai_mono f_N_laysMutants := M_mono mo_N_laysMutants
abbrev cal_N_laysMutants : List ai_I := [i_N_laysWay, i_N_mutantMany, i_N_laysMutant, i_N_unlike, i_N_doesFail]
theorem a_N_laysMutants : ai_all "SuiteBenchModel" prog_14_method_96_code 7 kc_N cal_N_laysMutants 8 187 false none k_N_laysMutants = true := by decide +kernel
theorem w_N_laysMutants : ai_CW i_N_laysMutants := ⟨(tk_mem (l := [((Jvm.Cond.code ({ cls := "SuiteBenchModel", name := "laysMutants", desc := "(I)V" } : Jvm.MethodName) prog_14_method_96_code (7 : Nat) (Option.none : Option Jvm.ClassFile.FieldType)), 9, 188)]) (by decide +kernel) _ (List.mem_singleton.mpr rfl)), (tk_mem (l := [((Jvm.Cond.initialized "SuiteBenchModel"), 1, 15)]) (by decide +kernel) _ (List.mem_singleton.mpr rfl)), ⟨by decide +kernel, by decide +kernel, by decide +kernel⟩, ⟨(tk_mem (l := [((Jvm.Cond.instanceMethod ({ cls := "SuiteBenchModel", name := "laysMutants", desc := "(I)V" } : Jvm.MethodName)), 9, 187)]) (by decide +kernel) _ (List.mem_singleton.mpr rfl)), gw_sel 127 (by decide +kernel), .inl ⟨_, _, rfl⟩⟩⟩
theorem c_N_laysMutants {E2 : (Nat → Nat) → State → Heap → Prop} (hE : ai_XH E2) : ai_S E2 i_N_laysMutants f_N_laysMutants := snd_M (by decide) rfl (by decide) a_N_laysMutants kc_N_ok (by rfl) (by decide) (fun a i h => match a, h with
    | 0, h => by cases h; exact ⟨c_N_laysWay hE, w_N_laysWay⟩
    | 1, h => by cases h; exact ⟨c_N_mutantMany hE, w_N_mutantMany⟩
    | 2, h => by cases h; exact ⟨c_N_laysMutant hE, w_N_laysMutant⟩
    | 3, h => by cases h; exact ⟨c_N_unlike hE, w_N_unlike⟩
    | 4, h => by cases h; exact ⟨c_N_doesFail hE, w_N_doesFail⟩
    | _ + 5, h => by simp [cal_N_laysMutants, ai_nth] at h)
def k_N_mutants : ai_C := [
  [(0, .aload_n 0, 1, 0, 0, 0, 0, 0, []), (1, .iconst 0, 1, 0, 0, 0, 0, 0, []), (2, .putfield 145, 3, 12, 0, 67, 0, 0, []), (5, .iload_n 1, 1, 1, 0, 0, 0, 0, []), (6, .ifCond .lt 17, 3, 23, 0, 0, 0, 0, []), (9, .iload_n 1, 1, 1, 0, 0, 0, 0, []), (10, .iconst 3, 1, 0, 0, 0, 0, 3, []), (11, .if_icmp .gt 12, 3, 23, 0, 0, 0, 0, []), (14, .iload_n 2, 1, 2, 0, 0, 0, 0, []), (15, .ifCond .lt 8, 3, 23, 0, 0, 0, 0, [])],
  [(18, .iload_n 2, 1, 2, 0, 0, 0, 0, []), (19, .iconst 4, 1, 0, 0, 0, 0, 4, []), (20, .if_icmp .le 5, 3, 25, 0, 0, 0, 0, []), (23, .iconst (-1), 1, 0, 0, 0, 0, (-1), []), (24, .ireturn, 1, 0, 0, 0, 0, 0, []), (25, .iload_n 2, 1, 2, 0, 0, 0, 0, []), (26, .ifCond .ne 8, 3, 34, 0, 0, 0, 0, []), (29, .aload_n 0, 1, 0, 0, 0, 0, 0, []), (30, .invokevirtual 449, 3, 0, 1, 145, 0, 0, [(0, 12)])],
  [(33, .ireturn, 1, 0, 0, 0, 0, 0, []), (34, .aload_n 0, 1, 0, 0, 0, 0, 0, []), (35, .iload_n 1, 1, 1, 0, 0, 0, 0, []), (36, .invokevirtual 458, 3, 1, 2, 148, 9, 0, [(0, 12)]), (39, .aload_n 0, 1, 0, 0, 0, 0, 0, []), (40, .getfield 90, 3, 12, 47, 52, 2, 47, []), (43, .iconst 4, 1, 0, 0, 0, 0, 4, []), (44, .iload_n 1, 1, 1, 0, 0, 0, 0, []), (45, .imul, 1, 0, 0, 0, 0, 0, []), (46, .iload_n 2, 1, 2, 0, 0, 0, 0, []), (47, .iadd, 1, 0, 0, 0, 0, 0, [])],
  [(48, .iconst 1, 1, 0, 0, 0, 0, 1, []), (49, .isub, 1, 0, 0, 0, 0, 0, []), (50, .iaload, 1, 0, 0, 0, 0, 0, []), (51, .ireturn, 1, 0, 0, 0, 0, 0, [])]]
def i_N_mutants : ai_I := ((⟨"SuiteBenchModel", "mutants", "(II)I"⟩, prog_14_method_97_code, 3, (some .int), 0, 9, 213, 0, 2, 0, 12) : ai_I)
def o_N_mutants (a : Nat) : SP := match a with
  | 0 => f_N_mutantMany
  | 1 => f_N_laysMutants
  | _ => fun _ _ _ _ _ => False
theorem mo_N_mutants : ∀ a, ai_mono (o_N_mutants a)
  | 0 => mf_N_mutantMany
  | 1 => mf_N_laysMutants
  | _ + 2 => fun _ _ _ _ _ _ _ h => h
def f_N_mutants : SP := ai_M o_N_mutants 0 3 k_N_mutants
theorem mf_N_mutants : ai_mono f_N_mutants := M_mono mo_N_mutants
abbrev cal_N_mutants : List ai_I := [i_N_mutantMany, i_N_laysMutants]
theorem a_N_mutants : ai_all "SuiteBenchModel" prog_14_method_97_code 3 kc_N cal_N_mutants 9 213 false (some .int) k_N_mutants = true := by decide +kernel
theorem w_N_mutants : ai_CW i_N_mutants := ⟨(tk_mem (l := [((Jvm.Cond.code ({ cls := "SuiteBenchModel", name := "mutants", desc := "(II)I" } : Jvm.MethodName) prog_14_method_97_code (3 : Nat) (Option.some Jvm.ClassFile.FieldType.int)), 9, 176)]) (by decide +kernel) _ (List.mem_singleton.mpr rfl)), (tk_mem (l := [((Jvm.Cond.initialized "SuiteBenchModel"), 1, 15)]) (by decide +kernel) _ (List.mem_singleton.mpr rfl)), ⟨by decide +kernel, by decide +kernel, by decide +kernel⟩, ⟨(tk_mem (l := [((Jvm.Cond.instanceMethod ({ cls := "SuiteBenchModel", name := "mutants", desc := "(II)I" } : Jvm.MethodName)), 9, 174)]) (by decide +kernel) _ (List.mem_singleton.mpr rfl)), (tk_mem (l := [((Jvm.Cond.selects "SuiteBenchModel" ({ cls := "SuiteBenchModel", name := "mutants", desc := "(II)I" } : Jvm.MethodName) ({ cls := "SuiteBenchModel", name := "mutants", desc := "(II)I" } : Jvm.MethodName)), 9, 175)]) (by decide +kernel) _ (List.mem_singleton.mpr rfl)), .inl ⟨_, _, rfl⟩⟩⟩
theorem c_N_mutants {E2 : (Nat → Nat) → State → Heap → Prop} (hE : ai_XH E2) : ai_S E2 i_N_mutants f_N_mutants := snd_M (by decide) rfl (by decide) a_N_mutants kc_N_ok (by rfl) (by decide) (fun a i h => match a, h with
    | 0, h => by cases h; exact ⟨c_N_mutantMany hE, w_N_mutantMany⟩
    | 1, h => by cases h; exact ⟨c_N_laysMutants hE, w_N_laysMutants⟩
    | _ + 2, h => by simp [cal_N_mutants, ai_nth] at h)
def k_U_has : ai_C := [
  [(0, .iload_n 1, 1, 1, 0, 0, 0, 0, []), (1, .ifCond .lt 15, 3, 16, 0, 0, 0, 0, []), (4, .iload_n 1, 1, 1, 0, 0, 0, 0, []), (5, .aload_n 0, 1, 0, 0, 0, 0, 0, []), (6, .getfield 71, 3, 2, 15, 21, 0, 15, []), (9, .if_icmp .ge 7, 3, 16, 0, 0, 0, 0, []), (12, .iconst 1, 1, 0, 0, 0, 0, 1, []), (13, .goto 4, 3, 17, 0, 0, 0, 0, [])],
  [(16, .iconst 0, 1, 0, 0, 0, 0, 0, []), (17, .ireturn, 1, 0, 0, 0, 3, 0, [])]]
def i_U_has : ai_I := ((⟨"SuiteBench$Mutants", "has", "(I)Z"⟩, prog_4_method_5_code, 2, (some .boolean), 3, 0, 0, 0, 1, 0, 2) : ai_I)
def o_U_has (_ : Nat) : SP := fun _ _ _ _ _ => False
theorem mo_U_has : ∀ a, ai_mono (o_U_has a) := fun _ _ _ _ _ _ _ _ h => h
def f_U_has : SP := ai_M o_U_has 0 2 k_U_has
theorem mf_U_has : ai_mono f_U_has := M_mono mo_U_has
abbrev cal_U_has : List ai_I := []
theorem a_U_has : ai_all "SuiteBench$Mutants" prog_4_method_5_code 2 kc_U cal_U_has 0 0 false (some .boolean) k_U_has = true := by decide +kernel
theorem w_U_has : ai_CW i_U_has := ⟨(tk_mem (l := [((Jvm.Cond.code ({ cls := "SuiteBench$Mutants", name := "has", desc := "(I)Z" } : Jvm.MethodName) prog_4_method_5_code (2 : Nat) (Option.some Jvm.ClassFile.FieldType.boolean)), 5, 148)]) (by decide +kernel) _ (List.mem_singleton.mpr rfl)), (tk_mem (l := [((Jvm.Cond.initialized "SuiteBench$Mutants"), 1, 11)]) (by decide +kernel) _ (List.mem_singleton.mpr rfl)), ⟨by decide +kernel, by decide +kernel, by decide +kernel⟩, ⟨(tk_mem (l := [((Jvm.Cond.instanceMethod ({ cls := "SuiteBench$Mutants", name := "has", desc := "(I)Z" } : Jvm.MethodName)), 5, 146)]) (by decide +kernel) _ (List.mem_singleton.mpr rfl)), (tk_mem (l := [((Jvm.Cond.selects "SuiteBench$Mutants" ({ cls := "SuiteBench$Mutants", name := "has", desc := "(I)Z" } : Jvm.MethodName) ({ cls := "SuiteBench$Mutants", name := "has", desc := "(I)Z" } : Jvm.MethodName)), 5, 147)]) (by decide +kernel) _ (List.mem_singleton.mpr rfl)), .inl ⟨_, _, rfl⟩⟩⟩
theorem c_U_has {E2 : (Nat → Nat) → State → Heap → Prop} (hE : ai_XH E2) : ai_S E2 i_U_has f_U_has := snd_M (by decide) rfl (by decide) a_U_has kc_U_ok (by rfl) (by decide) (fun a i h => by simp [cal_U_has, ai_nth] at h)
def k_U_part : ai_C := [
  [(0, .aload_n 0, 1, 0, 0, 0, 0, 0, []), (1, .getfield 21, 3, 2, 5, 8, 2, 5, []), (4, .iload_n 1, 1, 1, 0, 0, 0, 0, []), (5, .iaload, 1, 0, 0, 0, 0, 0, []), (6, .bipush 8, 2, 0, 0, 0, 0, 8, []), (8, .ishr, 1, 0, 0, 0, 0, 0, []), (9, .istore_n 3, 1, 3, 0, 0, 0, 0, []), (10, .iload_n 2, 1, 2, 0, 0, 0, 0, []), (11, .tableswitch 45 0 2 #[25, 29, 33], 25, 56, 0, 0, 0, 0, [(0, 36), (1, 40), (2, 44)])],
  [],
  [(36, .iload_n 3, 1, 3, 0, 0, 0, 0, []), (37, .iconst 3, 1, 0, 0, 0, 0, 3, []), (38, .idiv, 1, 0, 0, 0, 0, 0, []), (39, .ireturn, 1, 0, 0, 0, 0, 0, []), (40, .iload_n 3, 1, 3, 0, 0, 0, 0, []), (41, .iconst 3, 1, 0, 0, 0, 0, 3, []), (42, .irem, 1, 0, 0, 0, 0, 0, []), (43, .ireturn, 1, 0, 0, 0, 0, 0, []), (44, .aload_n 0, 1, 0, 0, 0, 0, 0, []), (45, .getfield 21, 3, 2, 5, 8, 2, 5, [])],
  [(48, .iload_n 1, 1, 1, 0, 0, 0, 0, []), (49, .iaload, 1, 0, 0, 0, 0, 0, []), (50, .iconst 4, 1, 0, 0, 0, 0, 4, []), (51, .ishr, 1, 0, 0, 0, 0, 0, []), (52, .bipush 15, 2, 0, 0, 0, 0, 15, []), (54, .iand, 1, 0, 0, 0, 0, 0, []), (55, .ireturn, 1, 0, 0, 0, 0, 0, []), (56, .aload_n 0, 1, 0, 0, 0, 0, 0, []), (57, .getfield 21, 3, 2, 5, 8, 2, 5, []), (60, .iload_n 1, 1, 1, 0, 0, 0, 0, []), (61, .iaload, 1, 0, 0, 0, 0, 0, []), (62, .bipush 15, 2, 0, 0, 0, 0, 15, [])],
  [(64, .iand, 1, 0, 0, 0, 0, 0, []), (65, .ireturn, 1, 0, 0, 0, 0, 0, [])]]
def i_U_part : ai_I := ((⟨"SuiteBench$Mutants", "part", "(II)I"⟩, prog_4_method_7_code, 4, (some .int), 0, 0, 0, 0, 2, 0, 2) : ai_I)
def o_U_part (_ : Nat) : SP := fun _ _ _ _ _ => False
theorem mo_U_part : ∀ a, ai_mono (o_U_part a) := fun _ _ _ _ _ _ _ _ h => h
def f_U_part : SP := ai_M o_U_part 0 4 k_U_part
theorem mf_U_part : ai_mono f_U_part := M_mono mo_U_part
abbrev cal_U_part : List ai_I := []
theorem a_U_part : ai_all "SuiteBench$Mutants" prog_4_method_7_code 4 kc_U cal_U_part 0 0 false (some .int) k_U_part = true := by decide +kernel
theorem w_U_part : ai_CW i_U_part := ⟨(tk_mem (l := [((Jvm.Cond.code ({ cls := "SuiteBench$Mutants", name := "part", desc := "(II)I" } : Jvm.MethodName) prog_4_method_7_code (4 : Nat) (Option.some Jvm.ClassFile.FieldType.int)), 5, 152)]) (by decide +kernel) _ (List.mem_singleton.mpr rfl)), (tk_mem (l := [((Jvm.Cond.initialized "SuiteBench$Mutants"), 1, 11)]) (by decide +kernel) _ (List.mem_singleton.mpr rfl)), ⟨by decide +kernel, by decide +kernel, by decide +kernel⟩, ⟨(tk_mem (l := [((Jvm.Cond.instanceMethod ({ cls := "SuiteBench$Mutants", name := "part", desc := "(II)I" } : Jvm.MethodName)), 5, 150)]) (by decide +kernel) _ (List.mem_singleton.mpr rfl)), (tk_mem (l := [((Jvm.Cond.selects "SuiteBench$Mutants" ({ cls := "SuiteBench$Mutants", name := "part", desc := "(II)I" } : Jvm.MethodName) ({ cls := "SuiteBench$Mutants", name := "part", desc := "(II)I" } : Jvm.MethodName)), 5, 151)]) (by decide +kernel) _ (List.mem_singleton.mpr rfl)), .inl ⟨_, _, rfl⟩⟩⟩
theorem c_U_part {E2 : (Nat → Nat) → State → Heap → Prop} (hE : ai_XH E2) : ai_S E2 i_U_part f_U_part := snd_M (by decide) rfl (by decide) a_U_part kc_U_ok (by rfl) (by decide) (fun a i h => by simp [cal_U_part, ai_nth] at h)
def k_B_mutant : ai_C := [
  [(0, .aload_n 0, 1, 0, 0, 0, 0, 0, []), (1, .getfield 63, 3, 11, 6, 17, 2, 6, []), (4, .iload_n 1, 1, 1, 0, 0, 0, 0, []), (5, .invokevirtual 263, 3, 0, 2, 119, 0, 0, [(0, 2)]), (8, .ifCond .eq 12, 3, 20, 0, 0, 0, 0, []), (11, .iload_n 2, 1, 2, 0, 0, 0, 0, []), (12, .ifCond .lt 8, 3, 20, 0, 0, 0, 0, []), (15, .iload_n 2, 1, 2, 0, 0, 0, 0, [])],
  [(16, .iconst 3, 1, 0, 0, 0, 0, 3, []), (17, .if_icmp .le 5, 3, 22, 0, 0, 0, 0, []), (20, .iconst (-1), 1, 0, 0, 0, 0, (-1), []), (21, .ireturn, 1, 0, 0, 0, 0, 0, []), (22, .aload_n 0, 1, 0, 0, 0, 0, 0, []), (23, .getfield 63, 3, 11, 6, 17, 2, 6, []), (26, .iload_n 1, 1, 1, 0, 0, 0, 0, []), (27, .iload_n 2, 1, 2, 0, 0, 0, 0, []), (28, .invokevirtual 265, 3, 1, 3, 120, 0, 0, [(0, 2)]), (31, .ireturn, 1, 0, 0, 0, 0, 0, [])]]
def i_B_mutant : ai_I := ((⟨"SuiteBench", "mutant", "(II)I"⟩, prog_1_method_25_code, 3, (some .int), 0, 1, 23, 0, 2, 0, 11) : ai_I)
def o_B_mutant (a : Nat) : SP := match a with
  | 0 => f_U_has
  | 1 => f_U_part
  | _ => fun _ _ _ _ _ => False
theorem mo_B_mutant : ∀ a, ai_mono (o_B_mutant a)
  | 0 => mf_U_has
  | 1 => mf_U_part
  | _ + 2 => fun _ _ _ _ _ _ _ h => h
def f_B_mutant : SP := ai_M o_B_mutant 0 3 k_B_mutant
theorem mf_B_mutant : ai_mono f_B_mutant := M_mono mo_B_mutant
abbrev cal_B_mutant : List ai_I := [i_U_has, i_U_part]
theorem a_B_mutant : ai_all "SuiteBench" prog_1_method_25_code 3 kc_B cal_B_mutant 1 23 false (some .int) k_B_mutant = true := by decide +kernel
theorem w_B_mutant : ai_CW i_B_mutant := ⟨(tk_mem (l := [((Jvm.Cond.code ({ cls := "SuiteBench", name := "mutant", desc := "(II)I" } : Jvm.MethodName) prog_1_method_25_code (3 : Nat) (Option.some Jvm.ClassFile.FieldType.int)), 5, 144)]) (by decide +kernel) _ (List.mem_singleton.mpr rfl)), (tk_mem (l := [((Jvm.Cond.initialized "SuiteBench"), 1, 1)]) (by decide +kernel) _ (List.mem_singleton.mpr rfl)), ⟨by decide +kernel, by decide +kernel, by decide +kernel⟩, ⟨(tk_mem (l := [((Jvm.Cond.instanceMethod ({ cls := "SuiteBench", name := "mutant", desc := "(II)I" } : Jvm.MethodName)), 5, 142)]) (by decide +kernel) _ (List.mem_singleton.mpr rfl)), (tk_mem (l := [((Jvm.Cond.selects "SuiteBench" ({ cls := "SuiteBench", name := "mutant", desc := "(II)I" } : Jvm.MethodName) ({ cls := "SuiteBench", name := "mutant", desc := "(II)I" } : Jvm.MethodName)), 5, 143)]) (by decide +kernel) _ (List.mem_singleton.mpr rfl)), .inl ⟨_, _, rfl⟩⟩⟩
theorem c_B_mutant {E2 : (Nat → Nat) → State → Heap → Prop} (hE : ai_XH E2) : ai_S E2 i_B_mutant f_B_mutant := snd_M (by decide) rfl (by decide) a_B_mutant kc_B_ok (by rfl) (by decide) (fun a i h => match a, h with
    | 0, h => by cases h; exact ⟨c_U_has hE, w_U_has⟩
    | 1, h => by cases h; exact ⟨c_U_part hE, w_U_part⟩
    | _ + 2, h => by simp [cal_B_mutant, ai_nth] at h)
def k_N_isMutant : ai_C := [
  [(0, .iload_n 1, 1, 1, 0, 0, 0, 0, []), (1, .ifCond .lt 15, 3, 16, 0, 0, 0, 0, []), (4, .iload_n 1, 1, 1, 0, 0, 0, 0, []), (5, .aload_n 0, 1, 0, 0, 0, 0, 0, []), (6, .invokevirtual 449, 3, 0, 1, 145, 0, 0, [(0, 12)]), (9, .if_icmp .ge 7, 3, 16, 0, 0, 0, 0, []), (12, .iconst 1, 1, 0, 0, 0, 0, 1, []), (13, .goto 4, 3, 17, 0, 0, 0, 0, [])],
  [(16, .iconst 0, 1, 0, 0, 0, 0, 0, []), (17, .ireturn, 1, 0, 0, 0, 3, 0, [])]]
def i_N_isMutant : ai_I := ((⟨"SuiteBenchModel", "isMutant", "(I)Z"⟩, prog_14_method_98_code, 2, (some .boolean), 3, 3, 64, 0, 1, 0, 12) : ai_I)
def o_N_isMutant (a : Nat) : SP := match a with
  | 0 => f_N_mutantMany
  | _ => fun _ _ _ _ _ => False
theorem mo_N_isMutant : ∀ a, ai_mono (o_N_isMutant a)
  | 0 => mf_N_mutantMany
  | _ + 1 => fun _ _ _ _ _ _ _ h => h
def f_N_isMutant : SP := ai_M o_N_isMutant 0 2 k_N_isMutant
theorem mf_N_isMutant : ai_mono f_N_isMutant := M_mono mo_N_isMutant
abbrev cal_N_isMutant : List ai_I := [i_N_mutantMany]
theorem a_N_isMutant : ai_all "SuiteBenchModel" prog_14_method_98_code 2 kc_N cal_N_isMutant 3 64 false (some .boolean) k_N_isMutant = true := by decide +kernel
theorem w_N_isMutant : ai_CW i_N_isMutant := ⟨(tk_mem (l := [((Jvm.Cond.code ({ cls := "SuiteBenchModel", name := "isMutant", desc := "(I)Z" } : Jvm.MethodName) prog_14_method_98_code (2 : Nat) (Option.some Jvm.ClassFile.FieldType.boolean)), 9, 208)]) (by decide +kernel) _ (List.mem_singleton.mpr rfl)), (tk_mem (l := [((Jvm.Cond.initialized "SuiteBenchModel"), 1, 15)]) (by decide +kernel) _ (List.mem_singleton.mpr rfl)), ⟨by decide +kernel, by decide +kernel, by decide +kernel⟩, ⟨(tk_mem (l := [((Jvm.Cond.instanceMethod ({ cls := "SuiteBenchModel", name := "isMutant", desc := "(I)Z" } : Jvm.MethodName)), 9, 207)]) (by decide +kernel) _ (List.mem_singleton.mpr rfl)), gw_sel 131 (by decide +kernel), .inl ⟨_, _, rfl⟩⟩⟩
theorem c_N_isMutant {E2 : (Nat → Nat) → State → Heap → Prop} (hE : ai_XH E2) : ai_S E2 i_N_isMutant f_N_isMutant := snd_M (by decide) rfl (by decide) a_N_isMutant kc_N_ok (by rfl) (by decide) (fun a i h => match a, h with
    | 0, h => by cases h; exact ⟨c_N_mutantMany hE, w_N_mutantMany⟩
    | _ + 1, h => by simp [cal_N_isMutant, ai_nth] at h)
def k_N_mutant : ai_C := [
  [(0, .aload_n 0, 1, 0, 0, 0, 0, 0, []), (1, .iconst 0, 1, 0, 0, 0, 0, 0, []), (2, .putfield 145, 3, 12, 0, 67, 0, 0, []), (5, .aload_n 0, 1, 0, 0, 0, 0, 0, []), (6, .iload_n 1, 1, 1, 0, 0, 0, 0, []), (7, .invokevirtual 461, 3, 0, 2, 149, 0, 0, [(0, 12)]), (10, .ifCond .eq 12, 3, 22, 0, 0, 0, 0, []), (13, .iload_n 2, 1, 2, 0, 0, 0, 0, []), (14, .ifCond .lt 8, 3, 22, 0, 0, 0, 0, [])],
  [(17, .iload_n 2, 1, 2, 0, 0, 0, 0, []), (18, .iconst 3, 1, 0, 0, 0, 0, 3, []), (19, .if_icmp .le 5, 3, 24, 0, 0, 0, 0, []), (22, .iconst (-1), 1, 0, 0, 0, 0, (-1), []), (23, .ireturn, 1, 0, 0, 0, 0, 0, []), (24, .aload_n 0, 1, 0, 0, 0, 0, 0, []), (25, .iload_n 1, 1, 1, 0, 0, 0, 0, []), (26, .invokevirtual 446, 3, 1, 2, 144, 9, 0, [(0, 12)]), (29, .iload_n 2, 1, 2, 0, 0, 0, 0, []), (30, .ifCond .ne 10, 3, 40, 0, 0, 0, 0, [])],
  [(33, .aload_n 0, 1, 0, 0, 0, 0, 0, []), (34, .getfield 434, 3, 12, 43, 140, 0, 43, []), (37, .goto 31, 3, 68, 0, 0, 0, 0, []), (40, .iload_n 2, 1, 2, 0, 0, 0, 0, []), (41, .iconst 1, 1, 0, 0, 0, 0, 1, []), (42, .if_icmp .ne 10, 3, 52, 0, 0, 0, 0, []), (45, .aload_n 0, 1, 0, 0, 0, 0, 0, []), (46, .getfield 437, 3, 12, 44, 141, 0, 44, [])],
  [(49, .goto 19, 3, 68, 0, 0, 0, 0, []), (52, .iload_n 2, 1, 2, 0, 0, 0, 0, []), (53, .iconst 2, 1, 0, 0, 0, 0, 2, []), (54, .if_icmp .ne 10, 3, 64, 0, 0, 0, 0, []), (57, .aload_n 0, 1, 0, 0, 0, 0, 0, []), (58, .getfield 440, 3, 12, 45, 142, 0, 45, []), (61, .goto 7, 3, 68, 0, 0, 0, 0, [])],
  [(64, .aload_n 0, 1, 0, 0, 0, 0, 0, []), (65, .getfield 443, 3, 12, 46, 143, 0, 46, []), (68, .ireturn, 1, 0, 0, 0, 0, 0, [])]]
def i_N_mutant : ai_I := ((⟨"SuiteBenchModel", "mutant", "(II)I"⟩, prog_14_method_99_code, 3, (some .int), 0, 4, 85, 0, 2, 0, 12) : ai_I)
def o_N_mutant (a : Nat) : SP := match a with
  | 0 => f_N_isMutant
  | 1 => f_N_tellsMutant
  | _ => fun _ _ _ _ _ => False
theorem mo_N_mutant : ∀ a, ai_mono (o_N_mutant a)
  | 0 => mf_N_isMutant
  | 1 => mf_N_tellsMutant
  | _ + 2 => fun _ _ _ _ _ _ _ h => h
def f_N_mutant : SP := ai_M o_N_mutant 0 3 k_N_mutant
theorem mf_N_mutant : ai_mono f_N_mutant := M_mono mo_N_mutant
abbrev cal_N_mutant : List ai_I := [i_N_isMutant, i_N_tellsMutant]
theorem a_N_mutant : ai_all "SuiteBenchModel" prog_14_method_99_code 3 kc_N cal_N_mutant 4 85 false (some .int) k_N_mutant = true := by decide +kernel
theorem w_N_mutant : ai_CW i_N_mutant := ⟨(tk_mem (l := [((Jvm.Cond.code ({ cls := "SuiteBenchModel", name := "mutant", desc := "(II)I" } : Jvm.MethodName) prog_14_method_99_code (3 : Nat) (Option.some Jvm.ClassFile.FieldType.int)), 9, 204)]) (by decide +kernel) _ (List.mem_singleton.mpr rfl)), (tk_mem (l := [((Jvm.Cond.initialized "SuiteBenchModel"), 1, 15)]) (by decide +kernel) _ (List.mem_singleton.mpr rfl)), ⟨by decide +kernel, by decide +kernel, by decide +kernel⟩, ⟨(tk_mem (l := [((Jvm.Cond.instanceMethod ({ cls := "SuiteBenchModel", name := "mutant", desc := "(II)I" } : Jvm.MethodName)), 9, 202)]) (by decide +kernel) _ (List.mem_singleton.mpr rfl)), (tk_mem (l := [((Jvm.Cond.selects "SuiteBenchModel" ({ cls := "SuiteBenchModel", name := "mutant", desc := "(II)I" } : Jvm.MethodName) ({ cls := "SuiteBenchModel", name := "mutant", desc := "(II)I" } : Jvm.MethodName)), 9, 203)]) (by decide +kernel) _ (List.mem_singleton.mpr rfl)), .inl ⟨_, _, rfl⟩⟩⟩
theorem c_N_mutant {E2 : (Nat → Nat) → State → Heap → Prop} (hE : ai_XH E2) : ai_S E2 i_N_mutant f_N_mutant := snd_M (by decide) rfl (by decide) a_N_mutant kc_N_ok (by rfl) (by decide) (fun a i h => match a, h with
    | 0, h => by cases h; exact ⟨c_N_isMutant hE, w_N_isMutant⟩
    | 1, h => by cases h; exact ⟨c_N_tellsMutant hE, w_N_tellsMutant⟩
    | _ + 2, h => by simp [cal_N_mutant, ai_nth] at h)
def k_U_unlikeOnes : ai_C := [
  [(0, .aload_n 0, 1, 0, 0, 0, 0, 0, []), (1, .getfield 12, 3, 2, 3, 5, 2, 3, []), (4, .aload_n 0, 1, 0, 0, 0, 0, 0, []), (5, .getfield 50, 3, 2, 0, 18, 2, 0, []), (8, .invokevirtual 102, 3, 0, 2, 32, 9, 0, [(0, 1)]), (11, .aload_n 0, 1, 0, 0, 0, 0, 0, []), (12, .aload_n 0, 1, 0, 0, 0, 0, 0, []), (13, .getfield 12, 3, 2, 3, 5, 2, 3, [])],
  [(16, .iload_n 1, 1, 1, 0, 0, 0, 0, []), (17, .invokevirtual 106, 3, 1, 3, 33, 9, 0, [(0, 2)]), (20, .aload_n 0, 1, 0, 0, 0, 0, 0, []), (21, .getfield 18, 3, 2, 4, 6, 2, 4, []), (24, .aload_n 0, 1, 0, 0, 0, 0, 0, []), (25, .getfield 50, 3, 2, 0, 18, 2, 0, []), (28, .invokevirtual 102, 3, 0, 2, 32, 9, 0, [(0, 1)]), (31, .aload_n 0, 1, 0, 0, 0, 0, 0, [])],
  [(32, .aload_n 0, 1, 0, 0, 0, 0, 0, []), (33, .getfield 18, 3, 2, 4, 6, 2, 4, []), (36, .iload_n 2, 1, 2, 0, 0, 0, 0, []), (37, .invokevirtual 106, 3, 1, 3, 33, 9, 0, [(0, 2)]), (40, .aload_n 0, 1, 0, 0, 0, 0, 0, []), (41, .getfield 57, 3, 2, 2, 20, 2, 2, []), (44, .aload_n 0, 1, 0, 0, 0, 0, 0, []), (45, .getfield 12, 3, 2, 3, 5, 2, 3, [])],
  [(48, .aload_n 0, 1, 0, 0, 0, 0, 0, []), (49, .getfield 18, 3, 2, 4, 6, 2, 4, []), (52, .invokevirtual 110, 3, 2, 3, 34, 0, 0, [(0, 5)]), (55, .ireturn, 1, 0, 0, 0, 0, 0, [])]]
def i_U_unlikeOnes : ai_I := ((⟨"SuiteBench$Mutants", "unlikeOnes", "(II)I"⟩, prog_4_method_10_code, 3, (some .int), 0, 3, 68, 0, 2, 0, 2) : ai_I)
def o_U_unlikeOnes (a : Nat) : SP := match a with
  | 0 => f_M_copy
  | 1 => f_U_dress
  | 2 => f_S_unlike
  | _ => fun _ _ _ _ _ => False
theorem mo_U_unlikeOnes : ∀ a, ai_mono (o_U_unlikeOnes a)
  | 0 => mf_M_copy
  | 1 => mf_U_dress
  | 2 => mf_S_unlike
  | _ + 3 => fun _ _ _ _ _ _ _ h => h
def f_U_unlikeOnes : SP := ai_M o_U_unlikeOnes 0 3 k_U_unlikeOnes
theorem mf_U_unlikeOnes : ai_mono f_U_unlikeOnes := M_mono mo_U_unlikeOnes
abbrev cal_U_unlikeOnes : List ai_I := [i_M_copy, i_U_dress, i_S_unlike]
theorem a_U_unlikeOnes : ai_all "SuiteBench$Mutants" prog_4_method_10_code 3 kc_U cal_U_unlikeOnes 3 68 false (some .int) k_U_unlikeOnes = true := by decide +kernel
theorem w_U_unlikeOnes : ai_CW i_U_unlikeOnes := ⟨(tk_mem (l := [((Jvm.Cond.code ({ cls := "SuiteBench$Mutants", name := "unlikeOnes", desc := "(II)I" } : Jvm.MethodName) prog_4_method_10_code (3 : Nat) (Option.some Jvm.ClassFile.FieldType.int)), 5, 160)]) (by decide +kernel) _ (List.mem_singleton.mpr rfl)), (tk_mem (l := [((Jvm.Cond.initialized "SuiteBench$Mutants"), 1, 11)]) (by decide +kernel) _ (List.mem_singleton.mpr rfl)), ⟨by decide +kernel, by decide +kernel, by decide +kernel⟩, ⟨(tk_mem (l := [((Jvm.Cond.instanceMethod ({ cls := "SuiteBench$Mutants", name := "unlikeOnes", desc := "(II)I" } : Jvm.MethodName)), 5, 158)]) (by decide +kernel) _ (List.mem_singleton.mpr rfl)), (tk_mem (l := [((Jvm.Cond.selects "SuiteBench$Mutants" ({ cls := "SuiteBench$Mutants", name := "unlikeOnes", desc := "(II)I" } : Jvm.MethodName) ({ cls := "SuiteBench$Mutants", name := "unlikeOnes", desc := "(II)I" } : Jvm.MethodName)), 5, 159)]) (by decide +kernel) _ (List.mem_singleton.mpr rfl)), .inl ⟨_, _, rfl⟩⟩⟩
theorem c_U_unlikeOnes {E2 : (Nat → Nat) → State → Heap → Prop} (hE : ai_XH E2) : ai_S E2 i_U_unlikeOnes f_U_unlikeOnes := snd_M (by decide) rfl (by decide) a_U_unlikeOnes kc_U_ok (by rfl) (by decide) (fun a i h => match a, h with
    | 0, h => by cases h; exact ⟨c_M_copy hE, w_M_copy⟩
    | 1, h => by cases h; exact ⟨c_U_dress hE, w_U_dress⟩
    | 2, h => by cases h; exact ⟨c_S_unlike hE, w_S_unlike⟩
    | _ + 3, h => by simp [cal_U_unlikeOnes, ai_nth] at h)
def k_B_parts : ai_C := [
  [(0, .aload_n 0, 1, 0, 0, 0, 0, 0, []), (1, .getfield 63, 3, 11, 6, 17, 2, 6, []), (4, .iload_n 1, 1, 1, 0, 0, 0, 0, []), (5, .invokevirtual 263, 3, 0, 2, 119, 0, 0, [(0, 2)]), (8, .ifCond .eq 14, 3, 22, 0, 0, 0, 0, []), (11, .aload_n 0, 1, 0, 0, 0, 0, 0, []), (12, .getfield 63, 3, 11, 6, 17, 2, 6, []), (15, .iload_n 2, 1, 2, 0, 0, 0, 0, [])],
  [(16, .invokevirtual 263, 3, 0, 2, 119, 0, 0, [(0, 2)]), (19, .ifCond .ne 5, 3, 24, 0, 0, 0, 0, []), (22, .iconst (-1), 1, 0, 0, 0, 0, (-1), []), (23, .ireturn, 1, 0, 0, 0, 0, 0, []), (24, .aload_n 0, 1, 0, 0, 0, 0, 0, []), (25, .getfield 63, 3, 11, 6, 17, 2, 6, []), (28, .iload_n 1, 1, 1, 0, 0, 0, 0, []), (29, .iload_n 2, 1, 2, 0, 0, 0, 0, []), (30, .invokevirtual 267, 3, 1, 3, 121, 0, 0, [(0, 2)])],
  [(33, .ireturn, 1, 0, 0, 0, 0, 0, [])]]
def i_B_parts : ai_I := ((⟨"SuiteBench", "parts", "(II)I"⟩, prog_1_method_26_code, 3, (some .int), 0, 4, 90, 0, 2, 0, 11) : ai_I)
def o_B_parts (a : Nat) : SP := match a with
  | 0 => f_U_has
  | 1 => f_U_unlikeOnes
  | _ => fun _ _ _ _ _ => False
theorem mo_B_parts : ∀ a, ai_mono (o_B_parts a)
  | 0 => mf_U_has
  | 1 => mf_U_unlikeOnes
  | _ + 2 => fun _ _ _ _ _ _ _ h => h
def f_B_parts : SP := ai_M o_B_parts 0 3 k_B_parts
theorem mf_B_parts : ai_mono f_B_parts := M_mono mo_B_parts
abbrev cal_B_parts : List ai_I := [i_U_has, i_U_unlikeOnes]
theorem a_B_parts : ai_all "SuiteBench" prog_1_method_26_code 3 kc_B cal_B_parts 4 90 false (some .int) k_B_parts = true := by decide +kernel
theorem w_B_parts : ai_CW i_B_parts := ⟨(tk_mem (l := [((Jvm.Cond.code ({ cls := "SuiteBench", name := "parts", desc := "(II)I" } : Jvm.MethodName) prog_1_method_26_code (3 : Nat) (Option.some Jvm.ClassFile.FieldType.int)), 5, 156)]) (by decide +kernel) _ (List.mem_singleton.mpr rfl)), (tk_mem (l := [((Jvm.Cond.initialized "SuiteBench"), 1, 1)]) (by decide +kernel) _ (List.mem_singleton.mpr rfl)), ⟨by decide +kernel, by decide +kernel, by decide +kernel⟩, ⟨(tk_mem (l := [((Jvm.Cond.instanceMethod ({ cls := "SuiteBench", name := "parts", desc := "(II)I" } : Jvm.MethodName)), 5, 154)]) (by decide +kernel) _ (List.mem_singleton.mpr rfl)), (tk_mem (l := [((Jvm.Cond.selects "SuiteBench" ({ cls := "SuiteBench", name := "parts", desc := "(II)I" } : Jvm.MethodName) ({ cls := "SuiteBench", name := "parts", desc := "(II)I" } : Jvm.MethodName)), 5, 155)]) (by decide +kernel) _ (List.mem_singleton.mpr rfl)), .inl ⟨_, _, rfl⟩⟩⟩
theorem c_B_parts {E2 : (Nat → Nat) → State → Heap → Prop} (hE : ai_XH E2) : ai_S E2 i_B_parts f_B_parts := snd_M (by decide) rfl (by decide) a_B_parts kc_B_ok (by rfl) (by decide) (fun a i h => match a, h with
    | 0, h => by cases h; exact ⟨c_U_has hE, w_U_has⟩
    | 1, h => by cases h; exact ⟨c_U_unlikeOnes hE, w_U_unlikeOnes⟩
    | _ + 2, h => by simp [cal_B_parts, ai_nth] at h)
def k_N_parts : ai_C := [
  [(0, .aload_n 0, 1, 0, 0, 0, 0, 0, []), (1, .iconst 0, 1, 0, 0, 0, 0, 0, []), (2, .putfield 145, 3, 12, 0, 67, 0, 0, []), (5, .aload_n 0, 1, 0, 0, 0, 0, 0, []), (6, .iload_n 1, 1, 1, 0, 0, 0, 0, []), (7, .invokevirtual 461, 3, 0, 2, 149, 0, 0, [(0, 12)]), (10, .ifCond .eq 11, 3, 21, 0, 0, 0, 0, []), (13, .aload_n 0, 1, 0, 0, 0, 0, 0, []), (14, .iload_n 2, 1, 2, 0, 0, 0, 0, []), (15, .invokevirtual 461, 3, 0, 2, 149, 0, 0, [(0, 12)])],
  [(18, .ifCond .ne 5, 3, 23, 0, 0, 0, 0, []), (21, .iconst (-1), 1, 0, 0, 0, 0, (-1), []), (22, .ireturn, 1, 0, 0, 0, 0, 0, []), (23, .aload_n 0, 1, 0, 0, 0, 0, 0, []), (24, .iload_n 1, 1, 1, 0, 0, 0, 0, []), (25, .bipush 48, 2, 0, 0, 0, 0, 48, []), (27, .invokevirtual 452, 3, 1, 3, 146, 9, 0, [(0, 12)]), (30, .aload_n 0, 1, 0, 0, 0, 0, 0, []), (31, .iload_n 2, 1, 2, 0, 0, 0, 0, [])],
  [(32, .bipush 72, 2, 0, 0, 0, 0, 72, []), (34, .invokevirtual 452, 3, 1, 3, 146, 9, 0, [(0, 12)]), (37, .aload_n 0, 1, 0, 0, 0, 0, 0, []), (38, .bipush 48, 2, 0, 0, 0, 0, 48, []), (40, .iconst 0, 1, 0, 0, 0, 0, 0, []), (41, .bipush 72, 2, 0, 0, 0, 0, 72, []), (43, .iconst 0, 1, 0, 0, 0, 0, 0, []), (44, .invokevirtual 334, 3, 2, 5, 12, 0, 0, [(0, 12)]), (47, .ireturn, 1, 0, 0, 0, 0, 0, [])]]
def i_N_parts : ai_I := ((⟨"SuiteBenchModel", "parts", "(II)I"⟩, prog_14_method_100_code, 3, (some .int), 0, 4, 92, 0, 2, 0, 12) : ai_I)
def o_N_parts (a : Nat) : SP := match a with
  | 0 => f_N_isMutant
  | 1 => f_N_laysMutant
  | 2 => f_N_unlike
  | _ => fun _ _ _ _ _ => False
theorem mo_N_parts : ∀ a, ai_mono (o_N_parts a)
  | 0 => mf_N_isMutant
  | 1 => mf_N_laysMutant
  | 2 => mf_N_unlike
  | _ + 3 => fun _ _ _ _ _ _ _ h => h
def f_N_parts : SP := ai_M o_N_parts 0 3 k_N_parts
theorem mf_N_parts : ai_mono f_N_parts := M_mono mo_N_parts
abbrev cal_N_parts : List ai_I := [i_N_isMutant, i_N_laysMutant, i_N_unlike]
theorem a_N_parts : ai_all "SuiteBenchModel" prog_14_method_100_code 3 kc_N cal_N_parts 4 92 false (some .int) k_N_parts = true := by decide +kernel
theorem w_N_parts : ai_CW i_N_parts := ⟨(tk_mem (l := [((Jvm.Cond.code ({ cls := "SuiteBenchModel", name := "parts", desc := "(II)I" } : Jvm.MethodName) prog_14_method_100_code (3 : Nat) (Option.some Jvm.ClassFile.FieldType.int)), 9, 212)]) (by decide +kernel) _ (List.mem_singleton.mpr rfl)), (tk_mem (l := [((Jvm.Cond.initialized "SuiteBenchModel"), 1, 15)]) (by decide +kernel) _ (List.mem_singleton.mpr rfl)), ⟨by decide +kernel, by decide +kernel, by decide +kernel⟩, ⟨(tk_mem (l := [((Jvm.Cond.instanceMethod ({ cls := "SuiteBenchModel", name := "parts", desc := "(II)I" } : Jvm.MethodName)), 9, 210)]) (by decide +kernel) _ (List.mem_singleton.mpr rfl)), (tk_mem (l := [((Jvm.Cond.selects "SuiteBenchModel" ({ cls := "SuiteBenchModel", name := "parts", desc := "(II)I" } : Jvm.MethodName) ({ cls := "SuiteBenchModel", name := "parts", desc := "(II)I" } : Jvm.MethodName)), 9, 211)]) (by decide +kernel) _ (List.mem_singleton.mpr rfl)), .inl ⟨_, _, rfl⟩⟩⟩
theorem c_N_parts {E2 : (Nat → Nat) → State → Heap → Prop} (hE : ai_XH E2) : ai_S E2 i_N_parts f_N_parts := snd_M (by decide) rfl (by decide) a_N_parts kc_N_ok (by rfl) (by decide) (fun a i h => match a, h with
    | 0, h => by cases h; exact ⟨c_N_isMutant hE, w_N_isMutant⟩
    | 1, h => by cases h; exact ⟨c_N_laysMutant hE, w_N_laysMutant⟩
    | 2, h => by cases h; exact ⟨c_N_unlike hE, w_N_unlike⟩
    | _ + 3, h => by simp [cal_N_parts, ai_nth] at h)
def k_U_smallOnes : ai_C := [
  [(0, .iconst 1, 1, 0, 0, 0, 0, 1, []), (1, .istore_n 2, 1, 2, 0, 0, 0, 0, []), (2, .iconst 0, 1, 0, 0, 0, 0, 0, []), (3, .istore_n 3, 1, 3, 0, 0, 0, 0, []), (4, .iload_n 3, 1, 3, 0, 0, 0, 0, []), (5, .iload_n 1, 1, 1, 0, 0, 0, 0, []), (6, .aload_n 0, 1, 0, 0, 0, 0, 0, []), (7, .getfield 50, 3, 2, 0, 18, 2, 0, []), (10, .getfield 77, 3, 1, 3, 29, 0, 3, []), (13, .imul, 1, 0, 0, 0, 0, 0, []), (14, .if_icmp .ge 15, 3, 29, 0, 0, 0, 0, [])],
  [(17, .iload_n 2, 1, 2, 0, 0, 0, 0, []), (18, .iconst 2, 1, 0, 0, 0, 0, 2, []), (19, .iload_n 1, 1, 1, 0, 0, 0, 0, []), (20, .imul, 1, 0, 0, 0, 0, 0, []), (21, .imul, 1, 0, 0, 0, 0, 0, []), (22, .istore_n 2, 1, 2, 0, 0, 0, 0, []), (23, .iinc 3 1, 3, 3, 0, 0, 0, 1, []), (26, .goto (-22), 3, 4, 0, 0, 0, 0, []), (29, .iload_n 2, 1, 2, 0, 0, 0, 0, []), (30, .ireturn, 1, 0, 0, 0, 0, 0, [])]]
def i_U_smallOnes : ai_I := ((⟨"SuiteBench$Mutants", "smallOnes", "(I)I"⟩, prog_4_method_19_code, 4, (some .int), 0, 0, 0, 0, 1, 0, 2) : ai_I)
def o_U_smallOnes (_ : Nat) : SP := fun _ _ _ _ _ => False
theorem mo_U_smallOnes : ∀ a, ai_mono (o_U_smallOnes a) := fun _ _ _ _ _ _ _ _ h => h
def f_U_smallOnes : SP := ai_M o_U_smallOnes 0 4 k_U_smallOnes
theorem mf_U_smallOnes : ai_mono f_U_smallOnes := M_mono mo_U_smallOnes
abbrev cal_U_smallOnes : List ai_I := []
theorem a_U_smallOnes : ai_all "SuiteBench$Mutants" prog_4_method_19_code 4 kc_U cal_U_smallOnes 0 0 false (some .int) k_U_smallOnes = true := by decide +kernel
theorem w_U_smallOnes : ai_CW i_U_smallOnes := ⟨(tk_mem (l := [((Jvm.Cond.code ({ cls := "SuiteBench$Mutants", name := "smallOnes", desc := "(I)I" } : Jvm.MethodName) prog_4_method_19_code (4 : Nat) (Option.some Jvm.ClassFile.FieldType.int)), 5, 168)]) (by decide +kernel) _ (List.mem_singleton.mpr rfl)), (tk_mem (l := [((Jvm.Cond.initialized "SuiteBench$Mutants"), 1, 11)]) (by decide +kernel) _ (List.mem_singleton.mpr rfl)), ⟨by decide +kernel, by decide +kernel, by decide +kernel⟩, ⟨(tk_mem (l := [((Jvm.Cond.instanceMethod ({ cls := "SuiteBench$Mutants", name := "smallOnes", desc := "(I)I" } : Jvm.MethodName)), 5, 166)]) (by decide +kernel) _ (List.mem_singleton.mpr rfl)), (tk_mem (l := [((Jvm.Cond.selects "SuiteBench$Mutants" ({ cls := "SuiteBench$Mutants", name := "smallOnes", desc := "(I)I" } : Jvm.MethodName) ({ cls := "SuiteBench$Mutants", name := "smallOnes", desc := "(I)I" } : Jvm.MethodName)), 5, 167)]) (by decide +kernel) _ (List.mem_singleton.mpr rfl)), .inl ⟨_, _, rfl⟩⟩⟩
theorem c_U_smallOnes {E2 : (Nat → Nat) → State → Heap → Prop} (hE : ai_XH E2) : ai_S E2 i_U_smallOnes f_U_smallOnes := snd_M (by decide) rfl (by decide) a_U_smallOnes kc_U_ok (by rfl) (by decide) (fun a i h => by simp [cal_U_smallOnes, ai_nth] at h)
def k_M_set : ai_C := [
  [(0, .iload_n 1, 1, 1, 0, 0, 0, 0, []), (1, .iconst 3, 1, 0, 0, 0, 0, 3, []), (2, .imul, 1, 0, 0, 0, 0, 0, []), (3, .iload_n 2, 1, 2, 0, 0, 0, 0, []), (4, .iadd, 1, 0, 0, 0, 0, 0, []), (5, .istore 5, 2, 5, 0, 0, 0, 0, []), (7, .aload_n 0, 1, 0, 0, 0, 0, 0, []), (8, .getfield 9, 3, 1, 0, 2, 2, 0, []), (11, .iload 5, 2, 5, 0, 0, 0, 0, []), (13, .iload_n 3, 1, 3, 0, 0, 0, 0, []), (14, .iastore, 1, 0, 0, 0, 0, 0, []), (15, .aload_n 0, 1, 0, 0, 0, 0, 0, [])],
  [(16, .getfield 15, 3, 1, 1, 3, 2, 1, []), (19, .iload 5, 2, 5, 0, 0, 0, 0, []), (21, .iload 4, 2, 4, 0, 0, 0, 0, []), (23, .iastore, 1, 0, 0, 0, 0, 0, []), (24, .return_, 1, 0, 0, 0, 0, 0, [])]]
def i_M_set : ai_I := ((⟨"SuiteBench$Machine", "set", "(IIII)V"⟩, prog_3_method_6_code, 6, none, 9, 0, 0, 0, 4, 0, 1) : ai_I)
def o_M_set (_ : Nat) : SP := fun _ _ _ _ _ => False
theorem mo_M_set : ∀ a, ai_mono (o_M_set a) := fun _ _ _ _ _ _ _ _ h => h
def f_M_set : SP := ai_M o_M_set 0 6 k_M_set
theorem mf_M_set : ai_mono f_M_set := M_mono mo_M_set
abbrev cal_M_set : List ai_I := []
theorem a_M_set : ai_all "SuiteBench$Machine" prog_3_method_6_code 6 kc_M cal_M_set 0 0 false none k_M_set = true := by decide +kernel
theorem w_M_set : ai_CW i_M_set := ⟨(tk_mem (l := [((Jvm.Cond.code ({ cls := "SuiteBench$Machine", name := "set", desc := "(IIII)V" } : Jvm.MethodName) prog_3_method_6_code (6 : Nat) (Option.none : Option Jvm.ClassFile.FieldType)), 5, 185)]) (by decide +kernel) _ (List.mem_singleton.mpr rfl)), (tk_mem (l := [((Jvm.Cond.initialized "SuiteBench$Machine"), 1, 5)]) (by decide +kernel) _ (List.mem_singleton.mpr rfl)), ⟨by decide +kernel, by decide +kernel, by decide +kernel⟩, ⟨(tk_mem (l := [((Jvm.Cond.instanceMethod ({ cls := "SuiteBench$Machine", name := "set", desc := "(IIII)V" } : Jvm.MethodName)), 5, 183)]) (by decide +kernel) _ (List.mem_singleton.mpr rfl)), (tk_mem (l := [((Jvm.Cond.selects "SuiteBench$Machine" ({ cls := "SuiteBench$Machine", name := "set", desc := "(IIII)V" } : Jvm.MethodName) ({ cls := "SuiteBench$Machine", name := "set", desc := "(IIII)V" } : Jvm.MethodName)), 5, 184)]) (by decide +kernel) _ (List.mem_singleton.mpr rfl)), .inl ⟨_, _, rfl⟩⟩⟩
theorem c_M_set {E2 : (Nat → Nat) → State → Heap → Prop} (hE : ai_XH E2) : ai_S E2 i_M_set f_M_set := snd_M (by decide) rfl (by decide) a_M_set kc_M_ok (by rfl) (by decide) (fun a i h => by simp [cal_M_set, ai_nth] at h)
def k_U_makeSmall : ai_C := [
  [(0, .aload_n 0, 1, 0, 0, 0, 0, 0, []), (1, .getfield 12, 3, 2, 3, 5, 2, 3, []), (4, .iload_n 1, 1, 1, 0, 0, 0, 0, []), (5, .putfield 74, 3, 1, 2, 24, 0, 2, []), (8, .aload_n 0, 1, 0, 0, 0, 0, 0, []), (9, .getfield 12, 3, 2, 3, 5, 2, 3, []), (12, .aload_n 0, 1, 0, 0, 0, 0, 0, []), (13, .getfield 50, 3, 2, 0, 18, 2, 0, [])],
  [(16, .getfield 77, 3, 1, 3, 29, 0, 3, []), (19, .putfield 77, 3, 1, 3, 29, 0, 3, []), (22, .iload_n 2, 1, 2, 0, 0, 0, 0, []), (23, .istore_n 3, 1, 3, 0, 0, 0, 0, []), (24, .iconst 0, 1, 0, 0, 0, 0, 0, []), (25, .istore 4, 2, 4, 0, 0, 0, 0, []), (27, .iload 4, 2, 4, 0, 0, 0, 0, []), (29, .iload_n 1, 1, 1, 0, 0, 0, 0, []), (30, .if_icmp .ge 62, 3, 92, 0, 0, 0, 0, [])],
  [(33, .iconst 0, 1, 0, 0, 0, 0, 0, []), (34, .istore 5, 2, 5, 0, 0, 0, 0, []), (36, .iload 5, 2, 5, 0, 0, 0, 0, []), (38, .aload_n 0, 1, 0, 0, 0, 0, 0, []), (39, .getfield 50, 3, 2, 0, 18, 2, 0, []), (42, .getfield 77, 3, 1, 3, 29, 0, 3, []), (45, .if_icmp .ge 41, 3, 86, 0, 0, 0, 0, [])],
  [(48, .aload_n 0, 1, 0, 0, 0, 0, 0, []), (49, .getfield 12, 3, 2, 3, 5, 2, 3, []), (52, .iload 4, 2, 4, 0, 0, 0, 0, []), (54, .iload 5, 2, 5, 0, 0, 0, 0, []), (56, .iload_n 1, 1, 1, 0, 0, 0, 0, []), (57, .iconst 2, 1, 0, 0, 0, 0, 2, []), (58, .if_icmp .ne 11, 3, 69, 0, 0, 0, 0, []), (61, .iload_n 3, 1, 3, 0, 0, 0, 0, []), (62, .iconst 1, 1, 0, 0, 0, 0, 1, []), (63, .ishr, 1, 0, 0, 0, 0, 0, [])],
  [(64, .iconst 1, 1, 0, 0, 0, 0, 1, []), (65, .iand, 1, 0, 0, 0, 0, 0, []), (66, .goto 4, 3, 70, 0, 0, 0, 0, []), (69, .iconst 0, 1, 0, 0, 0, 0, 0, []), (70, .iload_n 3, 1, 3, 0, 0, 0, 0, []), (71, .iconst 1, 1, 0, 0, 0, 0, 1, []), (72, .iand, 1, 0, 0, 0, 0, 0, []), (73, .invokevirtual 174, 3, 0, 5, 39, 9, 0, [(0, 1)]), (76, .iload_n 3, 1, 3, 0, 0, 0, 0, []), (77, .iload_n 1, 1, 1, 0, 0, 0, 0, []), (78, .ishr, 1, 0, 0, 0, 0, 0, []), (79, .istore_n 3, 1, 3, 0, 0, 0, 0, [])],
  [(80, .iinc 5 1, 3, 5, 0, 0, 0, 1, []), (83, .goto (-47), 3, 36, 0, 0, 0, 0, []), (86, .iinc 4 1, 3, 4, 0, 0, 0, 1, []), (89, .goto (-62), 3, 27, 0, 0, 0, 0, []), (92, .return_, 1, 0, 0, 0, 0, 0, [])]]
def i_U_makeSmall : ai_I := ((⟨"SuiteBench$Mutants", "makeSmall", "(II)V"⟩, prog_4_method_23_code, 6, none, 9, 1, 25, 0, 2, 0, 2) : ai_I)
def o_U_makeSmall (a : Nat) : SP := match a with
  | 0 => f_M_set
  | _ => fun _ _ _ _ _ => False
theorem mo_U_makeSmall : ∀ a, ai_mono (o_U_makeSmall a)
  | 0 => mf_M_set
  | _ + 1 => fun _ _ _ _ _ _ _ h => h
def f_U_makeSmall : SP := ai_M o_U_makeSmall 0 6 k_U_makeSmall
theorem mf_U_makeSmall : ai_mono f_U_makeSmall := M_mono mo_U_makeSmall
abbrev cal_U_makeSmall : List ai_I := [i_M_set]
theorem a_U_makeSmall : ai_all "SuiteBench$Mutants" prog_4_method_23_code 6 kc_U cal_U_makeSmall 1 25 false none k_U_makeSmall = true := by decide +kernel
theorem w_U_makeSmall : ai_CW i_U_makeSmall := ⟨(tk_mem (l := [((Jvm.Cond.code ({ cls := "SuiteBench$Mutants", name := "makeSmall", desc := "(II)V" } : Jvm.MethodName) prog_4_method_23_code (6 : Nat) (Option.none : Option Jvm.ClassFile.FieldType)), 5, 181)]) (by decide +kernel) _ (List.mem_singleton.mpr rfl)), (tk_mem (l := [((Jvm.Cond.initialized "SuiteBench$Mutants"), 1, 11)]) (by decide +kernel) _ (List.mem_singleton.mpr rfl)), ⟨by decide +kernel, by decide +kernel, by decide +kernel⟩, ⟨(tk_mem (l := [((Jvm.Cond.instanceMethod ({ cls := "SuiteBench$Mutants", name := "makeSmall", desc := "(II)V" } : Jvm.MethodName)), 5, 180)]) (by decide +kernel) _ (List.mem_singleton.mpr rfl)), gw_sel 46 (by decide +kernel), .inl ⟨_, _, rfl⟩⟩⟩
theorem c_U_makeSmall {E2 : (Nat → Nat) → State → Heap → Prop} (hE : ai_XH E2) : ai_S E2 i_U_makeSmall f_U_makeSmall := snd_M (by decide) rfl (by decide) a_U_makeSmall kc_U_ok (by rfl) (by decide) (fun a i h => match a, h with
    | 0, h => by cases h; exact ⟨c_M_set hE, w_M_set⟩
    | _ + 1, h => by simp [cal_U_makeSmall, ai_nth] at h)
def k_U_learnSmall : ai_C := [
  [(0, .iload_n 1, 1, 1, 0, 0, 0, 0, []), (1, .iconst 1, 1, 0, 0, 0, 0, 1, []), (2, .isub, 1, 0, 0, 0, 0, 0, []), (3, .iconst 2, 1, 0, 0, 0, 0, 2, []), (4, .imul, 1, 0, 0, 0, 0, 0, []), (5, .iload_n 2, 1, 2, 0, 0, 0, 0, []), (6, .iadd, 1, 0, 0, 0, 0, 0, []), (7, .istore 4, 2, 4, 0, 0, 0, 0, []), (9, .aload_n 0, 1, 0, 0, 0, 0, 0, []), (10, .getfield 38, 3, 2, 10, 14, 2, 10, []), (13, .iload 4, 2, 4, 0, 0, 0, 0, []), (15, .iaload, 1, 0, 0, 0, 0, 0, [])],
  [(16, .bipush (-9), 2, 0, 0, 0, 0, (-9), []), (18, .if_icmp .eq 4, 3, 22, 0, 0, 0, 0, []), (21, .return_, 1, 0, 0, 0, 0, 0, []), (22, .aload_n 0, 1, 0, 0, 0, 0, 0, []), (23, .getfield 38, 3, 2, 10, 14, 2, 10, []), (26, .iload 4, 2, 4, 0, 0, 0, 0, []), (28, .iconst 0, 1, 0, 0, 0, 0, 0, []), (29, .iastore, 1, 0, 0, 0, 0, 0, []), (30, .aload_n 0, 1, 0, 0, 0, 0, 0, []), (31, .getfield 41, 3, 2, 11, 15, 2, 11, [])],
  [(34, .iload 4, 2, 4, 0, 0, 0, 0, []), (36, .iconst 0, 1, 0, 0, 0, 0, 0, []), (37, .iastore, 1, 0, 0, 0, 0, 0, []), (38, .aload_n 0, 1, 0, 0, 0, 0, 0, []), (39, .iload_n 1, 1, 1, 0, 0, 0, 0, []), (40, .invokevirtual 167, 3, 0, 2, 40, 0, 0, [(0, 2)]), (43, .istore 5, 2, 5, 0, 0, 0, 0, []), (45, .iconst 0, 1, 0, 0, 0, 0, 0, []), (46, .istore 6, 2, 6, 0, 0, 0, 0, [])],
  [(48, .iload 6, 2, 6, 0, 0, 0, 0, []), (50, .iload 5, 2, 5, 0, 0, 0, 0, []), (52, .if_icmp .ge 73, 3, 125, 0, 0, 0, 0, []), (55, .aload_n 0, 1, 0, 0, 0, 0, 0, []), (56, .iload_n 1, 1, 1, 0, 0, 0, 0, []), (57, .iload 6, 2, 6, 0, 0, 0, 0, []), (59, .invokevirtual 170, 3, 1, 3, 41, 9, 0, [(0, 2)]), (62, .aload_n 3, 1, 3, 0, 0, 0, 0, []), (63, .aload_n 0, 1, 0, 0, 0, 0, 0, [])],
  [(64, .getfield 12, 3, 2, 3, 5, 2, 3, []), (67, .invokevirtual 127, 3, 2, 2, 37, 0, 0, [(0, 8)]), (70, .ifCond .ne 49, 3, 119, 0, 0, 0, 0, []), (73, .aload_n 0, 1, 0, 0, 0, 0, 0, []), (74, .getfield 38, 3, 2, 10, 14, 2, 10, []), (77, .iload 4, 2, 4, 0, 0, 0, 0, []), (79, .dup2, 1, 0, 0, 0, 0, 0, [])],
  [(80, .iaload, 1, 0, 0, 0, 0, 0, []), (81, .iconst 1, 1, 0, 0, 0, 0, 1, []), (82, .iadd, 1, 0, 0, 0, 0, 0, []), (83, .iastore, 1, 0, 0, 0, 0, 0, []), (84, .aload_n 0, 1, 0, 0, 0, 0, 0, []), (85, .getfield 41, 3, 2, 11, 15, 2, 11, []), (88, .iload 4, 2, 4, 0, 0, 0, 0, []), (90, .dup2, 1, 0, 0, 0, 0, 0, []), (91, .iaload, 1, 0, 0, 0, 0, 0, []), (92, .aload_n 0, 1, 0, 0, 0, 0, 0, []), (93, .getfield 57, 3, 2, 2, 20, 2, 2, [])],
  [(96, .aload_n 0, 1, 0, 0, 0, 0, 0, []), (97, .getfield 50, 3, 2, 0, 18, 2, 0, []), (100, .aload_n 0, 1, 0, 0, 0, 0, 0, []), (101, .getfield 12, 3, 2, 3, 5, 2, 3, []), (104, .invokevirtual 110, 3, 3, 3, 34, 0, 0, [(0, 5)]), (107, .bipush (-2), 2, 0, 0, 0, 0, (-2), []), (109, .if_icmp .ne 7, 3, 116, 0, 0, 0, 0, [])],
  [(112, .iconst 1, 1, 0, 0, 0, 0, 1, []), (113, .goto 4, 3, 117, 0, 0, 0, 0, []), (116, .iconst 0, 1, 0, 0, 0, 0, 0, []), (117, .iadd, 1, 0, 0, 0, 0, 0, []), (118, .iastore, 1, 0, 0, 0, 0, 0, []), (119, .iinc 6 1, 3, 6, 0, 0, 0, 1, []), (122, .goto (-74), 3, 48, 0, 0, 0, 0, []), (125, .return_, 1, 0, 0, 0, 0, 0, [])]]
def i_U_learnSmall : ai_I := ((⟨"SuiteBench$Mutants", "learnSmall", "(IILSuiteBench$Tests;)V"⟩, prog_4_method_22_code, 7, none, 9, 2, 51, 0, 3, 0, 2) : ai_I)
def o_U_learnSmall (a : Nat) : SP := match a with
  | 0 => f_U_smallOnes
  | 1 => f_U_makeSmall
  | 2 => f_E_isFailedBy
  | 3 => f_S_unlike
  | _ => fun _ _ _ _ _ => False
theorem mo_U_learnSmall : ∀ a, ai_mono (o_U_learnSmall a)
  | 0 => mf_U_smallOnes
  | 1 => mf_U_makeSmall
  | 2 => mf_E_isFailedBy
  | 3 => mf_S_unlike
  | _ + 4 => fun _ _ _ _ _ _ _ h => h
def f_U_learnSmall : SP := ai_M o_U_learnSmall 0 7 k_U_learnSmall
theorem mf_U_learnSmall : ai_mono f_U_learnSmall := M_mono mo_U_learnSmall
abbrev cal_U_learnSmall : List ai_I := [i_U_smallOnes, i_U_makeSmall, i_E_isFailedBy, i_S_unlike]
theorem a_U_learnSmall : ai_all "SuiteBench$Mutants" prog_4_method_22_code 7 kc_U cal_U_learnSmall 2 51 false none k_U_learnSmall = true := by decide +kernel
theorem w_U_learnSmall : ai_CW i_U_learnSmall := ⟨(tk_mem (l := [((Jvm.Cond.code ({ cls := "SuiteBench$Mutants", name := "learnSmall", desc := "(IILSuiteBench$Tests;)V" } : Jvm.MethodName) prog_4_method_22_code (7 : Nat) (Option.none : Option Jvm.ClassFile.FieldType)), 5, 176)]) (by decide +kernel) _ (List.mem_singleton.mpr rfl)), (tk_mem (l := [((Jvm.Cond.initialized "SuiteBench$Mutants"), 1, 11)]) (by decide +kernel) _ (List.mem_singleton.mpr rfl)), ⟨by decide +kernel, by decide +kernel, by decide +kernel⟩, ⟨(tk_mem (l := [((Jvm.Cond.instanceMethod ({ cls := "SuiteBench$Mutants", name := "learnSmall", desc := "(IILSuiteBench$Tests;)V" } : Jvm.MethodName)), 5, 175)]) (by decide +kernel) _ (List.mem_singleton.mpr rfl)), gw_sel 45 (by decide +kernel), .inl ⟨_, _, rfl⟩⟩⟩
theorem c_U_learnSmall {E2 : (Nat → Nat) → State → Heap → Prop} (hE : ai_XH E2) : ai_S E2 i_U_learnSmall f_U_learnSmall := snd_M (by decide) rfl (by decide) a_U_learnSmall kc_U_ok (by rfl) (by decide) (fun a i h => match a, h with
    | 0, h => by cases h; exact ⟨c_U_smallOnes hE, w_U_smallOnes⟩
    | 1, h => by cases h; exact ⟨c_U_makeSmall hE, w_U_makeSmall⟩
    | 2, h => by cases h; exact ⟨c_E_isFailedBy hE, w_E_isFailedBy⟩
    | 3, h => by cases h; exact ⟨c_S_unlike hE, w_S_unlike⟩
    | _ + 4, h => by simp [cal_U_learnSmall, ai_nth] at h)
def k_U_smallPassing : ai_C := [
  [(0, .aload_n 0, 1, 0, 0, 0, 0, 0, []), (1, .iload_n 1, 1, 1, 0, 0, 0, 0, []), (2, .iload_n 2, 1, 2, 0, 0, 0, 0, []), (3, .aload_n 3, 1, 3, 0, 0, 0, 0, []), (4, .invokevirtual 163, 3, 0, 4, 42, 9, 0, [(0, 2)]), (7, .aload_n 0, 1, 0, 0, 0, 0, 0, []), (8, .getfield 38, 3, 2, 10, 14, 2, 10, []), (11, .iload_n 1, 1, 1, 0, 0, 0, 0, []), (12, .iconst 1, 1, 0, 0, 0, 0, 1, []), (13, .isub, 1, 0, 0, 0, 0, 0, []), (14, .iconst 2, 1, 0, 0, 0, 0, 2, []), (15, .imul, 1, 0, 0, 0, 0, 0, [])],
  [(16, .iload_n 2, 1, 2, 0, 0, 0, 0, []), (17, .iadd, 1, 0, 0, 0, 0, 0, []), (18, .iaload, 1, 0, 0, 0, 0, 0, []), (19, .ireturn, 1, 0, 0, 0, 0, 0, [])]]
def i_U_smallPassing : ai_I := ((⟨"SuiteBench$Mutants", "smallPassing", "(IILSuiteBench$Tests;)I"⟩, prog_4_method_20_code, 4, (some .int), 0, 3, 77, 0, 3, 0, 2) : ai_I)
def o_U_smallPassing (a : Nat) : SP := match a with
  | 0 => f_U_learnSmall
  | _ => fun _ _ _ _ _ => False
theorem mo_U_smallPassing : ∀ a, ai_mono (o_U_smallPassing a)
  | 0 => mf_U_learnSmall
  | _ + 1 => fun _ _ _ _ _ _ _ h => h
def f_U_smallPassing : SP := ai_M o_U_smallPassing 0 4 k_U_smallPassing
theorem mf_U_smallPassing : ai_mono f_U_smallPassing := M_mono mo_U_smallPassing
abbrev cal_U_smallPassing : List ai_I := [i_U_learnSmall]
theorem a_U_smallPassing : ai_all "SuiteBench$Mutants" prog_4_method_20_code 4 kc_U cal_U_smallPassing 3 77 false (some .int) k_U_smallPassing = true := by decide +kernel
theorem w_U_smallPassing : ai_CW i_U_smallPassing := ⟨(tk_mem (l := [((Jvm.Cond.code ({ cls := "SuiteBench$Mutants", name := "smallPassing", desc := "(IILSuiteBench$Tests;)I" } : Jvm.MethodName) prog_4_method_20_code (4 : Nat) (Option.some Jvm.ClassFile.FieldType.int)), 5, 172)]) (by decide +kernel) _ (List.mem_singleton.mpr rfl)), (tk_mem (l := [((Jvm.Cond.initialized "SuiteBench$Mutants"), 1, 11)]) (by decide +kernel) _ (List.mem_singleton.mpr rfl)), ⟨by decide +kernel, by decide +kernel, by decide +kernel⟩, ⟨(tk_mem (l := [((Jvm.Cond.instanceMethod ({ cls := "SuiteBench$Mutants", name := "smallPassing", desc := "(IILSuiteBench$Tests;)I" } : Jvm.MethodName)), 5, 170)]) (by decide +kernel) _ (List.mem_singleton.mpr rfl)), (tk_mem (l := [((Jvm.Cond.selects "SuiteBench$Mutants" ({ cls := "SuiteBench$Mutants", name := "smallPassing", desc := "(IILSuiteBench$Tests;)I" } : Jvm.MethodName) ({ cls := "SuiteBench$Mutants", name := "smallPassing", desc := "(IILSuiteBench$Tests;)I" } : Jvm.MethodName)), 5, 171)]) (by decide +kernel) _ (List.mem_singleton.mpr rfl)), .inl ⟨_, _, rfl⟩⟩⟩
theorem c_U_smallPassing {E2 : (Nat → Nat) → State → Heap → Prop} (hE : ai_XH E2) : ai_S E2 i_U_smallPassing f_U_smallPassing := snd_M (by decide) rfl (by decide) a_U_smallPassing kc_U_ok (by rfl) (by decide) (fun a i h => match a, h with
    | 0, h => by cases h; exact ⟨c_U_learnSmall hE, w_U_learnSmall⟩
    | _ + 1, h => by simp [cal_U_smallPassing, ai_nth] at h)
def k_U_smallEqual : ai_C := [
  [(0, .aload_n 0, 1, 0, 0, 0, 0, 0, []), (1, .iload_n 1, 1, 1, 0, 0, 0, 0, []), (2, .iload_n 2, 1, 2, 0, 0, 0, 0, []), (3, .aload_n 3, 1, 3, 0, 0, 0, 0, []), (4, .invokevirtual 163, 3, 0, 4, 42, 9, 0, [(0, 2)]), (7, .aload_n 0, 1, 0, 0, 0, 0, 0, []), (8, .getfield 41, 3, 2, 11, 15, 2, 11, []), (11, .iload_n 1, 1, 1, 0, 0, 0, 0, []), (12, .iconst 1, 1, 0, 0, 0, 0, 1, []), (13, .isub, 1, 0, 0, 0, 0, 0, []), (14, .iconst 2, 1, 0, 0, 0, 0, 2, []), (15, .imul, 1, 0, 0, 0, 0, 0, [])],
  [(16, .iload_n 2, 1, 2, 0, 0, 0, 0, []), (17, .iadd, 1, 0, 0, 0, 0, 0, []), (18, .iaload, 1, 0, 0, 0, 0, 0, []), (19, .ireturn, 1, 0, 0, 0, 0, 0, [])]]
def i_U_smallEqual : ai_I := ((⟨"SuiteBench$Mutants", "smallEqual", "(IILSuiteBench$Tests;)I"⟩, prog_4_method_21_code, 4, (some .int), 0, 3, 77, 0, 3, 0, 2) : ai_I)
def o_U_smallEqual (a : Nat) : SP := match a with
  | 0 => f_U_learnSmall
  | _ => fun _ _ _ _ _ => False
theorem mo_U_smallEqual : ∀ a, ai_mono (o_U_smallEqual a)
  | 0 => mf_U_learnSmall
  | _ + 1 => fun _ _ _ _ _ _ _ h => h
def f_U_smallEqual : SP := ai_M o_U_smallEqual 0 4 k_U_smallEqual
theorem mf_U_smallEqual : ai_mono f_U_smallEqual := M_mono mo_U_smallEqual
abbrev cal_U_smallEqual : List ai_I := [i_U_learnSmall]
theorem a_U_smallEqual : ai_all "SuiteBench$Mutants" prog_4_method_21_code 4 kc_U cal_U_smallEqual 3 77 false (some .int) k_U_smallEqual = true := by decide +kernel
theorem w_U_smallEqual : ai_CW i_U_smallEqual := ⟨(tk_mem (l := [((Jvm.Cond.code ({ cls := "SuiteBench$Mutants", name := "smallEqual", desc := "(IILSuiteBench$Tests;)I" } : Jvm.MethodName) prog_4_method_21_code (4 : Nat) (Option.some Jvm.ClassFile.FieldType.int)), 5, 189)]) (by decide +kernel) _ (List.mem_singleton.mpr rfl)), (tk_mem (l := [((Jvm.Cond.initialized "SuiteBench$Mutants"), 1, 11)]) (by decide +kernel) _ (List.mem_singleton.mpr rfl)), ⟨by decide +kernel, by decide +kernel, by decide +kernel⟩, ⟨(tk_mem (l := [((Jvm.Cond.instanceMethod ({ cls := "SuiteBench$Mutants", name := "smallEqual", desc := "(IILSuiteBench$Tests;)I" } : Jvm.MethodName)), 5, 187)]) (by decide +kernel) _ (List.mem_singleton.mpr rfl)), (tk_mem (l := [((Jvm.Cond.selects "SuiteBench$Mutants" ({ cls := "SuiteBench$Mutants", name := "smallEqual", desc := "(IILSuiteBench$Tests;)I" } : Jvm.MethodName) ({ cls := "SuiteBench$Mutants", name := "smallEqual", desc := "(IILSuiteBench$Tests;)I" } : Jvm.MethodName)), 5, 188)]) (by decide +kernel) _ (List.mem_singleton.mpr rfl)), .inl ⟨_, _, rfl⟩⟩⟩
theorem c_U_smallEqual {E2 : (Nat → Nat) → State → Heap → Prop} (hE : ai_XH E2) : ai_S E2 i_U_smallEqual f_U_smallEqual := snd_M (by decide) rfl (by decide) a_U_smallEqual kc_U_ok (by rfl) (by decide) (fun a i h => match a, h with
    | 0, h => by cases h; exact ⟨c_U_learnSmall hE, w_U_learnSmall⟩
    | _ + 1, h => by simp [cal_U_smallEqual, ai_nth] at h)
def k_B_small : ai_C := [
  [(0, .iload_n 1, 1, 1, 0, 0, 0, 0, []), (1, .iconst 1, 1, 0, 0, 0, 0, 1, []), (2, .if_icmp .lt 34, 3, 36, 0, 0, 0, 0, []), (5, .iload_n 1, 1, 1, 0, 0, 0, 0, []), (6, .iconst 2, 1, 0, 0, 0, 0, 2, []), (7, .if_icmp .gt 29, 3, 36, 0, 0, 0, 0, []), (10, .iload_n 2, 1, 2, 0, 0, 0, 0, []), (11, .invokestatic 212, 3, 0, 1, 103, 0, 0, [(0, 11)]), (14, .ifCond .eq 22, 3, 36, 0, 0, 0, 0, [])],
  [(17, .iload_n 3, 1, 3, 0, 0, 0, 0, []), (18, .ifCond .lt 18, 3, 36, 0, 0, 0, 0, []), (21, .iload_n 3, 1, 3, 0, 0, 0, 0, []), (22, .iconst 2, 1, 0, 0, 0, 0, 2, []), (23, .if_icmp .gt 13, 3, 36, 0, 0, 0, 0, []), (26, .aload_n 0, 1, 0, 0, 0, 0, 0, []), (27, .getfield 26, 3, 11, 1, 0, 2, 1, []), (30, .getfield 166, 3, 1, 2, 80, 0, 2, [])],
  [(33, .ifCond .ne 5, 3, 38, 0, 0, 0, 0, []), (36, .iconst (-1), 1, 0, 0, 0, 0, (-1), []), (37, .ireturn, 1, 0, 0, 0, 0, 0, []), (38, .iload_n 3, 1, 3, 0, 0, 0, 0, []), (39, .ifCond .ne 12, 3, 51, 0, 0, 0, 0, []), (42, .aload_n 0, 1, 0, 0, 0, 0, 0, []), (43, .getfield 63, 3, 11, 6, 17, 2, 6, []), (46, .iload_n 1, 1, 1, 0, 0, 0, 0, []), (47, .invokevirtual 270, 3, 1, 2, 122, 0, 0, [(0, 2)])],
  [(50, .ireturn, 1, 0, 0, 0, 0, 0, []), (51, .aload_n 0, 1, 0, 0, 0, 0, 0, []), (52, .getfield 56, 3, 11, 5, 14, 2, 5, []), (55, .iload_n 2, 1, 2, 0, 0, 0, 0, []), (56, .invokevirtual 196, 3, 2, 2, 99, 2, 0, [(0, 6)]), (59, .astore 4, 2, 4, 0, 0, 0, 0, []), (61, .iload_n 3, 1, 3, 0, 0, 0, 0, []), (62, .iconst 1, 1, 0, 0, 0, 0, 1, []), (63, .if_icmp .ne 17, 3, 80, 0, 0, 0, 0, [])],
  [(66, .aload_n 0, 1, 0, 0, 0, 0, 0, []), (67, .getfield 63, 3, 11, 6, 17, 2, 6, []), (70, .iload_n 1, 1, 1, 0, 0, 0, 0, []), (71, .iload_n 2, 1, 2, 0, 0, 0, 0, []), (72, .aload 4, 2, 4, 0, 0, 0, 0, []), (74, .invokevirtual 273, 3, 3, 4, 123, 0, 0, [(0, 2)]), (77, .goto 14, 3, 91, 0, 0, 0, 0, [])],
  [(80, .aload_n 0, 1, 0, 0, 0, 0, 0, []), (81, .getfield 63, 3, 11, 6, 17, 2, 6, []), (84, .iload_n 1, 1, 1, 0, 0, 0, 0, []), (85, .iload_n 2, 1, 2, 0, 0, 0, 0, []), (86, .aload 4, 2, 4, 0, 0, 0, 0, []), (88, .invokevirtual 277, 3, 4, 4, 124, 0, 0, [(0, 2)]), (91, .ireturn, 1, 0, 0, 0, 0, 0, [])]]
def i_B_small : ai_I := ((⟨"SuiteBench", "small", "(III)I"⟩, prog_1_method_27_code, 5, (some .int), 0, 6, 143, 0, 3, 0, 11) : ai_I)
def o_B_small (a : Nat) : SP := match a with
  | 0 => f_B_isPlanned
  | 1 => f_U_smallOnes
  | 2 => f_T_give
  | 3 => f_U_smallPassing
  | 4 => f_U_smallEqual
  | _ => fun _ _ _ _ _ => False
theorem mo_B_small : ∀ a, ai_mono (o_B_small a)
  | 0 => mf_B_isPlanned
  | 1 => mf_U_smallOnes
  | 2 => mf_T_give
  | 3 => mf_U_smallPassing
  | 4 => mf_U_smallEqual
  | _ + 5 => fun _ _ _ _ _ _ _ h => h
def f_B_small : SP := ai_M o_B_small 0 5 k_B_small
theorem mf_B_small : ai_mono f_B_small := M_mono mo_B_small
abbrev cal_B_small : List ai_I := [i_B_isPlanned, i_U_smallOnes, i_T_give, i_U_smallPassing, i_U_smallEqual]
theorem a_B_small : ai_all "SuiteBench" prog_1_method_27_code 5 kc_B cal_B_small 6 143 false (some .int) k_B_small = true := by decide +kernel
theorem w_B_small : ai_CW i_B_small := ⟨(tk_mem (l := [((Jvm.Cond.code ({ cls := "SuiteBench", name := "small", desc := "(III)I" } : Jvm.MethodName) prog_1_method_27_code (5 : Nat) (Option.some Jvm.ClassFile.FieldType.int)), 5, 164)]) (by decide +kernel) _ (List.mem_singleton.mpr rfl)), (tk_mem (l := [((Jvm.Cond.initialized "SuiteBench"), 1, 1)]) (by decide +kernel) _ (List.mem_singleton.mpr rfl)), ⟨by decide +kernel, by decide +kernel, by decide +kernel⟩, ⟨(tk_mem (l := [((Jvm.Cond.instanceMethod ({ cls := "SuiteBench", name := "small", desc := "(III)I" } : Jvm.MethodName)), 5, 162)]) (by decide +kernel) _ (List.mem_singleton.mpr rfl)), (tk_mem (l := [((Jvm.Cond.selects "SuiteBench" ({ cls := "SuiteBench", name := "small", desc := "(III)I" } : Jvm.MethodName) ({ cls := "SuiteBench", name := "small", desc := "(III)I" } : Jvm.MethodName)), 5, 163)]) (by decide +kernel) _ (List.mem_singleton.mpr rfl)), .inl ⟨_, _, rfl⟩⟩⟩
theorem c_B_small {E2 : (Nat → Nat) → State → Heap → Prop} (hE : ai_XH E2) : ai_S E2 i_B_small f_B_small := snd_M (by decide) rfl (by decide) a_B_small kc_B_ok (by rfl) (by decide) (fun a i h => match a, h with
    | 0, h => by cases h; exact ⟨c_B_isPlanned hE, w_B_isPlanned⟩
    | 1, h => by cases h; exact ⟨c_U_smallOnes hE, w_U_smallOnes⟩
    | 2, h => by cases h; exact ⟨c_T_give hE, w_T_give⟩
    | 3, h => by cases h; exact ⟨c_U_smallPassing hE, w_U_smallPassing⟩
    | 4, h => by cases h; exact ⟨c_U_smallEqual hE, w_U_smallEqual⟩
    | _ + 5, h => by simp [cal_B_small, ai_nth] at h)
def k_N_smallMany : ai_C := [
  [(0, .iconst 1, 1, 0, 0, 0, 0, 1, []), (1, .istore_n 2, 1, 2, 0, 0, 0, 0, []), (2, .iconst 0, 1, 0, 0, 0, 0, 0, []), (3, .istore_n 3, 1, 3, 0, 0, 0, 0, []), (4, .iload_n 3, 1, 3, 0, 0, 0, 0, []), (5, .iload_n 1, 1, 1, 0, 0, 0, 0, []), (6, .aload_n 0, 1, 0, 0, 0, 0, 0, []), (7, .invokevirtual 269, 3, 0, 1, 3, 0, 0, [(0, 12)]), (10, .imul, 1, 0, 0, 0, 0, 0, []), (11, .if_icmp .ge 15, 3, 26, 0, 0, 0, 0, []), (14, .iload_n 2, 1, 2, 0, 0, 0, 0, []), (15, .iconst 2, 1, 0, 0, 0, 0, 2, [])],
  [(16, .iload_n 1, 1, 1, 0, 0, 0, 0, []), (17, .imul, 1, 0, 0, 0, 0, 0, []), (18, .imul, 1, 0, 0, 0, 0, 0, []), (19, .istore_n 2, 1, 2, 0, 0, 0, 0, []), (20, .iinc 3 1, 3, 3, 0, 0, 0, 1, []), (23, .goto (-19), 3, 4, 0, 0, 0, 0, []), (26, .iload_n 2, 1, 2, 0, 0, 0, 0, []), (27, .ireturn, 1, 0, 0, 0, 0, 0, [])]]
def i_N_smallMany : ai_I := ((⟨"SuiteBenchModel", "smallMany", "(I)I"⟩, prog_14_method_101_code, 4, (some .int), 0, 1, 20, 0, 1, 0, 12) : ai_I)
def o_N_smallMany (a : Nat) : SP := match a with
  | 0 => f_N_inputs
  | _ => fun _ _ _ _ _ => False
theorem mo_N_smallMany : ∀ a, ai_mono (o_N_smallMany a)
  | 0 => mf_N_inputs
  | _ + 1 => fun _ _ _ _ _ _ _ h => h
def f_N_smallMany : SP := ai_M o_N_smallMany 0 4 k_N_smallMany
theorem mf_N_smallMany : ai_mono f_N_smallMany := M_mono mo_N_smallMany
abbrev cal_N_smallMany : List ai_I := [i_N_inputs]
theorem a_N_smallMany : ai_all "SuiteBenchModel" prog_14_method_101_code 4 kc_N cal_N_smallMany 1 20 false (some .int) k_N_smallMany = true := by decide +kernel
theorem w_N_smallMany : ai_CW i_N_smallMany := ⟨(tk_mem (l := [((Jvm.Cond.code ({ cls := "SuiteBenchModel", name := "smallMany", desc := "(I)I" } : Jvm.MethodName) prog_14_method_101_code (4 : Nat) (Option.some Jvm.ClassFile.FieldType.int)), 9, 224)]) (by decide +kernel) _ (List.mem_singleton.mpr rfl)), (tk_mem (l := [((Jvm.Cond.initialized "SuiteBenchModel"), 1, 15)]) (by decide +kernel) _ (List.mem_singleton.mpr rfl)), ⟨by decide +kernel, by decide +kernel, by decide +kernel⟩, ⟨(tk_mem (l := [((Jvm.Cond.instanceMethod ({ cls := "SuiteBenchModel", name := "smallMany", desc := "(I)I" } : Jvm.MethodName)), 9, 223)]) (by decide +kernel) _ (List.mem_singleton.mpr rfl)), gw_sel 133 (by decide +kernel), .inl ⟨_, _, rfl⟩⟩⟩
theorem c_N_smallMany {E2 : (Nat → Nat) → State → Heap → Prop} (hE : ai_XH E2) : ai_S E2 i_N_smallMany f_N_smallMany := snd_M (by decide) rfl (by decide) a_N_smallMany kc_N_ok (by rfl) (by decide) (fun a i h => match a, h with
    | 0, h => by cases h; exact ⟨c_N_inputs hE, w_N_inputs⟩
    | _ + 1, h => by simp [cal_N_smallMany, ai_nth] at h)
def k_N_laysSmallOne : ai_C := [
  [(0, .iload_n 2, 1, 2, 0, 0, 0, 0, []), (1, .istore_n 3, 1, 3, 0, 0, 0, 0, []), (2, .iconst 0, 1, 0, 0, 0, 0, 0, []), (3, .istore 4, 2, 4, 0, 0, 0, 0, []), (5, .iload 4, 2, 4, 0, 0, 0, 0, []), (7, .iload_n 1, 1, 1, 0, 0, 0, 0, []), (8, .if_icmp .ge 71, 3, 79, 0, 0, 0, 0, []), (11, .iconst 0, 1, 0, 0, 0, 0, 0, []), (12, .istore 5, 2, 5, 0, 0, 0, 0, []), (14, .iload 5, 2, 5, 0, 0, 0, 0, [])],
  [(16, .aload_n 0, 1, 0, 0, 0, 0, 0, []), (17, .invokevirtual 269, 3, 0, 1, 3, 0, 0, [(0, 12)]), (20, .if_icmp .ge 53, 3, 73, 0, 0, 0, 0, []), (23, .aload_n 0, 1, 0, 0, 0, 0, 0, []), (24, .getfield 38, 3, 12, 20, 4, 2, 20, []), (27, .bipush 48, 2, 0, 0, 0, 0, 48, []), (29, .iconst 3, 1, 0, 0, 0, 0, 3, []), (30, .iload 4, 2, 4, 0, 0, 0, 0, [])],
  [(32, .imul, 1, 0, 0, 0, 0, 0, []), (33, .iadd, 1, 0, 0, 0, 0, 0, []), (34, .iload 5, 2, 5, 0, 0, 0, 0, []), (36, .iadd, 1, 0, 0, 0, 0, 0, []), (37, .iload_n 3, 1, 3, 0, 0, 0, 0, []), (38, .iload_n 1, 1, 1, 0, 0, 0, 0, []), (39, .irem, 1, 0, 0, 0, 0, 0, []), (40, .iastore, 1, 0, 0, 0, 0, 0, []), (41, .aload_n 0, 1, 0, 0, 0, 0, 0, []), (42, .getfield 41, 3, 12, 21, 10, 2, 21, []), (45, .bipush 48, 2, 0, 0, 0, 0, 48, []), (47, .iconst 3, 1, 0, 0, 0, 0, 3, [])],
  [(48, .iload 4, 2, 4, 0, 0, 0, 0, []), (50, .imul, 1, 0, 0, 0, 0, 0, []), (51, .iadd, 1, 0, 0, 0, 0, 0, []), (52, .iload 5, 2, 5, 0, 0, 0, 0, []), (54, .iadd, 1, 0, 0, 0, 0, 0, []), (55, .iload_n 3, 1, 3, 0, 0, 0, 0, []), (56, .iload_n 1, 1, 1, 0, 0, 0, 0, []), (57, .idiv, 1, 0, 0, 0, 0, 0, []), (58, .iconst 2, 1, 0, 0, 0, 0, 2, []), (59, .irem, 1, 0, 0, 0, 0, 0, []), (60, .iastore, 1, 0, 0, 0, 0, 0, []), (61, .iload_n 3, 1, 3, 0, 0, 0, 0, []), (62, .iload_n 1, 1, 1, 0, 0, 0, 0, []), (63, .idiv, 1, 0, 0, 0, 0, 0, [])],
  [(64, .iconst 2, 1, 0, 0, 0, 0, 2, []), (65, .idiv, 1, 0, 0, 0, 0, 0, []), (66, .istore_n 3, 1, 3, 0, 0, 0, 0, []), (67, .iinc 5 1, 3, 5, 0, 0, 0, 1, []), (70, .goto (-56), 3, 14, 0, 0, 0, 0, []), (73, .iinc 4 1, 3, 4, 0, 0, 0, 1, []), (76, .goto (-71), 3, 5, 0, 0, 0, 0, []), (79, .return_, 1, 0, 0, 0, 0, 0, [])]]
def i_N_laysSmallOne : ai_I := ((⟨"SuiteBenchModel", "laysSmallOne", "(II)V"⟩, prog_14_method_102_code, 6, none, 9, 1, 20, 0, 2, 0, 12) : ai_I)
def o_N_laysSmallOne (a : Nat) : SP := match a with
  | 0 => f_N_inputs
  | _ => fun _ _ _ _ _ => False
theorem mo_N_laysSmallOne : ∀ a, ai_mono (o_N_laysSmallOne a)
  | 0 => mf_N_inputs
  | _ + 1 => fun _ _ _ _ _ _ _ h => h
def f_N_laysSmallOne : SP := ai_M o_N_laysSmallOne 0 6 k_N_laysSmallOne
theorem mf_N_laysSmallOne : ai_mono f_N_laysSmallOne := M_mono mo_N_laysSmallOne
abbrev cal_N_laysSmallOne : List ai_I := [i_N_inputs]
theorem a_N_laysSmallOne : ai_all "SuiteBenchModel" prog_14_method_102_code 6 kc_N cal_N_laysSmallOne 1 20 false none k_N_laysSmallOne = true := by decide +kernel
theorem w_N_laysSmallOne : ai_CW i_N_laysSmallOne := ⟨(tk_mem (l := [((Jvm.Cond.code ({ cls := "SuiteBenchModel", name := "laysSmallOne", desc := "(II)V" } : Jvm.MethodName) prog_14_method_102_code (6 : Nat) (Option.none : Option Jvm.ClassFile.FieldType)), 9, 228)]) (by decide +kernel) _ (List.mem_singleton.mpr rfl)), (tk_mem (l := [((Jvm.Cond.initialized "SuiteBenchModel"), 1, 15)]) (by decide +kernel) _ (List.mem_singleton.mpr rfl)), ⟨by decide +kernel, by decide +kernel, by decide +kernel⟩, ⟨(tk_mem (l := [((Jvm.Cond.instanceMethod ({ cls := "SuiteBenchModel", name := "laysSmallOne", desc := "(II)V" } : Jvm.MethodName)), 9, 227)]) (by decide +kernel) _ (List.mem_singleton.mpr rfl)), gw_sel 134 (by decide +kernel), .inl ⟨_, _, rfl⟩⟩⟩
theorem c_N_laysSmallOne {E2 : (Nat → Nat) → State → Heap → Prop} (hE : ai_XH E2) : ai_S E2 i_N_laysSmallOne f_N_laysSmallOne := snd_M (by decide) rfl (by decide) a_N_laysSmallOne kc_N_ok (by rfl) (by decide) (fun a i h => match a, h with
    | 0, h => by cases h; exact ⟨c_N_inputs hE, w_N_inputs⟩
    | _ + 1, h => by simp [cal_N_laysSmallOne, ai_nth] at h)
def k_N_laysSmall : ai_C := [
  [(0, .iconst 2, 1, 0, 0, 0, 0, 2, []), (1, .iload_n 1, 1, 1, 0, 0, 0, 0, []), (2, .iconst 1, 1, 0, 0, 0, 0, 1, []), (3, .isub, 1, 0, 0, 0, 0, 0, []), (4, .imul, 1, 0, 0, 0, 0, 0, []), (5, .iload_n 2, 1, 2, 0, 0, 0, 0, []), (6, .iadd, 1, 0, 0, 0, 0, 0, []), (7, .istore_n 3, 1, 3, 0, 0, 0, 0, []), (8, .aload_n 0, 1, 0, 0, 0, 0, 0, []), (9, .getfield 99, 3, 12, 50, 26, 2, 50, []), (12, .iload_n 3, 1, 3, 0, 0, 0, 0, []), (13, .baload, 1, 0, 0, 0, 52, 0, []), (14, .ifCond .eq 4, 3, 18, 0, 0, 0, 0, [])],
  [(17, .return_, 1, 0, 0, 0, 0, 0, []), (18, .aload_n 0, 1, 0, 0, 0, 0, 0, []), (19, .getfield 99, 3, 12, 50, 26, 2, 50, []), (22, .iload_n 3, 1, 3, 0, 0, 0, 0, []), (23, .iconst 1, 1, 0, 0, 0, 0, 1, []), (24, .bastore, 1, 0, 0, 0, 52, 0, []), (25, .aload_n 0, 1, 0, 0, 0, 0, 0, []), (26, .getfield 96, 3, 12, 49, 53, 2, 49, []), (29, .iconst 3, 1, 0, 0, 0, 0, 3, []), (30, .iload_n 3, 1, 3, 0, 0, 0, 0, []), (31, .imul, 1, 0, 0, 0, 0, 0, [])],
  [(32, .aload_n 0, 1, 0, 0, 0, 0, 0, []), (33, .iload_n 1, 1, 1, 0, 0, 0, 0, []), (34, .invokevirtual 464, 3, 0, 2, 150, 0, 0, [(0, 12)]), (37, .iastore, 1, 0, 0, 0, 0, 0, []), (38, .aload_n 0, 1, 0, 0, 0, 0, 0, []), (39, .getfield 96, 3, 12, 49, 53, 2, 49, []), (42, .iconst 3, 1, 0, 0, 0, 0, 3, []), (43, .iload_n 3, 1, 3, 0, 0, 0, 0, []), (44, .imul, 1, 0, 0, 0, 0, 0, []), (45, .iconst 1, 1, 0, 0, 0, 0, 1, []), (46, .iadd, 1, 0, 0, 0, 0, 0, []), (47, .iconst 0, 1, 0, 0, 0, 0, 0, [])],
  [(48, .iastore, 1, 0, 0, 0, 0, 0, []), (49, .aload_n 0, 1, 0, 0, 0, 0, 0, []), (50, .getfield 96, 3, 12, 49, 53, 2, 49, []), (53, .iconst 3, 1, 0, 0, 0, 0, 3, []), (54, .iload_n 3, 1, 3, 0, 0, 0, 0, []), (55, .imul, 1, 0, 0, 0, 0, 0, []), (56, .iconst 2, 1, 0, 0, 0, 0, 2, []), (57, .iadd, 1, 0, 0, 0, 0, 0, []), (58, .iconst 0, 1, 0, 0, 0, 0, 0, []), (59, .iastore, 1, 0, 0, 0, 0, 0, []), (60, .iconst 0, 1, 0, 0, 0, 0, 0, []), (61, .istore 4, 2, 4, 0, 0, 0, 0, []), (63, .iload 4, 2, 4, 0, 0, 0, 0, [])],
  [(65, .aload_n 0, 1, 0, 0, 0, 0, 0, []), (66, .getfield 96, 3, 12, 49, 53, 2, 49, []), (69, .iconst 3, 1, 0, 0, 0, 0, 3, []), (70, .iload_n 3, 1, 3, 0, 0, 0, 0, []), (71, .imul, 1, 0, 0, 0, 0, 0, []), (72, .iaload, 1, 0, 0, 0, 0, 0, []), (73, .if_icmp .ge 93, 3, 166, 0, 0, 0, 0, []), (76, .aload_n 0, 1, 0, 0, 0, 0, 0, []), (77, .iload_n 1, 1, 1, 0, 0, 0, 0, []), (78, .iload 4, 2, 4, 0, 0, 0, 0, [])],
  [(80, .invokevirtual 467, 3, 1, 3, 151, 9, 0, [(0, 12)]), (83, .aload_n 0, 1, 0, 0, 0, 0, 0, []), (84, .iconst 0, 1, 0, 0, 0, 0, 0, []), (85, .iconst 0, 1, 0, 0, 0, 0, 0, []), (86, .bipush 48, 2, 0, 0, 0, 0, 48, []), (88, .iconst 0, 1, 0, 0, 0, 0, 0, []), (89, .invokevirtual 334, 3, 2, 5, 12, 0, 0, [(0, 12)]), (92, .bipush (-2), 2, 0, 0, 0, 0, (-2), []), (94, .if_icmp .ne 7, 3, 101, 0, 0, 0, 0, [])],
  [(97, .iconst 1, 1, 0, 0, 0, 0, 1, []), (98, .goto 4, 3, 102, 0, 0, 0, 0, []), (101, .iconst 0, 1, 0, 0, 0, 0, 0, []), (102, .istore 5, 2, 5, 0, 0, 0, 0, []), (104, .aload_n 0, 1, 0, 0, 0, 0, 0, []), (105, .getfield 96, 3, 12, 49, 53, 2, 49, []), (108, .iconst 3, 1, 0, 0, 0, 0, 3, []), (109, .iload_n 3, 1, 3, 0, 0, 0, 0, []), (110, .imul, 1, 0, 0, 0, 0, 0, []), (111, .iconst 2, 1, 0, 0, 0, 0, 2, [])],
  [(112, .iadd, 1, 0, 0, 0, 0, 0, []), (113, .dup2, 1, 0, 0, 0, 0, 0, []), (114, .iaload, 1, 0, 0, 0, 0, 0, []), (115, .iload 5, 2, 5, 0, 0, 0, 0, []), (117, .ifCond .eq 7, 3, 124, 0, 0, 0, 0, []), (120, .iconst 1, 1, 0, 0, 0, 0, 1, []), (121, .goto 4, 3, 125, 0, 0, 0, 0, []), (124, .iconst 0, 1, 0, 0, 0, 0, 0, []), (125, .iadd, 1, 0, 0, 0, 0, 0, []), (126, .iastore, 1, 0, 0, 0, 0, 0, []), (127, .aload_n 0, 1, 0, 0, 0, 0, 0, [])],
  [(128, .getfield 96, 3, 12, 49, 53, 2, 49, []), (131, .iconst 3, 1, 0, 0, 0, 0, 3, []), (132, .iload_n 3, 1, 3, 0, 0, 0, 0, []), (133, .imul, 1, 0, 0, 0, 0, 0, []), (134, .iconst 1, 1, 0, 0, 0, 0, 1, []), (135, .iadd, 1, 0, 0, 0, 0, 0, []), (136, .dup2, 1, 0, 0, 0, 0, 0, []), (137, .iaload, 1, 0, 0, 0, 0, 0, []), (138, .iload 5, 2, 5, 0, 0, 0, 0, []), (140, .ifCond .ne 13, 3, 153, 0, 0, 0, 0, []), (143, .aload_n 0, 1, 0, 0, 0, 0, 0, [])],
  [(144, .bipush 48, 2, 0, 0, 0, 0, 48, []), (146, .iload_n 2, 1, 2, 0, 0, 0, 0, []), (147, .invokevirtual 455, 3, 3, 3, 147, 0, 0, [(0, 12)]), (150, .ifCond .ne 7, 3, 157, 0, 0, 0, 0, []), (153, .iconst 1, 1, 0, 0, 0, 0, 1, []), (154, .goto 4, 3, 158, 0, 0, 0, 0, []), (157, .iconst 0, 1, 0, 0, 0, 0, 0, []), (158, .iadd, 1, 0, 0, 0, 0, 0, []), (159, .iastore, 1, 0, 0, 0, 0, 0, [])],
  [(160, .iinc 4 1, 3, 4, 0, 0, 0, 1, []), (163, .goto (-100), 3, 63, 0, 0, 0, 0, []), (166, .return_, 1, 0, 0, 0, 0, 0, [])]]
def i_N_laysSmall : ai_I := ((⟨"SuiteBenchModel", "laysSmall", "(II)V"⟩, prog_14_method_103_code, 6, none, 9, 8, 187, 0, 2, 0, 12) : ai_I)
def o_N_laysSmall (a : Nat) : SP := match a with
  | 0 => f_N_smallMany
  | 1 => f_N_laysSmallOne
  | 2 => f_N_unlike
  | 3 => f_N_doesFail
  | _ => fun _ _ _ _ _ => False
theorem mo_N_laysSmall : ∀ a, ai_mono (o_N_laysSmall a)
  | 0 => mf_N_smallMany
  | 1 => mf_N_laysSmallOne
  | 2 => mf_N_unlike
  | 3 => mf_N_doesFail
  | _ + 4 => fun _ _ _ _ _ _ _ h => h
def f_N_laysSmall : SP := ai_M o_N_laysSmall 0 6 k_N_laysSmall
theorem mf_N_laysSmall : ai_mono f_N_laysSmall := M_mono mo_N_laysSmall
abbrev cal_N_laysSmall : List ai_I := [i_N_smallMany, i_N_laysSmallOne, i_N_unlike, i_N_doesFail]
theorem a_N_laysSmall : ai_all "SuiteBenchModel" prog_14_method_103_code 6 kc_N cal_N_laysSmall 8 187 false none k_N_laysSmall = true := by decide +kernel
theorem w_N_laysSmall : ai_CW i_N_laysSmall := ⟨(tk_mem (l := [((Jvm.Cond.code ({ cls := "SuiteBenchModel", name := "laysSmall", desc := "(II)V" } : Jvm.MethodName) prog_14_method_103_code (6 : Nat) (Option.none : Option Jvm.ClassFile.FieldType)), 9, 220)]) (by decide +kernel) _ (List.mem_singleton.mpr rfl)), (tk_mem (l := [((Jvm.Cond.initialized "SuiteBenchModel"), 1, 15)]) (by decide +kernel) _ (List.mem_singleton.mpr rfl)), ⟨by decide +kernel, by decide +kernel, by decide +kernel⟩, ⟨(tk_mem (l := [((Jvm.Cond.instanceMethod ({ cls := "SuiteBenchModel", name := "laysSmall", desc := "(II)V" } : Jvm.MethodName)), 9, 219)]) (by decide +kernel) _ (List.mem_singleton.mpr rfl)), gw_sel 132 (by decide +kernel), .inl ⟨_, _, rfl⟩⟩⟩
theorem c_N_laysSmall {E2 : (Nat → Nat) → State → Heap → Prop} (hE : ai_XH E2) : ai_S E2 i_N_laysSmall f_N_laysSmall := snd_M (by decide) rfl (by decide) a_N_laysSmall kc_N_ok (by rfl) (by decide) (fun a i h => match a, h with
    | 0, h => by cases h; exact ⟨c_N_smallMany hE, w_N_smallMany⟩
    | 1, h => by cases h; exact ⟨c_N_laysSmallOne hE, w_N_laysSmallOne⟩
    | 2, h => by cases h; exact ⟨c_N_unlike hE, w_N_unlike⟩
    | 3, h => by cases h; exact ⟨c_N_doesFail hE, w_N_doesFail⟩
    | _ + 4, h => by simp [cal_N_laysSmall, ai_nth] at h)
def k_N_small : ai_C := [
  [(0, .aload_n 0, 1, 0, 0, 0, 0, 0, []), (1, .iconst 0, 1, 0, 0, 0, 0, 0, []), (2, .putfield 145, 3, 12, 0, 67, 0, 0, []), (5, .iload_n 1, 1, 1, 0, 0, 0, 0, []), (6, .iconst 1, 1, 0, 0, 0, 0, 1, []), (7, .if_icmp .lt 31, 3, 38, 0, 0, 0, 0, []), (10, .iload_n 1, 1, 1, 0, 0, 0, 0, []), (11, .iconst 2, 1, 0, 0, 0, 0, 2, []), (12, .if_icmp .gt 26, 3, 38, 0, 0, 0, 0, []), (15, .iload_n 2, 1, 2, 0, 0, 0, 0, [])],
  [(16, .invokestatic 409, 3, 0, 1, 132, 0, 0, [(0, 12)]), (19, .ifCond .eq 19, 3, 38, 0, 0, 0, 0, []), (22, .iload_n 3, 1, 3, 0, 0, 0, 0, []), (23, .ifCond .lt 15, 3, 38, 0, 0, 0, 0, []), (26, .iload_n 3, 1, 3, 0, 0, 0, 0, []), (27, .iconst 2, 1, 0, 0, 0, 0, 2, []), (28, .if_icmp .gt 10, 3, 38, 0, 0, 0, 0, []), (31, .aload_n 0, 1, 0, 0, 0, 0, 0, [])],
  [(32, .invokevirtual 272, 3, 1, 1, 2, 0, 0, [(0, 12)]), (35, .ifCond .ne 5, 3, 40, 0, 0, 0, 0, []), (38, .iconst (-1), 1, 0, 0, 0, 0, (-1), []), (39, .ireturn, 1, 0, 0, 0, 0, 0, []), (40, .aload_n 0, 1, 0, 0, 0, 0, 0, []), (41, .iload_n 1, 1, 1, 0, 0, 0, 0, []), (42, .iload_n 2, 1, 2, 0, 0, 0, 0, []), (43, .invokevirtual 470, 3, 2, 3, 152, 9, 0, [(0, 12)]), (46, .aload_n 0, 1, 0, 0, 0, 0, 0, []), (47, .getfield 96, 3, 12, 49, 53, 2, 49, [])],
  [(50, .iconst 3, 1, 0, 0, 0, 0, 3, []), (51, .iconst 2, 1, 0, 0, 0, 0, 2, []), (52, .iload_n 1, 1, 1, 0, 0, 0, 0, []), (53, .iconst 1, 1, 0, 0, 0, 0, 1, []), (54, .isub, 1, 0, 0, 0, 0, 0, []), (55, .imul, 1, 0, 0, 0, 0, 0, []), (56, .iload_n 2, 1, 2, 0, 0, 0, 0, []), (57, .iadd, 1, 0, 0, 0, 0, 0, []), (58, .imul, 1, 0, 0, 0, 0, 0, []), (59, .iload_n 3, 1, 3, 0, 0, 0, 0, []), (60, .iadd, 1, 0, 0, 0, 0, 0, []), (61, .iaload, 1, 0, 0, 0, 0, 0, []), (62, .ireturn, 1, 0, 0, 0, 0, 0, [])]]
def i_N_small : ai_I := ((⟨"SuiteBenchModel", "small", "(III)I"⟩, prog_14_method_104_code, 4, (some .int), 0, 9, 212, 0, 3, 0, 12) : ai_I)
def o_N_small (a : Nat) : SP := match a with
  | 0 => f_N_isOne
  | 1 => f_N_states
  | 2 => f_N_laysSmall
  | _ => fun _ _ _ _ _ => False
theorem mo_N_small : ∀ a, ai_mono (o_N_small a)
  | 0 => mf_N_isOne
  | 1 => mf_N_states
  | 2 => mf_N_laysSmall
  | _ + 3 => fun _ _ _ _ _ _ _ h => h
def f_N_small : SP := ai_M o_N_small 0 4 k_N_small
theorem mf_N_small : ai_mono f_N_small := M_mono mo_N_small
abbrev cal_N_small : List ai_I := [i_N_isOne, i_N_states, i_N_laysSmall]
theorem a_N_small : ai_all "SuiteBenchModel" prog_14_method_104_code 4 kc_N cal_N_small 9 212 false (some .int) k_N_small = true := by decide +kernel
theorem w_N_small : ai_CW i_N_small := ⟨(tk_mem (l := [((Jvm.Cond.code ({ cls := "SuiteBenchModel", name := "small", desc := "(III)I" } : Jvm.MethodName) prog_14_method_104_code (4 : Nat) (Option.some Jvm.ClassFile.FieldType.int)), 9, 216)]) (by decide +kernel) _ (List.mem_singleton.mpr rfl)), (tk_mem (l := [((Jvm.Cond.initialized "SuiteBenchModel"), 1, 15)]) (by decide +kernel) _ (List.mem_singleton.mpr rfl)), ⟨by decide +kernel, by decide +kernel, by decide +kernel⟩, ⟨(tk_mem (l := [((Jvm.Cond.instanceMethod ({ cls := "SuiteBenchModel", name := "small", desc := "(III)I" } : Jvm.MethodName)), 9, 214)]) (by decide +kernel) _ (List.mem_singleton.mpr rfl)), (tk_mem (l := [((Jvm.Cond.selects "SuiteBenchModel" ({ cls := "SuiteBenchModel", name := "small", desc := "(III)I" } : Jvm.MethodName) ({ cls := "SuiteBenchModel", name := "small", desc := "(III)I" } : Jvm.MethodName)), 9, 215)]) (by decide +kernel) _ (List.mem_singleton.mpr rfl)), .inl ⟨_, _, rfl⟩⟩⟩
theorem c_N_small {E2 : (Nat → Nat) → State → Heap → Prop} (hE : ai_XH E2) : ai_S E2 i_N_small f_N_small := snd_M (by decide) rfl (by decide) a_N_small kc_N_ok (by rfl) (by decide) (fun a i h => match a, h with
    | 0, h => by cases h; exact ⟨c_N_isOne hE, w_N_isOne⟩
    | 1, h => by cases h; exact ⟨c_N_states hE, w_N_states⟩
    | 2, h => by cases h; exact ⟨c_N_laysSmall hE, w_N_laysSmall⟩
    | _ + 3, h => by simp [cal_N_small, ai_nth] at h)
def k_J_bitCount : ai_C := [
  [(0, .iload_n 0, 1, 0, 0, 0, 0, 0, []), (1, .iload_n 0, 1, 0, 0, 0, 0, 0, []), (2, .iconst 1, 1, 0, 0, 0, 0, 1, []), (3, .iushr, 1, 0, 0, 0, 0, 0, []), (4, .ldc_w 265, 3, 0, 0, 0, 0, 1431655765, []), (7, .iand, 1, 0, 0, 0, 0, 0, []), (8, .isub, 1, 0, 0, 0, 0, 0, []), (9, .istore_n 0, 1, 0, 0, 0, 0, 0, []), (10, .iload_n 0, 1, 0, 0, 0, 0, 0, []), (11, .ldc_w 266, 3, 0, 0, 1, 0, 858993459, []), (14, .iand, 1, 0, 0, 0, 0, 0, []), (15, .iload_n 0, 1, 0, 0, 0, 0, 0, [])],
  [(16, .iconst 2, 1, 0, 0, 0, 0, 2, []), (17, .iushr, 1, 0, 0, 0, 0, 0, []), (18, .ldc_w 266, 3, 0, 0, 1, 0, 858993459, []), (21, .iand, 1, 0, 0, 0, 0, 0, []), (22, .iadd, 1, 0, 0, 0, 0, 0, []), (23, .istore_n 0, 1, 0, 0, 0, 0, 0, []), (24, .iload_n 0, 1, 0, 0, 0, 0, 0, []), (25, .iload_n 0, 1, 0, 0, 0, 0, 0, []), (26, .iconst 4, 1, 0, 0, 0, 0, 4, []), (27, .iushr, 1, 0, 0, 0, 0, 0, []), (28, .iadd, 1, 0, 0, 0, 0, 0, []), (29, .ldc_w 267, 3, 0, 0, 2, 0, 252645135, [])],
  [(32, .iand, 1, 0, 0, 0, 0, 0, []), (33, .istore_n 0, 1, 0, 0, 0, 0, 0, []), (34, .iload_n 0, 1, 0, 0, 0, 0, 0, []), (35, .iload_n 0, 1, 0, 0, 0, 0, 0, []), (36, .bipush 8, 2, 0, 0, 0, 0, 8, []), (38, .iushr, 1, 0, 0, 0, 0, 0, []), (39, .iadd, 1, 0, 0, 0, 0, 0, []), (40, .istore_n 0, 1, 0, 0, 0, 0, 0, []), (41, .iload_n 0, 1, 0, 0, 0, 0, 0, []), (42, .iload_n 0, 1, 0, 0, 0, 0, 0, []), (43, .bipush 16, 2, 0, 0, 0, 0, 16, []), (45, .iushr, 1, 0, 0, 0, 0, 0, []), (46, .iadd, 1, 0, 0, 0, 0, 0, []), (47, .istore_n 0, 1, 0, 0, 0, 0, 0, [])],
  [(48, .iload_n 0, 1, 0, 0, 0, 0, 0, []), (49, .bipush 63, 2, 0, 0, 0, 0, 63, []), (51, .iand, 1, 0, 0, 0, 0, 0, []), (52, .ireturn, 1, 0, 0, 0, 0, 0, [])]]
def i_J_bitCount : ai_I := ((⟨"java/lang/Integer", "bitCount", "(I)I"⟩, prog_20_method_49_code, 1, (some .int), 0, 0, 0, 0, 1, 1, 99) : ai_I)
def o_J_bitCount (_ : Nat) : SP := fun _ _ _ _ _ => False
theorem mo_J_bitCount : ∀ a, ai_mono (o_J_bitCount a) := fun _ _ _ _ _ _ _ _ h => h
def f_J_bitCount : SP := ai_M o_J_bitCount 0 1 k_J_bitCount
theorem mf_J_bitCount : ai_mono f_J_bitCount := M_mono mo_J_bitCount
abbrev cal_J_bitCount : List ai_I := []
theorem a_J_bitCount : ai_all "java/lang/Integer" prog_20_method_49_code 1 kc_JI cal_J_bitCount 0 0 false (some .int) k_J_bitCount = true := by decide +kernel
theorem w_J_bitCount : ai_CW i_J_bitCount := ⟨(tk_mem (l := [((Jvm.Cond.code ({ cls := "java/lang/Integer", name := "bitCount", desc := "(I)I" } : Jvm.MethodName) prog_20_method_49_code (1 : Nat) (Option.some Jvm.ClassFile.FieldType.int)), 5, 196)]) (by decide +kernel) _ (List.mem_singleton.mpr rfl)), (tk_mem (l := [((Jvm.Cond.initialized "java/lang/Integer"), 1, 26)]) (by decide +kernel) _ (List.mem_singleton.mpr rfl)), ⟨by decide +kernel, by decide +kernel, by decide +kernel⟩, (tk_mem (l := [((Jvm.Cond.static ({ cls := "java/lang/Integer", name := "bitCount", desc := "(I)I" } : Jvm.MethodName)), 5, 195)]) (by decide +kernel) _ (List.mem_singleton.mpr rfl))⟩
theorem c_J_bitCount {E2 : (Nat → Nat) → State → Heap → Prop} (hE : ai_XH E2) : ai_S E2 i_J_bitCount f_J_bitCount := snd_M (by decide) rfl (by decide) a_J_bitCount kc_JI_ok (by rfl) (by decide) (fun a i h => by simp [cal_J_bitCount, ai_nth] at h)
def k_S_likeOnes : ai_C := [
  [(0, .aload_n 0, 1, 0, 0, 0, 0, 0, []), (1, .getfield 33, 3, 5, 0, 9, 2, 0, []), (4, .getfield 68, 3, 1, 1, 16, 2, 1, []), (7, .iload_n 2, 1, 2, 0, 0, 0, 0, []), (8, .iconst 3, 1, 0, 0, 0, 0, 3, []), (9, .imul, 1, 0, 0, 0, 0, 0, []), (10, .iload_n 3, 1, 3, 0, 0, 0, 0, []), (11, .iadd, 1, 0, 0, 0, 0, 0, []), (12, .iaload, 1, 0, 0, 0, 0, 0, []), (13, .istore 4, 2, 4, 0, 0, 0, 0, []), (15, .iconst 0, 1, 0, 0, 0, 0, 0, [])],
  [(16, .istore 5, 2, 5, 0, 0, 0, 0, []), (18, .iconst 0, 1, 0, 0, 0, 0, 0, []), (19, .istore 6, 2, 6, 0, 0, 0, 0, []), (21, .iload 6, 2, 6, 0, 0, 0, 0, []), (23, .aload_n 0, 1, 0, 0, 0, 0, 0, []), (24, .getfield 33, 3, 5, 0, 9, 2, 0, []), (27, .getfield 56, 3, 1, 2, 15, 0, 2, []), (30, .if_icmp .ge 47, 3, 77, 0, 0, 0, 0, [])],
  [(33, .iload_n 1, 1, 1, 0, 0, 0, 0, []), (34, .iload 6, 2, 6, 0, 0, 0, 0, []), (36, .ishr, 1, 0, 0, 0, 0, 0, []), (37, .iconst 1, 1, 0, 0, 0, 0, 1, []), (38, .iand, 1, 0, 0, 0, 0, 0, []), (39, .iconst 1, 1, 0, 0, 0, 0, 1, []), (40, .if_icmp .ne 31, 3, 71, 0, 0, 0, 0, []), (43, .aload_n 0, 1, 0, 0, 0, 0, 0, []), (44, .getfield 33, 3, 5, 0, 9, 2, 0, []), (47, .getfield 68, 3, 1, 1, 16, 2, 1, [])],
  [(50, .iload 6, 2, 6, 0, 0, 0, 0, []), (52, .iconst 3, 1, 0, 0, 0, 0, 3, []), (53, .imul, 1, 0, 0, 0, 0, 0, []), (54, .iload_n 3, 1, 3, 0, 0, 0, 0, []), (55, .iadd, 1, 0, 0, 0, 0, 0, []), (56, .iaload, 1, 0, 0, 0, 0, 0, []), (57, .iload 4, 2, 4, 0, 0, 0, 0, []), (59, .if_icmp .ne 12, 3, 71, 0, 0, 0, 0, []), (62, .iload 5, 2, 5, 0, 0, 0, 0, [])],
  [(64, .iconst 1, 1, 0, 0, 0, 0, 1, []), (65, .iload 6, 2, 6, 0, 0, 0, 0, []), (67, .ishl, 1, 0, 0, 0, 0, 0, []), (68, .ior, 1, 0, 0, 0, 0, 0, []), (69, .istore 5, 2, 5, 0, 0, 0, 0, []), (71, .iinc 6 1, 3, 6, 0, 0, 0, 1, []), (74, .goto (-53), 3, 21, 0, 0, 0, 0, []), (77, .iload 5, 2, 5, 0, 0, 0, 0, []), (79, .ireturn, 1, 0, 0, 0, 0, 0, [])]]
def i_S_likeOnes : ai_I := ((⟨"SuiteBench$Search", "likeOnes", "(III)I"⟩, prog_7_method_13_code, 7, (some .int), 0, 0, 0, 0, 3, 0, 5) : ai_I)
def o_S_likeOnes (_ : Nat) : SP := fun _ _ _ _ _ => False
theorem mo_S_likeOnes : ∀ a, ai_mono (o_S_likeOnes a) := fun _ _ _ _ _ _ _ _ h => h
def f_S_likeOnes : SP := ai_M o_S_likeOnes 0 7 k_S_likeOnes
theorem mf_S_likeOnes : ai_mono f_S_likeOnes := M_mono mo_S_likeOnes
abbrev cal_S_likeOnes : List ai_I := []
theorem a_S_likeOnes : ai_all "SuiteBench$Search" prog_7_method_13_code 7 kc_S cal_S_likeOnes 0 0 false (some .int) k_S_likeOnes = true := by decide +kernel
theorem w_S_likeOnes : ai_CW i_S_likeOnes := ⟨(tk_mem (l := [((Jvm.Cond.code ({ cls := "SuiteBench$Search", name := "likeOnes", desc := "(III)I" } : Jvm.MethodName) prog_7_method_13_code (7 : Nat) (Option.some Jvm.ClassFile.FieldType.int)), 5, 221)]) (by decide +kernel) _ (List.mem_singleton.mpr rfl)), (tk_mem (l := [((Jvm.Cond.initialized "SuiteBench$Search"), 1, 7)]) (by decide +kernel) _ (List.mem_singleton.mpr rfl)), ⟨by decide +kernel, by decide +kernel, by decide +kernel⟩, ⟨(tk_mem (l := [((Jvm.Cond.instanceMethod ({ cls := "SuiteBench$Search", name := "likeOnes", desc := "(III)I" } : Jvm.MethodName)), 5, 220)]) (by decide +kernel) _ (List.mem_singleton.mpr rfl)), gw_sel 50 (by decide +kernel), .inl ⟨_, _, rfl⟩⟩⟩
theorem c_S_likeOnes {E2 : (Nat → Nat) → State → Heap → Prop} (hE : ai_XH E2) : ai_S E2 i_S_likeOnes f_S_likeOnes := snd_M (by decide) rfl (by decide) a_S_likeOnes kc_S_ok (by rfl) (by decide) (fun a i h => by simp [cal_S_likeOnes, ai_nth] at h)
def k_S_followAll : ai_C := [
  [(0, .iconst 0, 1, 0, 0, 0, 0, 0, []), (1, .istore_n 3, 1, 3, 0, 0, 0, 0, []), (2, .iconst 0, 1, 0, 0, 0, 0, 0, []), (3, .istore 4, 2, 4, 0, 0, 0, 0, []), (5, .iload 4, 2, 4, 0, 0, 0, 0, []), (7, .aload_n 0, 1, 0, 0, 0, 0, 0, []), (8, .getfield 33, 3, 5, 0, 9, 2, 0, []), (11, .getfield 56, 3, 1, 2, 15, 0, 2, []), (14, .if_icmp .ge 38, 3, 52, 0, 0, 0, 0, [])],
  [(17, .iload_n 1, 1, 1, 0, 0, 0, 0, []), (18, .iload 4, 2, 4, 0, 0, 0, 0, []), (20, .ishr, 1, 0, 0, 0, 0, 0, []), (21, .iconst 1, 1, 0, 0, 0, 0, 1, []), (22, .iand, 1, 0, 0, 0, 0, 0, []), (23, .iconst 1, 1, 0, 0, 0, 0, 1, []), (24, .if_icmp .ne 22, 3, 46, 0, 0, 0, 0, []), (27, .iload_n 3, 1, 3, 0, 0, 0, 0, []), (28, .iconst 1, 1, 0, 0, 0, 0, 1, []), (29, .aload_n 0, 1, 0, 0, 0, 0, 0, []), (30, .getfield 33, 3, 5, 0, 9, 2, 0, [])],
  [(33, .getfield 71, 3, 1, 0, 17, 2, 0, []), (36, .iload 4, 2, 4, 0, 0, 0, 0, []), (38, .iconst 3, 1, 0, 0, 0, 0, 3, []), (39, .imul, 1, 0, 0, 0, 0, 0, []), (40, .iload_n 2, 1, 2, 0, 0, 0, 0, []), (41, .iadd, 1, 0, 0, 0, 0, 0, []), (42, .iaload, 1, 0, 0, 0, 0, 0, []), (43, .ishl, 1, 0, 0, 0, 0, 0, []), (44, .ior, 1, 0, 0, 0, 0, 0, []), (45, .istore_n 3, 1, 3, 0, 0, 0, 0, []), (46, .iinc 4 1, 3, 4, 0, 0, 0, 1, [])],
  [(49, .goto (-44), 3, 5, 0, 0, 0, 0, []), (52, .iload_n 3, 1, 3, 0, 0, 0, 0, []), (53, .invokestatic 93, 3, 0, 1, 24, 0, 0, [(0, 99)]), (56, .iconst 2, 1, 0, 0, 0, 0, 2, []), (57, .if_icmp .ge 7, 3, 64, 0, 0, 0, 0, []), (60, .iconst 0, 1, 0, 0, 0, 0, 0, []), (61, .goto 4, 3, 65, 0, 0, 0, 0, [])],
  [(64, .iload_n 3, 1, 3, 0, 0, 0, 0, []), (65, .ireturn, 1, 0, 0, 0, 0, 0, [])]]
def i_S_followAll : ai_I := ((⟨"SuiteBench$Search", "followAll", "(II)I"⟩, prog_7_method_11_code, 5, (some .int), 0, 1, 20, 0, 2, 0, 5) : ai_I)
def o_S_followAll (a : Nat) : SP := match a with
  | 0 => f_J_bitCount
  | _ => fun _ _ _ _ _ => False
theorem mo_S_followAll : ∀ a, ai_mono (o_S_followAll a)
  | 0 => mf_J_bitCount
  | _ + 1 => fun _ _ _ _ _ _ _ h => h
def f_S_followAll : SP := ai_M o_S_followAll 0 5 k_S_followAll
theorem mf_S_followAll : ai_mono f_S_followAll := M_mono mo_S_followAll
abbrev cal_S_followAll : List ai_I := [i_J_bitCount]
theorem a_S_followAll : ai_all "SuiteBench$Search" prog_7_method_11_code 5 kc_S cal_S_followAll 1 20 false (some .int) k_S_followAll = true := by decide +kernel
theorem w_S_followAll : ai_CW i_S_followAll := ⟨(tk_mem (l := [((Jvm.Cond.code ({ cls := "SuiteBench$Search", name := "followAll", desc := "(II)I" } : Jvm.MethodName) prog_7_method_11_code (5 : Nat) (Option.some Jvm.ClassFile.FieldType.int)), 5, 225)]) (by decide +kernel) _ (List.mem_singleton.mpr rfl)), (tk_mem (l := [((Jvm.Cond.initialized "SuiteBench$Search"), 1, 7)]) (by decide +kernel) _ (List.mem_singleton.mpr rfl)), ⟨by decide +kernel, by decide +kernel, by decide +kernel⟩, ⟨(tk_mem (l := [((Jvm.Cond.instanceMethod ({ cls := "SuiteBench$Search", name := "followAll", desc := "(II)I" } : Jvm.MethodName)), 5, 224)]) (by decide +kernel) _ (List.mem_singleton.mpr rfl)), gw_sel 51 (by decide +kernel), .inl ⟨_, _, rfl⟩⟩⟩
theorem c_S_followAll {E2 : (Nat → Nat) → State → Heap → Prop} (hE : ai_XH E2) : ai_S E2 i_S_followAll f_S_followAll := snd_M (by decide) rfl (by decide) a_S_followAll kc_S_ok (by rfl) (by decide) (fun a i h => match a, h with
    | 0, h => by cases h; exact ⟨c_J_bitCount hE, w_J_bitCount⟩
    | _ + 1, h => by simp [cal_S_followAll, ai_nth] at h)
def k_S_depthBehind : ai_C := [
  [(0, .iconst 0, 1, 0, 0, 0, 0, 0, []), (1, .istore_n 3, 1, 3, 0, 0, 0, 0, []), (2, .iload_n 1, 1, 1, 0, 0, 0, 0, []), (3, .istore 4, 2, 4, 0, 0, 0, 0, []), (5, .iconst 0, 1, 0, 0, 0, 0, 0, []), (6, .istore 5, 2, 5, 0, 0, 0, 0, []), (8, .iload 5, 2, 5, 0, 0, 0, 0, []), (10, .aload_n 0, 1, 0, 0, 0, 0, 0, []), (11, .getfield 33, 3, 5, 0, 9, 2, 0, []), (14, .getfield 56, 3, 1, 2, 15, 0, 2, [])],
  [(17, .if_icmp .ge 93, 3, 110, 0, 0, 0, 0, []), (20, .iload 4, 2, 4, 0, 0, 0, 0, []), (22, .iload 5, 2, 5, 0, 0, 0, 0, []), (24, .ishr, 1, 0, 0, 0, 0, 0, []), (25, .iconst 1, 1, 0, 0, 0, 0, 1, []), (26, .iand, 1, 0, 0, 0, 0, 0, []), (27, .iconst 1, 1, 0, 0, 0, 0, 1, []), (28, .if_icmp .ne 76, 3, 104, 0, 0, 0, 0, []), (31, .aload_n 0, 1, 0, 0, 0, 0, 0, [])],
  [(32, .iload 4, 2, 4, 0, 0, 0, 0, []), (34, .iload 5, 2, 5, 0, 0, 0, 0, []), (36, .iload_n 2, 1, 2, 0, 0, 0, 0, []), (37, .invokevirtual 105, 3, 0, 4, 25, 0, 0, [(0, 5)]), (40, .istore 6, 2, 6, 0, 0, 0, 0, []), (42, .aload_n 0, 1, 0, 0, 0, 0, 0, []), (43, .iload 6, 2, 6, 0, 0, 0, 0, []), (45, .iload_n 2, 1, 2, 0, 0, 0, 0, []), (46, .invokevirtual 102, 3, 1, 3, 26, 0, 0, [(0, 5)])],
  [(49, .istore 7, 2, 7, 0, 0, 0, 0, []), (51, .iload 6, 2, 6, 0, 0, 0, 0, []), (53, .invokestatic 93, 3, 2, 1, 24, 0, 0, [(0, 99)]), (56, .iconst 1, 1, 0, 0, 0, 0, 1, []), (57, .iload 7, 2, 7, 0, 0, 0, 0, []), (59, .invokestatic 93, 3, 2, 1, 24, 0, 0, [(0, 99)]), (62, .invokestatic 109, 3, 0, 0, 27, 22, 0, [])],
  [(65, .if_icmp .gt 15, 3, 80, 0, 0, 0, 0, []), (68, .aload_n 0, 1, 0, 0, 0, 0, 0, []), (69, .getfield 27, 3, 5, 7, 7, 2, 7, []), (72, .iload 7, 2, 7, 0, 0, 0, 0, []), (74, .iaload, 1, 0, 0, 0, 0, 0, []), (75, .bipush (-2), 2, 0, 0, 0, 0, (-2), []), (77, .if_icmp .ne 6, 3, 83, 0, 0, 0, 0, [])],
  [(80, .bipush 99, 2, 0, 0, 0, 0, 99, []), (82, .ireturn, 1, 0, 0, 0, 0, 0, []), (83, .iload_n 3, 1, 3, 0, 0, 0, 0, []), (84, .aload_n 0, 1, 0, 0, 0, 0, 0, []), (85, .getfield 27, 3, 5, 7, 7, 2, 7, []), (88, .iload 7, 2, 7, 0, 0, 0, 0, []), (90, .iaload, 1, 0, 0, 0, 0, 0, []), (91, .invokestatic 109, 3, 0, 0, 27, 22, 0, []), (94, .istore_n 3, 1, 3, 0, 0, 0, 0, []), (95, .iload 4, 2, 4, 0, 0, 0, 0, [])],
  [(97, .iload 6, 2, 6, 0, 0, 0, 0, []), (99, .iconst (-1), 1, 0, 0, 0, 0, (-1), []), (100, .ixor, 1, 0, 0, 0, 0, 0, []), (101, .iand, 1, 0, 0, 0, 0, 0, []), (102, .istore 4, 2, 4, 0, 0, 0, 0, []), (104, .iinc 5 1, 3, 5, 0, 0, 0, 1, []), (107, .goto (-99), 3, 8, 0, 0, 0, 0, []), (110, .iload_n 3, 1, 3, 0, 0, 0, 0, []), (111, .ireturn, 1, 0, 0, 0, 0, 0, [])]]
def i_S_depthBehind : ai_I := ((⟨"SuiteBench$Search", "depthBehind", "(II)I"⟩, prog_7_method_19_code, 8, (some .int), 0, 2, 44, 0, 2, 0, 5) : ai_I)
def o_S_depthBehind (a : Nat) : SP := match a with
  | 0 => f_S_likeOnes
  | 1 => f_S_followAll
  | 2 => f_J_bitCount
  | _ => fun _ _ _ _ _ => False
theorem mo_S_depthBehind : ∀ a, ai_mono (o_S_depthBehind a)
  | 0 => mf_S_likeOnes
  | 1 => mf_S_followAll
  | 2 => mf_J_bitCount
  | _ + 3 => fun _ _ _ _ _ _ _ h => h
def f_S_depthBehind : SP := ai_M o_S_depthBehind 0 8 k_S_depthBehind
theorem mf_S_depthBehind : ai_mono f_S_depthBehind := M_mono mo_S_depthBehind
abbrev cal_S_depthBehind : List ai_I := [i_S_likeOnes, i_S_followAll, i_J_bitCount]
theorem a_S_depthBehind : ai_all "SuiteBench$Search" prog_7_method_19_code 8 kc_S cal_S_depthBehind 2 44 false (some .int) k_S_depthBehind = true := by decide +kernel
theorem w_S_depthBehind : ai_CW i_S_depthBehind := ⟨(tk_mem (l := [((Jvm.Cond.code ({ cls := "SuiteBench$Search", name := "depthBehind", desc := "(II)I" } : Jvm.MethodName) prog_7_method_19_code (8 : Nat) (Option.some Jvm.ClassFile.FieldType.int)), 5, 217)]) (by decide +kernel) _ (List.mem_singleton.mpr rfl)), (tk_mem (l := [((Jvm.Cond.initialized "SuiteBench$Search"), 1, 7)]) (by decide +kernel) _ (List.mem_singleton.mpr rfl)), ⟨by decide +kernel, by decide +kernel, by decide +kernel⟩, ⟨(tk_mem (l := [((Jvm.Cond.instanceMethod ({ cls := "SuiteBench$Search", name := "depthBehind", desc := "(II)I" } : Jvm.MethodName)), 5, 216)]) (by decide +kernel) _ (List.mem_singleton.mpr rfl)), gw_sel 49 (by decide +kernel), .inl ⟨_, _, rfl⟩⟩⟩
theorem c_S_depthBehind {E2 : (Nat → Nat) → State → Heap → Prop} (hE : ai_XH E2) : ai_S E2 i_S_depthBehind f_S_depthBehind := snd_M (by decide) rfl (by decide) a_S_depthBehind kc_S_ok (by rfl) (by decide) (fun a i h => match a, h with
    | 0, h => by cases h; exact ⟨c_S_likeOnes hE, w_S_likeOnes⟩
    | 1, h => by cases h; exact ⟨c_S_followAll hE, w_S_followAll⟩
    | 2, h => by cases h; exact ⟨c_J_bitCount hE, w_J_bitCount⟩
    | _ + 3, h => by simp [cal_S_depthBehind, ai_nth] at h)
def k_S_learnTree : ai_C := [
  [(0, .iconst 0, 1, 0, 0, 0, 0, 0, []), (1, .istore_n 3, 1, 3, 0, 0, 0, 0, []), (2, .iload_n 3, 1, 3, 0, 0, 0, 0, []), (3, .aload_n 0, 1, 0, 0, 0, 0, 0, []), (4, .getfield 33, 3, 5, 0, 9, 2, 0, []), (7, .getfield 65, 3, 1, 3, 20, 0, 3, []), (10, .if_icmp .ge 34, 3, 44, 0, 0, 0, 0, []), (13, .aload_n 0, 1, 0, 0, 0, 0, 0, []), (14, .iload_n 1, 1, 1, 0, 0, 0, 0, []), (15, .iload_n 3, 1, 3, 0, 0, 0, 0, [])],
  [(16, .invokevirtual 126, 3, 0, 3, 28, 0, 0, [(0, 5)]), (19, .iload_n 2, 1, 2, 0, 0, 0, 0, []), (20, .if_icmp .ge 18, 3, 38, 0, 0, 0, 0, []), (23, .aload_n 0, 1, 0, 0, 0, 0, 0, []), (24, .getfield 27, 3, 5, 7, 7, 2, 7, []), (27, .iload_n 1, 1, 1, 0, 0, 0, 0, []), (28, .iload_n 2, 1, 2, 0, 0, 0, 0, []), (29, .iastore, 1, 0, 0, 0, 0, 0, []), (30, .aload_n 0, 1, 0, 0, 0, 0, 0, []), (31, .getfield 30, 3, 5, 8, 8, 2, 8, [])],
  [(34, .iload_n 1, 1, 1, 0, 0, 0, 0, []), (35, .iload_n 3, 1, 3, 0, 0, 0, 0, []), (36, .iastore, 1, 0, 0, 0, 0, 0, []), (37, .return_, 1, 0, 0, 0, 0, 0, []), (38, .iinc 3 1, 3, 3, 0, 0, 0, 1, []), (41, .goto (-39), 3, 2, 0, 0, 0, 0, []), (44, .return_, 1, 0, 0, 0, 0, 0, [])]]
def i_S_learnTree : ai_I := ((⟨"SuiteBench$Search", "learnTree", "(II)V"⟩, prog_7_method_18_code, 4, none, 9, 3, 71, 0, 2, 0, 5) : ai_I)
def o_S_learnTree (a : Nat) : SP := match a with
  | 0 => f_S_depthBehind
  | _ => fun _ _ _ _ _ => False
theorem mo_S_learnTree : ∀ a, ai_mono (o_S_learnTree a)
  | 0 => mf_S_depthBehind
  | _ + 1 => fun _ _ _ _ _ _ _ h => h
def f_S_learnTree : SP := ai_M o_S_learnTree 0 4 k_S_learnTree
theorem mf_S_learnTree : ai_mono f_S_learnTree := M_mono mo_S_learnTree
abbrev cal_S_learnTree : List ai_I := [i_S_depthBehind]
theorem a_S_learnTree : ai_all "SuiteBench$Search" prog_7_method_18_code 4 kc_S cal_S_learnTree 3 71 false none k_S_learnTree = true := by decide +kernel
theorem w_S_learnTree : ai_CW i_S_learnTree := ⟨(tk_mem (l := [((Jvm.Cond.code ({ cls := "SuiteBench$Search", name := "learnTree", desc := "(II)V" } : Jvm.MethodName) prog_7_method_18_code (4 : Nat) (Option.none : Option Jvm.ClassFile.FieldType)), 5, 213)]) (by decide +kernel) _ (List.mem_singleton.mpr rfl)), (tk_mem (l := [((Jvm.Cond.initialized "SuiteBench$Search"), 1, 7)]) (by decide +kernel) _ (List.mem_singleton.mpr rfl)), ⟨by decide +kernel, by decide +kernel, by decide +kernel⟩, ⟨(tk_mem (l := [((Jvm.Cond.instanceMethod ({ cls := "SuiteBench$Search", name := "learnTree", desc := "(II)V" } : Jvm.MethodName)), 5, 212)]) (by decide +kernel) _ (List.mem_singleton.mpr rfl)), gw_sel 48 (by decide +kernel), .inl ⟨_, _, rfl⟩⟩⟩
theorem c_S_learnTree {E2 : (Nat → Nat) → State → Heap → Prop} (hE : ai_XH E2) : ai_S E2 i_S_learnTree f_S_learnTree := snd_M (by decide) rfl (by decide) a_S_learnTree kc_S_ok (by rfl) (by decide) (fun a i h => match a, h with
    | 0, h => by cases h; exact ⟨c_S_depthBehind hE, w_S_depthBehind⟩
    | _ + 1, h => by simp [cal_S_learnTree, ai_nth] at h)
def k_S_learnTrees : ai_C := [
  [(0, .aload_n 0, 1, 0, 0, 0, 0, 0, []), (1, .getfield 47, 3, 5, 9, 12, 3, 9, []), (4, .ifCond .eq 4, 3, 8, 0, 0, 0, 0, []), (7, .return_, 1, 0, 0, 0, 0, 0, []), (8, .aload_n 0, 1, 0, 0, 0, 0, 0, []), (9, .iconst 1, 1, 0, 0, 0, 0, 1, []), (10, .putfield 47, 3, 5, 9, 12, 3, 9, []), (13, .iconst 1, 1, 0, 0, 0, 0, 1, []), (14, .aload_n 0, 1, 0, 0, 0, 0, 0, []), (15, .getfield 33, 3, 5, 0, 9, 2, 0, [])],
  [(18, .getfield 56, 3, 1, 2, 15, 0, 2, []), (21, .bipush 6, 2, 0, 0, 0, 0, 6, []), (23, .invokestatic 120, 3, 0, 0, 29, 23, 0, []), (26, .ishl, 1, 0, 0, 0, 0, 0, []), (27, .istore_n 1, 1, 1, 0, 0, 0, 0, []), (28, .iconst 0, 1, 0, 0, 0, 0, 0, []), (29, .istore_n 2, 1, 2, 0, 0, 0, 0, []), (30, .iload_n 2, 1, 2, 0, 0, 0, 0, []), (31, .iload_n 1, 1, 1, 0, 0, 0, 0, [])],
  [(32, .if_icmp .ge 37, 3, 69, 0, 0, 0, 0, []), (35, .aload_n 0, 1, 0, 0, 0, 0, 0, []), (36, .getfield 27, 3, 5, 7, 7, 2, 7, []), (39, .iload_n 2, 1, 2, 0, 0, 0, 0, []), (40, .iload_n 2, 1, 2, 0, 0, 0, 0, []), (41, .invokestatic 93, 3, 0, 1, 24, 0, 0, [(0, 99)]), (44, .iconst 2, 1, 0, 0, 0, 0, 2, []), (45, .if_icmp .ge 7, 3, 52, 0, 0, 0, 0, [])],
  [(48, .iconst 0, 1, 0, 0, 0, 0, 0, []), (49, .goto 5, 3, 54, 0, 0, 0, 0, []), (52, .bipush (-2), 2, 0, 0, 0, 0, (-2), []), (54, .iastore, 1, 0, 0, 0, 0, 0, []), (55, .aload_n 0, 1, 0, 0, 0, 0, 0, []), (56, .getfield 30, 3, 5, 8, 8, 2, 8, []), (59, .iload_n 2, 1, 2, 0, 0, 0, 0, []), (60, .bipush (-2), 2, 0, 0, 0, 0, (-2), []), (62, .iastore, 1, 0, 0, 0, 0, 0, []), (63, .iinc 2 1, 3, 2, 0, 0, 0, 1, [])],
  [(66, .goto (-36), 3, 30, 0, 0, 0, 0, []), (69, .iconst 1, 1, 0, 0, 0, 0, 1, []), (70, .istore_n 2, 1, 2, 0, 0, 0, 0, []), (71, .iload_n 2, 1, 2, 0, 0, 0, 0, []), (72, .bipush 8, 2, 0, 0, 0, 0, 8, []), (74, .if_icmp .gt 39, 3, 113, 0, 0, 0, 0, []), (77, .iconst 0, 1, 0, 0, 0, 0, 0, []), (78, .istore_n 3, 1, 3, 0, 0, 0, 0, []), (79, .iload_n 3, 1, 3, 0, 0, 0, 0, [])],
  [(80, .iload_n 1, 1, 1, 0, 0, 0, 0, []), (81, .if_icmp .ge 26, 3, 107, 0, 0, 0, 0, []), (84, .aload_n 0, 1, 0, 0, 0, 0, 0, []), (85, .getfield 27, 3, 5, 7, 7, 2, 7, []), (88, .iload_n 3, 1, 3, 0, 0, 0, 0, []), (89, .iaload, 1, 0, 0, 0, 0, 0, []), (90, .bipush (-2), 2, 0, 0, 0, 0, (-2), []), (92, .if_icmp .ne 9, 3, 101, 0, 0, 0, 0, []), (95, .aload_n 0, 1, 0, 0, 0, 0, 0, [])],
  [(96, .iload_n 3, 1, 3, 0, 0, 0, 0, []), (97, .iload_n 2, 1, 2, 0, 0, 0, 0, []), (98, .invokevirtual 123, 3, 1, 3, 30, 9, 0, [(0, 5)]), (101, .iinc 3 1, 3, 3, 0, 0, 0, 1, []), (104, .goto (-25), 3, 79, 0, 0, 0, 0, []), (107, .iinc 2 1, 3, 2, 0, 0, 0, 1, []), (110, .goto (-39), 3, 71, 0, 0, 0, 0, [])],
  [(113, .return_, 1, 0, 0, 0, 0, 0, [])]]
def i_S_learnTrees : ai_I := ((⟨"SuiteBench$Search", "learnTrees", "()V"⟩, prog_7_method_17_code, 4, none, 9, 4, 94, 0, 0, 0, 5) : ai_I)
def o_S_learnTrees (a : Nat) : SP := match a with
  | 0 => f_J_bitCount
  | 1 => f_S_learnTree
  | _ => fun _ _ _ _ _ => False
theorem mo_S_learnTrees : ∀ a, ai_mono (o_S_learnTrees a)
  | 0 => mf_J_bitCount
  | 1 => mf_S_learnTree
  | _ + 2 => fun _ _ _ _ _ _ _ h => h
def f_S_learnTrees : SP := ai_M o_S_learnTrees 0 4 k_S_learnTrees
theorem mf_S_learnTrees : ai_mono f_S_learnTrees := M_mono mo_S_learnTrees
abbrev cal_S_learnTrees : List ai_I := [i_J_bitCount, i_S_learnTree]
theorem a_S_learnTrees : ai_all "SuiteBench$Search" prog_7_method_17_code 4 kc_S cal_S_learnTrees 4 94 false none k_S_learnTrees = true := by decide +kernel
theorem w_S_learnTrees : ai_CW i_S_learnTrees := ⟨(tk_mem (l := [((Jvm.Cond.code ({ cls := "SuiteBench$Search", name := "learnTrees", desc := "()V" } : Jvm.MethodName) prog_7_method_17_code (4 : Nat) (Option.none : Option Jvm.ClassFile.FieldType)), 5, 207)]) (by decide +kernel) _ (List.mem_singleton.mpr rfl)), (tk_mem (l := [((Jvm.Cond.initialized "SuiteBench$Search"), 1, 7)]) (by decide +kernel) _ (List.mem_singleton.mpr rfl)), ⟨by decide +kernel, by decide +kernel, by decide +kernel⟩, ⟨(tk_mem (l := [((Jvm.Cond.instanceMethod ({ cls := "SuiteBench$Search", name := "learnTrees", desc := "()V" } : Jvm.MethodName)), 5, 206)]) (by decide +kernel) _ (List.mem_singleton.mpr rfl)), gw_sel 47 (by decide +kernel), .inl ⟨_, _, rfl⟩⟩⟩
theorem c_S_learnTrees {E2 : (Nat → Nat) → State → Heap → Prop} (hE : ai_XH E2) : ai_S E2 i_S_learnTrees f_S_learnTrees := snd_M (by decide) rfl (by decide) a_S_learnTrees kc_S_ok (by rfl) (by decide) (fun a i h => match a, h with
    | 0, h => by cases h; exact ⟨c_J_bitCount hE, w_J_bitCount⟩
    | 1, h => by cases h; exact ⟨c_S_learnTree hE, w_S_learnTree⟩
    | _ + 2, h => by simp [cal_S_learnTrees, ai_nth] at h)
def k_S_treeDepth : ai_C := [
  [(0, .aload_n 0, 1, 0, 0, 0, 0, 0, []), (1, .invokevirtual 117, 3, 0, 1, 31, 9, 0, [(0, 5)]), (4, .aload_n 0, 1, 0, 0, 0, 0, 0, []), (5, .getfield 27, 3, 5, 7, 7, 2, 7, []), (8, .iload_n 1, 1, 1, 0, 0, 0, 0, []), (9, .iaload, 1, 0, 0, 0, 0, 0, []), (10, .ireturn, 1, 0, 0, 0, 0, 0, [])]]
def i_S_treeDepth : ai_I := ((⟨"SuiteBench$Search", "treeDepth", "(I)I"⟩, prog_7_method_15_code, 2, (some .int), 0, 5, 117, 0, 1, 0, 5) : ai_I)
def o_S_treeDepth (a : Nat) : SP := match a with
  | 0 => f_S_learnTrees
  | _ => fun _ _ _ _ _ => False
theorem mo_S_treeDepth : ∀ a, ai_mono (o_S_treeDepth a)
  | 0 => mf_S_learnTrees
  | _ + 1 => fun _ _ _ _ _ _ _ h => h
def f_S_treeDepth : SP := ai_M o_S_treeDepth 0 2 k_S_treeDepth
theorem mf_S_treeDepth : ai_mono f_S_treeDepth := M_mono mo_S_treeDepth
abbrev cal_S_treeDepth : List ai_I := [i_S_learnTrees]
theorem a_S_treeDepth : ai_all "SuiteBench$Search" prog_7_method_15_code 2 kc_S cal_S_treeDepth 5 117 false (some .int) k_S_treeDepth = true := by decide +kernel
theorem w_S_treeDepth : ai_CW i_S_treeDepth := ⟨(tk_mem (l := [((Jvm.Cond.code ({ cls := "SuiteBench$Search", name := "treeDepth", desc := "(I)I" } : Jvm.MethodName) prog_7_method_15_code (2 : Nat) (Option.some Jvm.ClassFile.FieldType.int)), 5, 203)]) (by decide +kernel) _ (List.mem_singleton.mpr rfl)), (tk_mem (l := [((Jvm.Cond.initialized "SuiteBench$Search"), 1, 7)]) (by decide +kernel) _ (List.mem_singleton.mpr rfl)), ⟨by decide +kernel, by decide +kernel, by decide +kernel⟩, ⟨(tk_mem (l := [((Jvm.Cond.instanceMethod ({ cls := "SuiteBench$Search", name := "treeDepth", desc := "(I)I" } : Jvm.MethodName)), 5, 201)]) (by decide +kernel) _ (List.mem_singleton.mpr rfl)), (tk_mem (l := [((Jvm.Cond.selects "SuiteBench$Search" ({ cls := "SuiteBench$Search", name := "treeDepth", desc := "(I)I" } : Jvm.MethodName) ({ cls := "SuiteBench$Search", name := "treeDepth", desc := "(I)I" } : Jvm.MethodName)), 5, 202)]) (by decide +kernel) _ (List.mem_singleton.mpr rfl)), .inl ⟨_, _, rfl⟩⟩⟩
theorem c_S_treeDepth {E2 : (Nat → Nat) → State → Heap → Prop} (hE : ai_XH E2) : ai_S E2 i_S_treeDepth f_S_treeDepth := snd_M (by decide) rfl (by decide) a_S_treeDepth kc_S_ok (by rfl) (by decide) (fun a i h => match a, h with
    | 0, h => by cases h; exact ⟨c_S_learnTrees hE, w_S_learnTrees⟩
    | _ + 1, h => by simp [cal_S_treeDepth, ai_nth] at h)
def k_S_treeInput : ai_C := [
  [(0, .aload_n 0, 1, 0, 0, 0, 0, 0, []), (1, .invokevirtual 117, 3, 0, 1, 31, 9, 0, [(0, 5)]), (4, .aload_n 0, 1, 0, 0, 0, 0, 0, []), (5, .getfield 30, 3, 5, 8, 8, 2, 8, []), (8, .iload_n 1, 1, 1, 0, 0, 0, 0, []), (9, .iaload, 1, 0, 0, 0, 0, 0, []), (10, .ireturn, 1, 0, 0, 0, 0, 0, [])]]
def i_S_treeInput : ai_I := ((⟨"SuiteBench$Search", "treeInput", "(I)I"⟩, prog_7_method_16_code, 2, (some .int), 0, 5, 117, 0, 1, 0, 5) : ai_I)
def o_S_treeInput (a : Nat) : SP := match a with
  | 0 => f_S_learnTrees
  | _ => fun _ _ _ _ _ => False
theorem mo_S_treeInput : ∀ a, ai_mono (o_S_treeInput a)
  | 0 => mf_S_learnTrees
  | _ + 1 => fun _ _ _ _ _ _ _ h => h
def f_S_treeInput : SP := ai_M o_S_treeInput 0 2 k_S_treeInput
theorem mf_S_treeInput : ai_mono f_S_treeInput := M_mono mo_S_treeInput
abbrev cal_S_treeInput : List ai_I := [i_S_learnTrees]
theorem a_S_treeInput : ai_all "SuiteBench$Search" prog_7_method_16_code 2 kc_S cal_S_treeInput 5 117 false (some .int) k_S_treeInput = true := by decide +kernel
theorem w_S_treeInput : ai_CW i_S_treeInput := ⟨(tk_mem (l := [((Jvm.Cond.code ({ cls := "SuiteBench$Search", name := "treeInput", desc := "(I)I" } : Jvm.MethodName) prog_7_method_16_code (2 : Nat) (Option.some Jvm.ClassFile.FieldType.int)), 5, 230)]) (by decide +kernel) _ (List.mem_singleton.mpr rfl)), (tk_mem (l := [((Jvm.Cond.initialized "SuiteBench$Search"), 1, 7)]) (by decide +kernel) _ (List.mem_singleton.mpr rfl)), ⟨by decide +kernel, by decide +kernel, by decide +kernel⟩, ⟨(tk_mem (l := [((Jvm.Cond.instanceMethod ({ cls := "SuiteBench$Search", name := "treeInput", desc := "(I)I" } : Jvm.MethodName)), 5, 228)]) (by decide +kernel) _ (List.mem_singleton.mpr rfl)), (tk_mem (l := [((Jvm.Cond.selects "SuiteBench$Search" ({ cls := "SuiteBench$Search", name := "treeInput", desc := "(I)I" } : Jvm.MethodName) ({ cls := "SuiteBench$Search", name := "treeInput", desc := "(I)I" } : Jvm.MethodName)), 5, 229)]) (by decide +kernel) _ (List.mem_singleton.mpr rfl)), .inl ⟨_, _, rfl⟩⟩⟩
theorem c_S_treeInput {E2 : (Nat → Nat) → State → Heap → Prop} (hE : ai_XH E2) : ai_S E2 i_S_treeInput f_S_treeInput := snd_M (by decide) rfl (by decide) a_S_treeInput kc_S_ok (by rfl) (by decide) (fun a i h => match a, h with
    | 0, h => by cases h; exact ⟨c_S_learnTrees hE, w_S_learnTrees⟩
    | _ + 1, h => by simp [cal_S_treeInput, ai_nth] at h)
def k_B_tree : ai_C := [
  [(0, .iload_n 1, 1, 1, 0, 0, 0, 0, []), (1, .ifCond .lt 33, 3, 34, 0, 0, 0, 0, []), (4, .iload_n 1, 1, 1, 0, 0, 0, 0, []), (5, .iconst 1, 1, 0, 0, 0, 0, 1, []), (6, .aload_n 0, 1, 0, 0, 0, 0, 0, []), (7, .getfield 26, 3, 11, 1, 0, 2, 1, []), (10, .getfield 166, 3, 1, 2, 80, 0, 2, []), (13, .ishl, 1, 0, 0, 0, 0, 0, []), (14, .if_icmp .ge 20, 3, 34, 0, 0, 0, 0, [])],
  [(17, .iload_n 1, 1, 1, 0, 0, 0, 0, []), (18, .invokestatic 280, 3, 0, 1, 125, 0, 0, [(0, 99)]), (21, .iconst 2, 1, 0, 0, 0, 0, 2, []), (22, .if_icmp .lt 12, 3, 34, 0, 0, 0, 0, []), (25, .iload_n 2, 1, 2, 0, 0, 0, 0, []), (26, .ifCond .lt 8, 3, 34, 0, 0, 0, 0, []), (29, .iload_n 2, 1, 2, 0, 0, 0, 0, []), (30, .iconst 1, 1, 0, 0, 0, 0, 1, []), (31, .if_icmp .le 5, 3, 36, 0, 0, 0, 0, [])],
  [(34, .iconst (-1), 1, 0, 0, 0, 0, (-1), []), (35, .ireturn, 1, 0, 0, 0, 0, 0, []), (36, .iload_n 2, 1, 2, 0, 0, 0, 0, []), (37, .ifCond .ne 14, 3, 51, 0, 0, 0, 0, []), (40, .aload_n 0, 1, 0, 0, 0, 0, 0, []), (41, .getfield 47, 3, 11, 4, 12, 2, 4, []), (44, .iload_n 1, 1, 1, 0, 0, 0, 0, []), (45, .invokevirtual 285, 3, 1, 2, 126, 0, 0, [(0, 5)])],
  [(48, .goto 11, 3, 59, 0, 0, 0, 0, []), (51, .aload_n 0, 1, 0, 0, 0, 0, 0, []), (52, .getfield 47, 3, 11, 4, 12, 2, 4, []), (55, .iload_n 1, 1, 1, 0, 0, 0, 0, []), (56, .invokevirtual 288, 3, 2, 2, 127, 0, 0, [(0, 5)]), (59, .ireturn, 1, 0, 0, 0, 0, 0, [])]]
def i_B_tree : ai_I := ((⟨"SuiteBench", "tree", "(II)I"⟩, prog_1_method_28_code, 3, (some .int), 0, 6, 138, 0, 2, 0, 11) : ai_I)
def o_B_tree (a : Nat) : SP := match a with
  | 0 => f_J_bitCount
  | 1 => f_S_treeDepth
  | 2 => f_S_treeInput
  | _ => fun _ _ _ _ _ => False
theorem mo_B_tree : ∀ a, ai_mono (o_B_tree a)
  | 0 => mf_J_bitCount
  | 1 => mf_S_treeDepth
  | 2 => mf_S_treeInput
  | _ + 3 => fun _ _ _ _ _ _ _ h => h
def f_B_tree : SP := ai_M o_B_tree 0 3 k_B_tree
theorem mf_B_tree : ai_mono f_B_tree := M_mono mo_B_tree
abbrev cal_B_tree : List ai_I := [i_J_bitCount, i_S_treeDepth, i_S_treeInput]
theorem a_B_tree : ai_all "SuiteBench" prog_1_method_28_code 3 kc_B cal_B_tree 6 138 false (some .int) k_B_tree = true := by decide +kernel
theorem w_B_tree : ai_CW i_B_tree := ⟨(tk_mem (l := [((Jvm.Cond.code ({ cls := "SuiteBench", name := "tree", desc := "(II)I" } : Jvm.MethodName) prog_1_method_28_code (3 : Nat) (Option.some Jvm.ClassFile.FieldType.int)), 5, 193)]) (by decide +kernel) _ (List.mem_singleton.mpr rfl)), (tk_mem (l := [((Jvm.Cond.initialized "SuiteBench"), 1, 1)]) (by decide +kernel) _ (List.mem_singleton.mpr rfl)), ⟨by decide +kernel, by decide +kernel, by decide +kernel⟩, ⟨(tk_mem (l := [((Jvm.Cond.instanceMethod ({ cls := "SuiteBench", name := "tree", desc := "(II)I" } : Jvm.MethodName)), 5, 191)]) (by decide +kernel) _ (List.mem_singleton.mpr rfl)), (tk_mem (l := [((Jvm.Cond.selects "SuiteBench" ({ cls := "SuiteBench", name := "tree", desc := "(II)I" } : Jvm.MethodName) ({ cls := "SuiteBench", name := "tree", desc := "(II)I" } : Jvm.MethodName)), 5, 192)]) (by decide +kernel) _ (List.mem_singleton.mpr rfl)), .inl ⟨_, _, rfl⟩⟩⟩
theorem c_B_tree {E2 : (Nat → Nat) → State → Heap → Prop} (hE : ai_XH E2) : ai_S E2 i_B_tree f_B_tree := snd_M (by decide) rfl (by decide) a_B_tree kc_B_ok (by rfl) (by decide) (fun a i h => match a, h with
    | 0, h => by cases h; exact ⟨c_J_bitCount hE, w_J_bitCount⟩
    | 1, h => by cases h; exact ⟨c_S_treeDepth hE, w_S_treeDepth⟩
    | 2, h => by cases h; exact ⟨c_S_treeInput hE, w_S_treeInput⟩
    | _ + 3, h => by simp [cal_B_tree, ai_nth] at h)
def k_N_answersSo : ai_C := [
  [(0, .iconst 0, 1, 0, 0, 0, 0, 0, []), (1, .istore_n 2, 1, 2, 0, 0, 0, 0, []), (2, .iconst 0, 1, 0, 0, 0, 0, 0, []), (3, .istore_n 3, 1, 3, 0, 0, 0, 0, []), (4, .iload_n 3, 1, 3, 0, 0, 0, 0, []), (5, .bipush 6, 2, 0, 0, 0, 0, 6, []), (7, .if_icmp .ge 108, 3, 115, 0, 0, 0, 0, []), (10, .aload_n 0, 1, 0, 0, 0, 0, 0, []), (11, .getfield 102, 3, 12, 51, 54, 2, 51, []), (14, .bipush 6, 2, 0, 0, 0, 0, 6, [])],
  [(16, .iload_n 1, 1, 1, 0, 0, 0, 0, []), (17, .imul, 1, 0, 0, 0, 0, 0, []), (18, .iload_n 3, 1, 3, 0, 0, 0, 0, []), (19, .iadd, 1, 0, 0, 0, 0, 0, []), (20, .iaload, 1, 0, 0, 0, 0, 0, []), (21, .istore 4, 2, 4, 0, 0, 0, 0, []), (23, .iconst 0, 1, 0, 0, 0, 0, 0, []), (24, .iconst 3, 1, 0, 0, 0, 0, 3, []), (25, .iload 4, 2, 4, 0, 0, 0, 0, []), (27, .imul, 1, 0, 0, 0, 0, 0, []), (28, .iadd, 1, 0, 0, 0, 0, 0, []), (29, .aload_n 0, 1, 0, 0, 0, 0, 0, []), (30, .getfield 105, 3, 12, 52, 55, 2, 52, [])],
  [(33, .iload_n 1, 1, 1, 0, 0, 0, 0, []), (34, .iaload, 1, 0, 0, 0, 0, 0, []), (35, .iadd, 1, 0, 0, 0, 0, 0, []), (36, .istore 5, 2, 5, 0, 0, 0, 0, []), (38, .iload 4, 2, 4, 0, 0, 0, 0, []), (40, .iconst (-1), 1, 0, 0, 0, 0, (-1), []), (41, .if_icmp .eq 23, 3, 64, 0, 0, 0, 0, []), (44, .aload_n 0, 1, 0, 0, 0, 0, 0, []), (45, .getfield 41, 3, 12, 21, 10, 2, 21, [])],
  [(48, .iload 5, 2, 5, 0, 0, 0, 0, []), (50, .iaload, 1, 0, 0, 0, 0, 0, []), (51, .aload_n 0, 1, 0, 0, 0, 0, 0, []), (52, .getfield 108, 3, 12, 53, 56, 2, 53, []), (55, .iload_n 1, 1, 1, 0, 0, 0, 0, []), (56, .iaload, 1, 0, 0, 0, 0, 0, []), (57, .if_icmp .ne 7, 3, 64, 0, 0, 0, 0, []), (60, .iconst 1, 1, 0, 0, 0, 0, 1, []), (61, .goto 4, 3, 65, 0, 0, 0, 0, [])],
  [(64, .iconst 0, 1, 0, 0, 0, 0, 0, []), (65, .istore 6, 2, 6, 0, 0, 0, 0, []), (67, .aload_n 0, 1, 0, 0, 0, 0, 0, []), (68, .getfield 102, 3, 12, 51, 54, 2, 51, []), (71, .bipush 6, 2, 0, 0, 0, 0, 6, []), (73, .iload_n 1, 1, 1, 0, 0, 0, 0, []), (74, .iconst 1, 1, 0, 0, 0, 0, 1, []), (75, .iadd, 1, 0, 0, 0, 0, 0, []), (76, .imul, 1, 0, 0, 0, 0, 0, []), (77, .iload_n 3, 1, 3, 0, 0, 0, 0, []), (78, .iadd, 1, 0, 0, 0, 0, 0, []), (79, .iload 6, 2, 6, 0, 0, 0, 0, [])],
  [(81, .ifCond .eq 13, 3, 94, 0, 0, 0, 0, []), (84, .aload_n 0, 1, 0, 0, 0, 0, 0, []), (85, .getfield 38, 3, 12, 20, 4, 2, 20, []), (88, .iload 5, 2, 5, 0, 0, 0, 0, []), (90, .iaload, 1, 0, 0, 0, 0, 0, []), (91, .goto 4, 3, 95, 0, 0, 0, 0, []), (94, .iconst (-1), 1, 0, 0, 0, 0, (-1), []), (95, .iastore, 1, 0, 0, 0, 0, 0, [])],
  [(96, .iload_n 2, 1, 2, 0, 0, 0, 0, []), (97, .iload 6, 2, 6, 0, 0, 0, 0, []), (99, .ifCond .eq 7, 3, 106, 0, 0, 0, 0, []), (102, .iconst 1, 1, 0, 0, 0, 0, 1, []), (103, .goto 4, 3, 107, 0, 0, 0, 0, []), (106, .iconst 0, 1, 0, 0, 0, 0, 0, []), (107, .iadd, 1, 0, 0, 0, 0, 0, []), (108, .istore_n 2, 1, 2, 0, 0, 0, 0, []), (109, .iinc 3 1, 3, 3, 0, 0, 0, 1, [])],
  [(112, .goto (-108), 3, 4, 0, 0, 0, 0, []), (115, .iload_n 2, 1, 2, 0, 0, 0, 0, []), (116, .ireturn, 1, 0, 0, 0, 0, 0, [])]]
def i_N_answersSo : ai_I := ((⟨"SuiteBenchModel", "answersSo", "(I)I"⟩, prog_14_method_106_code, 7, (some .int), 0, 0, 0, 0, 1, 0, 12) : ai_I)
def o_N_answersSo (_ : Nat) : SP := fun _ _ _ _ _ => False
theorem mo_N_answersSo : ∀ a, ai_mono (o_N_answersSo a) := fun _ _ _ _ _ _ _ _ h => h
def f_N_answersSo : SP := ai_M o_N_answersSo 0 7 k_N_answersSo
theorem mf_N_answersSo : ai_mono f_N_answersSo := M_mono mo_N_answersSo
abbrev cal_N_answersSo : List ai_I := []
theorem a_N_answersSo : ai_all "SuiteBenchModel" prog_14_method_106_code 7 kc_N cal_N_answersSo 0 0 false (some .int) k_N_answersSo = true := by decide +kernel
theorem w_N_answersSo : ai_CW i_N_answersSo := ⟨(tk_mem (l := [((Jvm.Cond.code ({ cls := "SuiteBenchModel", name := "answersSo", desc := "(I)I" } : Jvm.MethodName) prog_14_method_106_code (7 : Nat) (Option.some Jvm.ClassFile.FieldType.int)), 10, 0)]) (by decide +kernel) _ (List.mem_singleton.mpr rfl)), (tk_mem (l := [((Jvm.Cond.initialized "SuiteBenchModel"), 1, 15)]) (by decide +kernel) _ (List.mem_singleton.mpr rfl)), ⟨by decide +kernel, by decide +kernel, by decide +kernel⟩, ⟨(tk_mem (l := [((Jvm.Cond.instanceMethod ({ cls := "SuiteBenchModel", name := "answersSo", desc := "(I)I" } : Jvm.MethodName)), 9, 239)]) (by decide +kernel) _ (List.mem_singleton.mpr rfl)), gw_sel 136 (by decide +kernel), .inl ⟨_, _, rfl⟩⟩⟩
theorem c_N_answersSo {E2 : (Nat → Nat) → State → Heap → Prop} (hE : ai_XH E2) : ai_S E2 i_N_answersSo f_N_answersSo := snd_M (by decide) rfl (by decide) a_N_answersSo kc_N_ok (by rfl) (by decide) (fun a i h => by simp [cal_N_answersSo, ai_nth] at h)
def k_N_leftAt : ai_C := [
  [(0, .iconst 0, 1, 0, 0, 0, 0, 0, []), (1, .istore_n 2, 1, 2, 0, 0, 0, 0, []), (2, .iconst 0, 1, 0, 0, 0, 0, 0, []), (3, .istore_n 3, 1, 3, 0, 0, 0, 0, []), (4, .iload_n 3, 1, 3, 0, 0, 0, 0, []), (5, .bipush 6, 2, 0, 0, 0, 0, 6, []), (7, .if_icmp .ge 68, 3, 75, 0, 0, 0, 0, []), (10, .aload_n 0, 1, 0, 0, 0, 0, 0, []), (11, .getfield 102, 3, 12, 51, 54, 2, 51, []), (14, .bipush 6, 2, 0, 0, 0, 0, 6, [])],
  [(16, .iload_n 1, 1, 1, 0, 0, 0, 0, []), (17, .imul, 1, 0, 0, 0, 0, 0, []), (18, .iload_n 3, 1, 3, 0, 0, 0, 0, []), (19, .iadd, 1, 0, 0, 0, 0, 0, []), (20, .iaload, 1, 0, 0, 0, 0, 0, []), (21, .istore 4, 2, 4, 0, 0, 0, 0, []), (23, .iload 4, 2, 4, 0, 0, 0, 0, []), (25, .iconst (-1), 1, 0, 0, 0, 0, (-1), []), (26, .if_icmp .ne 6, 3, 32, 0, 0, 0, 0, []), (29, .goto 40, 3, 69, 0, 0, 0, 0, [])],
  [(32, .iinc 2 1, 3, 2, 0, 0, 0, 1, []), (35, .iconst 0, 1, 0, 0, 0, 0, 0, []), (36, .istore 5, 2, 5, 0, 0, 0, 0, []), (38, .iload 5, 2, 5, 0, 0, 0, 0, []), (40, .iload_n 3, 1, 3, 0, 0, 0, 0, []), (41, .if_icmp .ge 28, 3, 69, 0, 0, 0, 0, []), (44, .aload_n 0, 1, 0, 0, 0, 0, 0, []), (45, .getfield 102, 3, 12, 51, 54, 2, 51, [])],
  [(48, .bipush 6, 2, 0, 0, 0, 0, 6, []), (50, .iload_n 1, 1, 1, 0, 0, 0, 0, []), (51, .imul, 1, 0, 0, 0, 0, 0, []), (52, .iload 5, 2, 5, 0, 0, 0, 0, []), (54, .iadd, 1, 0, 0, 0, 0, 0, []), (55, .iaload, 1, 0, 0, 0, 0, 0, []), (56, .iload 4, 2, 4, 0, 0, 0, 0, []), (58, .if_icmp .ne 5, 3, 63, 0, 0, 0, 0, []), (61, .iconst (-1), 1, 0, 0, 0, 0, (-1), []), (62, .ireturn, 1, 0, 0, 0, 0, 0, []), (63, .iinc 5 1, 3, 5, 0, 0, 0, 1, [])],
  [(66, .goto (-28), 3, 38, 0, 0, 0, 0, []), (69, .iinc 3 1, 3, 3, 0, 0, 0, 1, []), (72, .goto (-68), 3, 4, 0, 0, 0, 0, []), (75, .iload_n 2, 1, 2, 0, 0, 0, 0, []), (76, .ireturn, 1, 0, 0, 0, 0, 0, [])]]
def i_N_leftAt : ai_I := ((⟨"SuiteBenchModel", "leftAt", "(I)I"⟩, prog_14_method_105_code, 6, (some .int), 0, 0, 0, 0, 1, 0, 12) : ai_I)
def o_N_leftAt (_ : Nat) : SP := fun _ _ _ _ _ => False
theorem mo_N_leftAt : ∀ a, ai_mono (o_N_leftAt a) := fun _ _ _ _ _ _ _ _ h => h
def f_N_leftAt : SP := ai_M o_N_leftAt 0 6 k_N_leftAt
theorem mf_N_leftAt : ai_mono f_N_leftAt := M_mono mo_N_leftAt
abbrev cal_N_leftAt : List ai_I := []
theorem a_N_leftAt : ai_all "SuiteBenchModel" prog_14_method_105_code 6 kc_N cal_N_leftAt 0 0 false (some .int) k_N_leftAt = true := by decide +kernel
theorem w_N_leftAt : ai_CW i_N_leftAt := ⟨(tk_mem (l := [((Jvm.Cond.code ({ cls := "SuiteBenchModel", name := "leftAt", desc := "(I)I" } : Jvm.MethodName) prog_14_method_105_code (6 : Nat) (Option.some Jvm.ClassFile.FieldType.int)), 10, 4)]) (by decide +kernel) _ (List.mem_singleton.mpr rfl)), (tk_mem (l := [((Jvm.Cond.initialized "SuiteBenchModel"), 1, 15)]) (by decide +kernel) _ (List.mem_singleton.mpr rfl)), ⟨by decide +kernel, by decide +kernel, by decide +kernel⟩, ⟨(tk_mem (l := [((Jvm.Cond.instanceMethod ({ cls := "SuiteBenchModel", name := "leftAt", desc := "(I)I" } : Jvm.MethodName)), 10, 3)]) (by decide +kernel) _ (List.mem_singleton.mpr rfl)), gw_sel 137 (by decide +kernel), .inl ⟨_, _, rfl⟩⟩⟩
theorem c_N_leftAt {E2 : (Nat → Nat) → State → Heap → Prop} (hE : ai_XH E2) : ai_S E2 i_N_leftAt f_N_leftAt := snd_M (by decide) rfl (by decide) a_N_leftAt kc_N_ok (by rfl) (by decide) (fun a i h => by simp [cal_N_leftAt, ai_nth] at h)
def k_N_isTree : ai_C := [
  [(0, .iconst 0, 1, 0, 0, 0, 0, 0, []), (1, .istore_n 2, 1, 2, 0, 0, 0, 0, []), (2, .aload_n 0, 1, 0, 0, 0, 0, 0, []), (3, .getfield 105, 3, 12, 52, 55, 2, 52, []), (6, .iconst 0, 1, 0, 0, 0, 0, 0, []), (7, .iconst 0, 1, 0, 0, 0, 0, 0, []), (8, .iastore, 1, 0, 0, 0, 0, 0, []), (9, .aload_n 0, 1, 0, 0, 0, 0, 0, []), (10, .getfield 108, 3, 12, 53, 56, 2, 53, []), (13, .iconst 0, 1, 0, 0, 0, 0, 0, []), (14, .iconst (-1), 1, 0, 0, 0, 0, (-1), []), (15, .iastore, 1, 0, 0, 0, 0, 0, [])],
  [(16, .iload_n 2, 1, 2, 0, 0, 0, 0, []), (17, .ifCond .lt 130, 3, 147, 0, 0, 0, 0, []), (20, .aload_n 0, 1, 0, 0, 0, 0, 0, []), (21, .getfield 108, 3, 12, 53, 56, 2, 53, []), (24, .iload_n 2, 1, 2, 0, 0, 0, 0, []), (25, .iaload, 1, 0, 0, 0, 0, 0, []), (26, .bipush 9, 2, 0, 0, 0, 0, 9, []), (28, .if_icmp .ne 9, 3, 37, 0, 0, 0, 0, []), (31, .iinc 2 (-1), 3, 2, 0, 0, 0, (-1), [])],
  [(34, .goto (-18), 3, 16, 0, 0, 0, 0, []), (37, .aload_n 0, 1, 0, 0, 0, 0, 0, []), (38, .getfield 108, 3, 12, 53, 56, 2, 53, []), (41, .iload_n 2, 1, 2, 0, 0, 0, 0, []), (42, .dup2, 1, 0, 0, 0, 0, 0, []), (43, .iaload, 1, 0, 0, 0, 0, 0, []), (44, .iconst 1, 1, 0, 0, 0, 0, 1, []), (45, .iadd, 1, 0, 0, 0, 0, 0, []), (46, .iastore, 1, 0, 0, 0, 0, 0, []), (47, .aload_n 0, 1, 0, 0, 0, 0, 0, [])],
  [(48, .iload_n 2, 1, 2, 0, 0, 0, 0, []), (49, .invokevirtual 473, 3, 0, 2, 153, 0, 0, [(0, 12)]), (52, .iconst 2, 1, 0, 0, 0, 0, 2, []), (53, .if_icmp .ge 6, 3, 59, 0, 0, 0, 0, []), (56, .goto (-40), 3, 16, 0, 0, 0, 0, []), (59, .iload_n 2, 1, 2, 0, 0, 0, 0, []), (60, .iconst 1, 1, 0, 0, 0, 0, 1, []), (61, .iadd, 1, 0, 0, 0, 0, 0, []), (62, .iload_n 1, 1, 1, 0, 0, 0, 0, []), (63, .if_icmp .ge 33, 3, 96, 0, 0, 0, 0, [])],
  [(66, .aload_n 0, 1, 0, 0, 0, 0, 0, []), (67, .iload_n 2, 1, 2, 0, 0, 0, 0, []), (68, .iconst 1, 1, 0, 0, 0, 0, 1, []), (69, .iadd, 1, 0, 0, 0, 0, 0, []), (70, .invokevirtual 476, 3, 1, 2, 154, 0, 0, [(0, 12)]), (73, .ifCond .le 23, 3, 96, 0, 0, 0, 0, []), (76, .iinc 2 1, 3, 2, 0, 0, 0, 1, []), (79, .aload_n 0, 1, 0, 0, 0, 0, 0, [])],
  [(80, .getfield 105, 3, 12, 52, 55, 2, 52, []), (83, .iload_n 2, 1, 2, 0, 0, 0, 0, []), (84, .iconst 0, 1, 0, 0, 0, 0, 0, []), (85, .iastore, 1, 0, 0, 0, 0, 0, []), (86, .aload_n 0, 1, 0, 0, 0, 0, 0, []), (87, .getfield 108, 3, 12, 53, 56, 2, 53, []), (90, .iload_n 2, 1, 2, 0, 0, 0, 0, []), (91, .iconst (-1), 1, 0, 0, 0, 0, (-1), []), (92, .iastore, 1, 0, 0, 0, 0, 0, []), (93, .goto (-77), 3, 16, 0, 0, 0, 0, [])],
  [(96, .iload_n 2, 1, 2, 0, 0, 0, 0, []), (97, .ifCond .lt 24, 3, 121, 0, 0, 0, 0, []), (100, .aload_n 0, 1, 0, 0, 0, 0, 0, []), (101, .getfield 105, 3, 12, 52, 55, 2, 52, []), (104, .iload_n 2, 1, 2, 0, 0, 0, 0, []), (105, .iaload, 1, 0, 0, 0, 0, 0, []), (106, .aload_n 0, 1, 0, 0, 0, 0, 0, []), (107, .invokevirtual 269, 3, 2, 1, 3, 0, 0, [(0, 12)]), (110, .iconst 1, 1, 0, 0, 0, 0, 1, []), (111, .isub, 1, 0, 0, 0, 0, 0, [])],
  [(112, .if_icmp .ne 9, 3, 121, 0, 0, 0, 0, []), (115, .iinc 2 (-1), 3, 2, 0, 0, 0, (-1), []), (118, .goto (-22), 3, 96, 0, 0, 0, 0, []), (121, .iload_n 2, 1, 2, 0, 0, 0, 0, []), (122, .ifCond .ge 5, 3, 127, 0, 0, 0, 0, []), (125, .iconst 0, 1, 0, 0, 0, 0, 0, []), (126, .ireturn, 1, 0, 0, 0, 3, 0, []), (127, .aload_n 0, 1, 0, 0, 0, 0, 0, [])],
  [(128, .getfield 105, 3, 12, 52, 55, 2, 52, []), (131, .iload_n 2, 1, 2, 0, 0, 0, 0, []), (132, .dup2, 1, 0, 0, 0, 0, 0, []), (133, .iaload, 1, 0, 0, 0, 0, 0, []), (134, .iconst 1, 1, 0, 0, 0, 0, 1, []), (135, .iadd, 1, 0, 0, 0, 0, 0, []), (136, .iastore, 1, 0, 0, 0, 0, 0, []), (137, .aload_n 0, 1, 0, 0, 0, 0, 0, []), (138, .getfield 108, 3, 12, 53, 56, 2, 53, []), (141, .iload_n 2, 1, 2, 0, 0, 0, 0, []), (142, .iconst (-1), 1, 0, 0, 0, 0, (-1), []), (143, .iastore, 1, 0, 0, 0, 0, 0, [])],
  [(144, .goto (-128), 3, 16, 0, 0, 0, 0, []), (147, .iconst 1, 1, 0, 0, 0, 0, 1, []), (148, .ireturn, 1, 0, 0, 0, 3, 0, [])]]
def i_N_isTree : ai_I := ((⟨"SuiteBenchModel", "isTree", "(I)Z"⟩, prog_14_method_107_code, 3, (some .boolean), 3, 1, 26, 0, 1, 0, 12) : ai_I)
def o_N_isTree (a : Nat) : SP := match a with
  | 0 => f_N_answersSo
  | 1 => f_N_leftAt
  | 2 => f_N_inputs
  | _ => fun _ _ _ _ _ => False
theorem mo_N_isTree : ∀ a, ai_mono (o_N_isTree a)
  | 0 => mf_N_answersSo
  | 1 => mf_N_leftAt
  | 2 => mf_N_inputs
  | _ + 3 => fun _ _ _ _ _ _ _ h => h
def f_N_isTree : SP := ai_M o_N_isTree 0 3 k_N_isTree
theorem mf_N_isTree : ai_mono f_N_isTree := M_mono mo_N_isTree
abbrev cal_N_isTree : List ai_I := [i_N_answersSo, i_N_leftAt, i_N_inputs]
theorem a_N_isTree : ai_all "SuiteBenchModel" prog_14_method_107_code 3 kc_N cal_N_isTree 1 26 false (some .boolean) k_N_isTree = true := by decide +kernel
theorem w_N_isTree : ai_CW i_N_isTree := ⟨(tk_mem (l := [((Jvm.Cond.code ({ cls := "SuiteBenchModel", name := "isTree", desc := "(I)Z" } : Jvm.MethodName) prog_14_method_107_code (3 : Nat) (Option.some Jvm.ClassFile.FieldType.boolean)), 9, 236)]) (by decide +kernel) _ (List.mem_singleton.mpr rfl)), (tk_mem (l := [((Jvm.Cond.initialized "SuiteBenchModel"), 1, 15)]) (by decide +kernel) _ (List.mem_singleton.mpr rfl)), ⟨by decide +kernel, by decide +kernel, by decide +kernel⟩, ⟨(tk_mem (l := [((Jvm.Cond.instanceMethod ({ cls := "SuiteBenchModel", name := "isTree", desc := "(I)Z" } : Jvm.MethodName)), 9, 235)]) (by decide +kernel) _ (List.mem_singleton.mpr rfl)), gw_sel 135 (by decide +kernel), .inl ⟨_, _, rfl⟩⟩⟩
theorem c_N_isTree {E2 : (Nat → Nat) → State → Heap → Prop} (hE : ai_XH E2) : ai_S E2 i_N_isTree f_N_isTree := snd_M (by decide) rfl (by decide) a_N_isTree kc_N_ok (by rfl) (by decide) (fun a i h => match a, h with
    | 0, h => by cases h; exact ⟨c_N_answersSo hE, w_N_answersSo⟩
    | 1, h => by cases h; exact ⟨c_N_leftAt hE, w_N_leftAt⟩
    | 2, h => by cases h; exact ⟨c_N_inputs hE, w_N_inputs⟩
    | _ + 3, h => by simp [cal_N_isTree, ai_nth] at h)
def k_N_tree : ai_C := [
  [(0, .aload_n 0, 1, 0, 0, 0, 0, 0, []), (1, .iconst 0, 1, 0, 0, 0, 0, 0, []), (2, .putfield 145, 3, 12, 0, 67, 0, 0, []), (5, .iload_n 2, 1, 2, 0, 0, 0, 0, []), (6, .ifCond .lt 30, 3, 36, 0, 0, 0, 0, []), (9, .iload_n 2, 1, 2, 0, 0, 0, 0, []), (10, .iconst 1, 1, 0, 0, 0, 0, 1, []), (11, .if_icmp .gt 25, 3, 36, 0, 0, 0, 0, []), (14, .iload_n 1, 1, 1, 0, 0, 0, 0, []), (15, .ifCond .lt 21, 3, 36, 0, 0, 0, 0, [])],
  [(18, .iload_n 1, 1, 1, 0, 0, 0, 0, []), (19, .iconst 1, 1, 0, 0, 0, 0, 1, []), (20, .aload_n 0, 1, 0, 0, 0, 0, 0, []), (21, .invokevirtual 272, 3, 0, 1, 2, 0, 0, [(0, 12)]), (24, .ishl, 1, 0, 0, 0, 0, 0, []), (25, .if_icmp .ge 11, 3, 36, 0, 0, 0, 0, []), (28, .iload_n 1, 1, 1, 0, 0, 0, 0, []), (29, .iload_n 1, 1, 1, 0, 0, 0, 0, []), (30, .iconst 1, 1, 0, 0, 0, 0, 1, []), (31, .isub, 1, 0, 0, 0, 0, 0, [])],
  [(32, .iand, 1, 0, 0, 0, 0, 0, []), (33, .ifCond .ne 5, 3, 38, 0, 0, 0, 0, []), (36, .iconst (-1), 1, 0, 0, 0, 0, (-1), []), (37, .ireturn, 1, 0, 0, 0, 0, 0, []), (38, .iconst 0, 1, 0, 0, 0, 0, 0, []), (39, .istore_n 3, 1, 3, 0, 0, 0, 0, []), (40, .iload_n 3, 1, 3, 0, 0, 0, 0, []), (41, .bipush 6, 2, 0, 0, 0, 0, 6, []), (43, .if_icmp .ge 29, 3, 72, 0, 0, 0, 0, []), (46, .aload_n 0, 1, 0, 0, 0, 0, 0, []), (47, .getfield 102, 3, 12, 51, 54, 2, 51, [])],
  [(50, .iload_n 3, 1, 3, 0, 0, 0, 0, []), (51, .iload_n 1, 1, 1, 0, 0, 0, 0, []), (52, .iload_n 3, 1, 3, 0, 0, 0, 0, []), (53, .ishr, 1, 0, 0, 0, 0, 0, []), (54, .iconst 1, 1, 0, 0, 0, 0, 1, []), (55, .iand, 1, 0, 0, 0, 0, 0, []), (56, .iconst 1, 1, 0, 0, 0, 0, 1, []), (57, .if_icmp .ne 7, 3, 64, 0, 0, 0, 0, []), (60, .iload_n 3, 1, 3, 0, 0, 0, 0, []), (61, .goto 4, 3, 65, 0, 0, 0, 0, [])],
  [(64, .iconst (-1), 1, 0, 0, 0, 0, (-1), []), (65, .iastore, 1, 0, 0, 0, 0, 0, []), (66, .iinc 3 1, 3, 3, 0, 0, 0, 1, []), (69, .goto (-29), 3, 40, 0, 0, 0, 0, []), (72, .iconst 1, 1, 0, 0, 0, 0, 1, []), (73, .istore_n 3, 1, 3, 0, 0, 0, 0, []), (74, .iload_n 3, 1, 3, 0, 0, 0, 0, []), (75, .bipush 8, 2, 0, 0, 0, 0, 8, []), (77, .if_icmp .gt 39, 3, 116, 0, 0, 0, 0, [])],
  [(80, .aload_n 0, 1, 0, 0, 0, 0, 0, []), (81, .invokevirtual 269, 3, 1, 1, 3, 0, 0, [(0, 12)]), (84, .ifCond .le 32, 3, 116, 0, 0, 0, 0, []), (87, .aload_n 0, 1, 0, 0, 0, 0, 0, []), (88, .iload_n 3, 1, 3, 0, 0, 0, 0, []), (89, .invokevirtual 479, 3, 2, 2, 155, 0, 0, [(0, 12)]), (92, .ifCond .eq 18, 3, 110, 0, 0, 0, 0, []), (95, .iload_n 2, 1, 2, 0, 0, 0, 0, [])],
  [(96, .ifCond .ne 7, 3, 103, 0, 0, 0, 0, []), (99, .iload_n 3, 1, 3, 0, 0, 0, 0, []), (100, .goto 9, 3, 109, 0, 0, 0, 0, []), (103, .aload_n 0, 1, 0, 0, 0, 0, 0, []), (104, .getfield 105, 3, 12, 52, 55, 2, 52, []), (107, .iconst 0, 1, 0, 0, 0, 0, 0, []), (108, .iaload, 1, 0, 0, 0, 0, 0, []), (109, .ireturn, 1, 0, 0, 0, 0, 0, []), (110, .iinc 3 1, 3, 3, 0, 0, 0, 1, [])],
  [(113, .goto (-39), 3, 74, 0, 0, 0, 0, []), (116, .bipush (-2), 2, 0, 0, 0, 0, (-2), []), (118, .ireturn, 1, 0, 0, 0, 0, 0, [])]]
def i_N_tree : ai_I := ((⟨"SuiteBenchModel", "tree", "(II)I"⟩, prog_14_method_108_code, 4, (some .int), 0, 2, 48, 0, 2, 0, 12) : ai_I)
def o_N_tree (a : Nat) : SP := match a with
  | 0 => f_N_states
  | 1 => f_N_inputs
  | 2 => f_N_isTree
  | _ => fun _ _ _ _ _ => False
theorem mo_N_tree : ∀ a, ai_mono (o_N_tree a)
  | 0 => mf_N_states
  | 1 => mf_N_inputs
  | 2 => mf_N_isTree
  | _ + 3 => fun _ _ _ _ _ _ _ h => h
def f_N_tree : SP := ai_M o_N_tree 0 4 k_N_tree
theorem mf_N_tree : ai_mono f_N_tree := M_mono mo_N_tree
abbrev cal_N_tree : List ai_I := [i_N_states, i_N_inputs, i_N_isTree]
theorem a_N_tree : ai_all "SuiteBenchModel" prog_14_method_108_code 4 kc_N cal_N_tree 2 48 false (some .int) k_N_tree = true := by decide +kernel
theorem w_N_tree : ai_CW i_N_tree := ⟨(tk_mem (l := [((Jvm.Cond.code ({ cls := "SuiteBenchModel", name := "tree", desc := "(II)I" } : Jvm.MethodName) prog_14_method_108_code (4 : Nat) (Option.some Jvm.ClassFile.FieldType.int)), 9, 232)]) (by decide +kernel) _ (List.mem_singleton.mpr rfl)), (tk_mem (l := [((Jvm.Cond.initialized "SuiteBenchModel"), 1, 15)]) (by decide +kernel) _ (List.mem_singleton.mpr rfl)), ⟨by decide +kernel, by decide +kernel, by decide +kernel⟩, ⟨(tk_mem (l := [((Jvm.Cond.instanceMethod ({ cls := "SuiteBenchModel", name := "tree", desc := "(II)I" } : Jvm.MethodName)), 9, 230)]) (by decide +kernel) _ (List.mem_singleton.mpr rfl)), (tk_mem (l := [((Jvm.Cond.selects "SuiteBenchModel" ({ cls := "SuiteBenchModel", name := "tree", desc := "(II)I" } : Jvm.MethodName) ({ cls := "SuiteBenchModel", name := "tree", desc := "(II)I" } : Jvm.MethodName)), 9, 231)]) (by decide +kernel) _ (List.mem_singleton.mpr rfl)), .inl ⟨_, _, rfl⟩⟩⟩
theorem c_N_tree {E2 : (Nat → Nat) → State → Heap → Prop} (hE : ai_XH E2) : ai_S E2 i_N_tree f_N_tree := snd_M (by decide) rfl (by decide) a_N_tree kc_N_ok (by rfl) (by decide) (fun a i h => match a, h with
    | 0, h => by cases h; exact ⟨c_N_states hE, w_N_states⟩
    | 1, h => by cases h; exact ⟨c_N_inputs hE, w_N_inputs⟩
    | 2, h => by cases h; exact ⟨c_N_isTree hE, w_N_isTree⟩
    | _ + 3, h => by simp [cal_N_tree, ai_nth] at h)
def k_S_withGroup : ai_C := [
  [(0, .iload_n 0, 1, 0, 0, 0, 0, 0, []), (1, .bipush 63, 2, 0, 0, 0, 0, 63, []), (3, .iand, 1, 0, 0, 0, 0, 0, []), (4, .istore_n 2, 1, 2, 0, 0, 0, 0, []), (5, .iload_n 0, 1, 0, 0, 0, 0, 0, []), (6, .bipush 6, 2, 0, 0, 0, 0, 6, []), (8, .ishr, 1, 0, 0, 0, 0, 0, []), (9, .bipush 63, 2, 0, 0, 0, 0, 63, []), (11, .iand, 1, 0, 0, 0, 0, 0, []), (12, .istore_n 3, 1, 3, 0, 0, 0, 0, []), (13, .iload_n 0, 1, 0, 0, 0, 0, 0, []), (14, .bipush 12, 2, 0, 0, 0, 0, 12, [])],
  [(16, .ishr, 1, 0, 0, 0, 0, 0, []), (17, .bipush 63, 2, 0, 0, 0, 0, 63, []), (19, .iand, 1, 0, 0, 0, 0, 0, []), (20, .istore 4, 2, 4, 0, 0, 0, 0, []), (22, .iload_n 1, 1, 1, 0, 0, 0, 0, []), (23, .iload_n 2, 1, 2, 0, 0, 0, 0, []), (24, .if_icmp .eq 14, 3, 38, 0, 0, 0, 0, []), (27, .iload_n 1, 1, 1, 0, 0, 0, 0, []), (28, .iload_n 3, 1, 3, 0, 0, 0, 0, []), (29, .if_icmp .eq 9, 3, 38, 0, 0, 0, 0, [])],
  [(32, .iload_n 1, 1, 1, 0, 0, 0, 0, []), (33, .iload 4, 2, 4, 0, 0, 0, 0, []), (35, .if_icmp .ne 5, 3, 40, 0, 0, 0, 0, []), (38, .iload_n 0, 1, 0, 0, 0, 0, 0, []), (39, .ireturn, 1, 0, 0, 0, 0, 0, []), (40, .iload_n 1, 1, 1, 0, 0, 0, 0, []), (41, .iload_n 2, 1, 2, 0, 0, 0, 0, []), (42, .if_icmp .le 15, 3, 57, 0, 0, 0, 0, []), (45, .iload_n 1, 1, 1, 0, 0, 0, 0, []), (46, .iload_n 2, 1, 2, 0, 0, 0, 0, []), (47, .bipush 6, 2, 0, 0, 0, 0, 6, [])],
  [(49, .ishl, 1, 0, 0, 0, 0, 0, []), (50, .ior, 1, 0, 0, 0, 0, 0, []), (51, .iload_n 3, 1, 3, 0, 0, 0, 0, []), (52, .bipush 12, 2, 0, 0, 0, 0, 12, []), (54, .ishl, 1, 0, 0, 0, 0, 0, []), (55, .ior, 1, 0, 0, 0, 0, 0, []), (56, .ireturn, 1, 0, 0, 0, 0, 0, []), (57, .iload_n 1, 1, 1, 0, 0, 0, 0, []), (58, .iload_n 3, 1, 3, 0, 0, 0, 0, []), (59, .if_icmp .le 15, 3, 74, 0, 0, 0, 0, []), (62, .iload_n 2, 1, 2, 0, 0, 0, 0, []), (63, .iload_n 1, 1, 1, 0, 0, 0, 0, [])],
  [(64, .bipush 6, 2, 0, 0, 0, 0, 6, []), (66, .ishl, 1, 0, 0, 0, 0, 0, []), (67, .ior, 1, 0, 0, 0, 0, 0, []), (68, .iload_n 3, 1, 3, 0, 0, 0, 0, []), (69, .bipush 12, 2, 0, 0, 0, 0, 12, []), (71, .ishl, 1, 0, 0, 0, 0, 0, []), (72, .ior, 1, 0, 0, 0, 0, 0, []), (73, .ireturn, 1, 0, 0, 0, 0, 0, []), (74, .iload_n 2, 1, 2, 0, 0, 0, 0, []), (75, .iload_n 3, 1, 3, 0, 0, 0, 0, []), (76, .bipush 6, 2, 0, 0, 0, 0, 6, []), (78, .ishl, 1, 0, 0, 0, 0, 0, []), (79, .ior, 1, 0, 0, 0, 0, 0, [])],
  [(80, .iload_n 1, 1, 1, 0, 0, 0, 0, []), (81, .bipush 12, 2, 0, 0, 0, 0, 12, []), (83, .ishl, 1, 0, 0, 0, 0, 0, []), (84, .ior, 1, 0, 0, 0, 0, 0, []), (85, .ireturn, 1, 0, 0, 0, 0, 0, [])]]
def i_S_withGroup : ai_I := ((⟨"SuiteBench$Search", "withGroup", "(II)I"⟩, prog_7_method_14_code, 5, (some .int), 0, 0, 0, 0, 2, 1, 5) : ai_I)
def o_S_withGroup (_ : Nat) : SP := fun _ _ _ _ _ => False
theorem mo_S_withGroup : ∀ a, ai_mono (o_S_withGroup a) := fun _ _ _ _ _ _ _ _ h => h
def f_S_withGroup : SP := ai_M o_S_withGroup 0 5 k_S_withGroup
theorem mf_S_withGroup : ai_mono f_S_withGroup := M_mono mo_S_withGroup
abbrev cal_S_withGroup : List ai_I := []
theorem a_S_withGroup : ai_all "SuiteBench$Search" prog_7_method_14_code 5 kc_S cal_S_withGroup 0 0 false (some .int) k_S_withGroup = true := by decide +kernel
theorem w_S_withGroup : ai_CW i_S_withGroup := ⟨(tk_mem (l := [((Jvm.Cond.code ({ cls := "SuiteBench$Search", name := "withGroup", desc := "(II)I" } : Jvm.MethodName) prog_7_method_14_code (5 : Nat) (Option.some Jvm.ClassFile.FieldType.int)), 6, 9)]) (by decide +kernel) _ (List.mem_singleton.mpr rfl)), (tk_mem (l := [((Jvm.Cond.initialized "SuiteBench$Search"), 1, 7)]) (by decide +kernel) _ (List.mem_singleton.mpr rfl)), ⟨by decide +kernel, by decide +kernel, by decide +kernel⟩, (tk_mem (l := [((Jvm.Cond.static ({ cls := "SuiteBench$Search", name := "withGroup", desc := "(II)I" } : Jvm.MethodName)), 6, 8)]) (by decide +kernel) _ (List.mem_singleton.mpr rfl))⟩
theorem c_S_withGroup {E2 : (Nat → Nat) → State → Heap → Prop} (hE : ai_XH E2) : ai_S E2 i_S_withGroup f_S_withGroup := snd_M (by decide) rfl (by decide) a_S_withGroup kc_S_ok (by rfl) (by decide) (fun a i h => by simp [cal_S_withGroup, ai_nth] at h)
def k_S_followGroups : ai_C := [
  [(0, .iconst 0, 1, 0, 0, 0, 0, 0, []), (1, .istore 4, 2, 4, 0, 0, 0, 0, []), (3, .iconst 0, 1, 0, 0, 0, 0, 0, []), (4, .istore 5, 2, 5, 0, 0, 0, 0, []), (6, .iload 5, 2, 5, 0, 0, 0, 0, []), (8, .bipush 18, 2, 0, 0, 0, 0, 18, []), (10, .if_icmp .ge 121, 3, 131, 0, 0, 0, 0, []), (13, .iload_n 1, 1, 1, 0, 0, 0, 0, []), (14, .iload 5, 2, 5, 0, 0, 0, 0, [])],
  [(16, .ishr, 1, 0, 0, 0, 0, 0, []), (17, .bipush 63, 2, 0, 0, 0, 0, 63, []), (19, .iand, 1, 0, 0, 0, 0, 0, []), (20, .istore 6, 2, 6, 0, 0, 0, 0, []), (22, .iconst 0, 1, 0, 0, 0, 0, 0, []), (23, .istore 7, 2, 7, 0, 0, 0, 0, []), (25, .iload 7, 2, 7, 0, 0, 0, 0, []), (27, .aload_n 0, 1, 0, 0, 0, 0, 0, []), (28, .getfield 33, 3, 5, 0, 9, 2, 0, []), (31, .getfield 56, 3, 1, 2, 15, 0, 2, [])],
  [(34, .if_icmp .ge 91, 3, 125, 0, 0, 0, 0, []), (37, .iload 6, 2, 6, 0, 0, 0, 0, []), (39, .iload 7, 2, 7, 0, 0, 0, 0, []), (41, .ishr, 1, 0, 0, 0, 0, 0, []), (42, .iconst 1, 1, 0, 0, 0, 0, 1, []), (43, .iand, 1, 0, 0, 0, 0, 0, []), (44, .iconst 1, 1, 0, 0, 0, 0, 1, []), (45, .if_icmp .ne 74, 3, 119, 0, 0, 0, 0, [])],
  [(48, .aload_n 0, 1, 0, 0, 0, 0, 0, []), (49, .iload 6, 2, 6, 0, 0, 0, 0, []), (51, .iload 7, 2, 7, 0, 0, 0, 0, []), (53, .iload_n 2, 1, 2, 0, 0, 0, 0, []), (54, .invokevirtual 105, 3, 0, 4, 25, 0, 0, [(0, 5)]), (57, .istore 8, 2, 8, 0, 0, 0, 0, []), (59, .aload_n 0, 1, 0, 0, 0, 0, 0, []), (60, .iload 8, 2, 8, 0, 0, 0, 0, []), (62, .iload_n 2, 1, 2, 0, 0, 0, 0, []), (63, .invokevirtual 102, 3, 1, 3, 26, 0, 0, [(0, 5)])],
  [(66, .istore 9, 2, 9, 0, 0, 0, 0, []), (68, .iload_n 3, 1, 3, 0, 0, 0, 0, []), (69, .ifCond .eq 22, 3, 91, 0, 0, 0, 0, []), (72, .iload 8, 2, 8, 0, 0, 0, 0, []), (74, .invokestatic 93, 3, 2, 1, 24, 0, 0, [(0, 99)]), (77, .iconst 1, 1, 0, 0, 0, 0, 1, []), (78, .iload 9, 2, 9, 0, 0, 0, 0, [])],
  [(80, .invokestatic 93, 3, 2, 1, 24, 0, 0, [(0, 99)]), (83, .invokestatic 109, 3, 0, 0, 27, 22, 0, []), (86, .if_icmp .le 5, 3, 91, 0, 0, 0, 0, []), (89, .iconst (-1), 1, 0, 0, 0, 0, (-1), []), (90, .ireturn, 1, 0, 0, 0, 0, 0, []), (91, .iload 9, 2, 9, 0, 0, 0, 0, []), (93, .ifCond .ne 8, 3, 101, 0, 0, 0, 0, [])],
  [(96, .iload 4, 2, 4, 0, 0, 0, 0, []), (98, .goto 10, 3, 108, 0, 0, 0, 0, []), (101, .iload 4, 2, 4, 0, 0, 0, 0, []), (103, .iload 9, 2, 9, 0, 0, 0, 0, []), (105, .invokestatic 114, 3, 3, 2, 32, 0, 0, [(0, 5)]), (108, .istore 4, 2, 4, 0, 0, 0, 0, []), (110, .iload 6, 2, 6, 0, 0, 0, 0, [])],
  [(112, .iload 8, 2, 8, 0, 0, 0, 0, []), (114, .iconst (-1), 1, 0, 0, 0, 0, (-1), []), (115, .ixor, 1, 0, 0, 0, 0, 0, []), (116, .iand, 1, 0, 0, 0, 0, 0, []), (117, .istore 6, 2, 6, 0, 0, 0, 0, []), (119, .iinc 7 1, 3, 7, 0, 0, 0, 1, []), (122, .goto (-97), 3, 25, 0, 0, 0, 0, []), (125, .iinc 5 6, 3, 5, 0, 0, 0, 6, [])],
  [(128, .goto (-122), 3, 6, 0, 0, 0, 0, []), (131, .iload 4, 2, 4, 0, 0, 0, 0, []), (133, .ireturn, 1, 0, 0, 0, 0, 0, [])]]
def i_S_followGroups : ai_I := ((⟨"SuiteBench$Search", "followGroups", "(IIZ)I"⟩, prog_7_method_12_code, 10, (some .int), 0, 2, 44, 0, 3, 0, 5) : ai_I)
def o_S_followGroups (a : Nat) : SP := match a with
  | 0 => f_S_likeOnes
  | 1 => f_S_followAll
  | 2 => f_J_bitCount
  | 3 => f_S_withGroup
  | _ => fun _ _ _ _ _ => False
theorem mo_S_followGroups : ∀ a, ai_mono (o_S_followGroups a)
  | 0 => mf_S_likeOnes
  | 1 => mf_S_followAll
  | 2 => mf_J_bitCount
  | 3 => mf_S_withGroup
  | _ + 4 => fun _ _ _ _ _ _ _ h => h
def f_S_followGroups : SP := ai_M o_S_followGroups 0 10 k_S_followGroups
theorem mf_S_followGroups : ai_mono f_S_followGroups := M_mono mo_S_followGroups
abbrev cal_S_followGroups : List ai_I := [i_S_likeOnes, i_S_followAll, i_J_bitCount, i_S_withGroup]
theorem a_S_followGroups : ai_all "SuiteBench$Search" prog_7_method_12_code 10 kc_S cal_S_followGroups 2 44 false (some .int) k_S_followGroups = true := by decide +kernel
theorem w_S_followGroups : ai_CW i_S_followGroups := ⟨(tk_mem (l := [((Jvm.Cond.code ({ cls := "SuiteBench$Search", name := "followGroups", desc := "(IIZ)I" } : Jvm.MethodName) prog_7_method_12_code (10 : Nat) (Option.some Jvm.ClassFile.FieldType.int)), 6, 6)]) (by decide +kernel) _ (List.mem_singleton.mpr rfl)), (tk_mem (l := [((Jvm.Cond.initialized "SuiteBench$Search"), 1, 7)]) (by decide +kernel) _ (List.mem_singleton.mpr rfl)), ⟨by decide +kernel, by decide +kernel, by decide +kernel⟩, ⟨(tk_mem (l := [((Jvm.Cond.instanceMethod ({ cls := "SuiteBench$Search", name := "followGroups", desc := "(IIZ)I" } : Jvm.MethodName)), 6, 5)]) (by decide +kernel) _ (List.mem_singleton.mpr rfl)), gw_sel 53 (by decide +kernel), .inl ⟨_, _, rfl⟩⟩⟩
theorem c_S_followGroups {E2 : (Nat → Nat) → State → Heap → Prop} (hE : ai_XH E2) : ai_S E2 i_S_followGroups f_S_followGroups := snd_M (by decide) rfl (by decide) a_S_followGroups kc_S_ok (by rfl) (by decide) (fun a i h => match a, h with
    | 0, h => by cases h; exact ⟨c_S_likeOnes hE, w_S_likeOnes⟩
    | 1, h => by cases h; exact ⟨c_S_followAll hE, w_S_followAll⟩
    | 2, h => by cases h; exact ⟨c_J_bitCount hE, w_J_bitCount⟩
    | 3, h => by cases h; exact ⟨c_S_withGroup hE, w_S_withGroup⟩
    | _ + 4, h => by simp [cal_S_followGroups, ai_nth] at h)
