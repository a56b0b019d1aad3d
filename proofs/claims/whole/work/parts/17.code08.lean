/-! the code of the methods, by program; what it rests on, looked at; the contracts -/
def k_B_next : ai_C := [
  [(0, .aload_n 0, 1, 0, 0, 0, 0, 0, []), (1, .getfield 79, 3, 11, 8, 21, 2, 8, []), (4, .invokevirtual 307, 3, 0, 1, 132, 0, 0, [(0, 7)]), (7, .iconst 2, 1, 0, 0, 0, 0, 2, []), (8, .if_icmp .ge 8, 3, 16, 0, 0, 0, 0, []), (11, .bipush (-2), 2, 0, 0, 0, 0, (-2), []), (13, .goto 18, 3, 31, 0, 0, 0, 0, [])],
  [(16, .aload_n 0, 1, 0, 0, 0, 0, 0, []), (17, .getfield 79, 3, 11, 8, 21, 2, 8, []), (20, .aload_n 0, 1, 0, 0, 0, 0, 0, []), (21, .getfield 56, 3, 11, 5, 14, 2, 5, []), (24, .iconst 1, 1, 0, 0, 0, 0, 1, []), (25, .invokevirtual 196, 3, 1, 2, 99, 2, 0, [(0, 6)]), (28, .invokevirtual 316, 3, 2, 2, 135, 0, 0, [(0, 7)]), (31, .ireturn, 1, 0, 0, 0, 0, 0, [])]]
def i_B_next : ai_I := ((⟨"SuiteBench", "next", "()I"⟩, prog_1_method_35_code, 1, (some .int), 0, 6, 143, 0, 0, 0, 11) : ai_I)
def o_B_next (a : Nat) : SP := match a with
  | 0 => f_X_all
  | 1 => f_T_give
  | 2 => f_X_nextWord
  | _ => fun _ _ _ _ _ => False
theorem mo_B_next : ∀ a, ai_mono (o_B_next a)
  | 0 => mf_X_all
  | 1 => mf_T_give
  | 2 => mf_X_nextWord
  | _ + 3 => fun _ _ _ _ _ _ _ h => h
def f_B_next : SP := ai_M o_B_next 0 1 k_B_next
theorem mf_B_next : ai_mono f_B_next := M_mono mo_B_next
abbrev cal_B_next : List ai_I := [i_X_all, i_T_give, i_X_nextWord]
theorem a_B_next : ai_all "SuiteBench" prog_1_method_35_code 1 kc_B cal_B_next 6 143 false (some .int) k_B_next = true := by decide +kernel
theorem w_B_next : ai_CW i_B_next := ⟨(tk_mem (l := [((Jvm.Cond.code ({ cls := "SuiteBench", name := "next", desc := "()I" } : Jvm.MethodName) prog_1_method_35_code (1 : Nat) (Option.some Jvm.ClassFile.FieldType.int)), 6, 86)]) (by decide +kernel) _ (List.mem_singleton.mpr rfl)), (tk_mem (l := [((Jvm.Cond.initialized "SuiteBench"), 1, 1)]) (by decide +kernel) _ (List.mem_singleton.mpr rfl)), ⟨by decide +kernel, by decide +kernel, by decide +kernel⟩, ⟨(tk_mem (l := [((Jvm.Cond.instanceMethod ({ cls := "SuiteBench", name := "next", desc := "()I" } : Jvm.MethodName)), 6, 84)]) (by decide +kernel) _ (List.mem_singleton.mpr rfl)), (tk_mem (l := [((Jvm.Cond.selects "SuiteBench" ({ cls := "SuiteBench", name := "next", desc := "()I" } : Jvm.MethodName) ({ cls := "SuiteBench", name := "next", desc := "()I" } : Jvm.MethodName)), 6, 85)]) (by decide +kernel) _ (List.mem_singleton.mpr rfl)), .inl ⟨_, _, rfl⟩⟩⟩
theorem c_B_next {E2 : (Nat → Nat) → State → Heap → Prop} (hE : ai_XH E2) : ai_S E2 i_B_next f_B_next := snd_M (by decide) rfl (by decide) a_B_next kc_B_ok (by rfl) (by decide) (fun a i h => match a, h with
    | 0, h => by cases h; exact ⟨c_X_all hE, w_X_all⟩
    | 1, h => by cases h; exact ⟨c_T_give hE, w_T_give⟩
    | 2, h => by cases h; exact ⟨c_X_nextWord hE, w_X_nextWord⟩
    | _ + 3, h => by simp [cal_B_next, ai_nth] at h)
def k_N_laysAnswers : ai_C := [
  [(0, .iconst 0, 1, 0, 0, 0, 0, 0, []), (1, .istore_n 3, 1, 3, 0, 0, 0, 0, []), (2, .iload_n 3, 1, 3, 0, 0, 0, 0, []), (3, .iload_n 1, 1, 1, 0, 0, 0, 0, []), (4, .if_icmp .ge 143, 3, 147, 0, 0, 0, 0, []), (7, .aload_n 0, 1, 0, 0, 0, 0, 0, []), (8, .getfield 133, 3, 12, 62, 63, 2, 62, []), (11, .iload_n 3, 1, 3, 0, 0, 0, 0, []), (12, .iaload, 1, 0, 0, 0, 0, 0, []), (13, .sipush 1000, 3, 0, 0, 0, 0, 1000, [])],
  [(16, .if_icmp .eq 112, 3, 128, 0, 0, 0, 0, []), (19, .aload_n 0, 1, 0, 0, 0, 0, 0, []), (20, .aload_n 0, 1, 0, 0, 0, 0, 0, []), (21, .getfield 133, 3, 12, 62, 63, 2, 62, []), (24, .iload_n 3, 1, 3, 0, 0, 0, 0, []), (25, .iaload, 1, 0, 0, 0, 0, 0, []), (26, .invokevirtual 446, 3, 0, 2, 144, 9, 0, [(0, 12)]), (29, .iconst 3, 1, 0, 0, 0, 0, 3, []), (30, .aload_n 0, 1, 0, 0, 0, 0, 0, []), (31, .getfield 434, 3, 12, 43, 140, 0, 43, [])],
  [(34, .imul, 1, 0, 0, 0, 0, 0, []), (35, .aload_n 0, 1, 0, 0, 0, 0, 0, []), (36, .getfield 437, 3, 12, 44, 141, 0, 44, []), (39, .iadd, 1, 0, 0, 0, 0, 0, []), (40, .istore 4, 2, 4, 0, 0, 0, 0, []), (42, .aload_n 0, 1, 0, 0, 0, 0, 0, []), (43, .getfield 38, 3, 12, 20, 4, 2, 20, []), (46, .iconst 0, 1, 0, 0, 0, 0, 0, []), (47, .iload 4, 2, 4, 0, 0, 0, 0, [])],
  [(49, .iadd, 1, 0, 0, 0, 0, 0, []), (50, .iaload, 1, 0, 0, 0, 0, 0, []), (51, .istore 5, 2, 5, 0, 0, 0, 0, []), (53, .aload_n 0, 1, 0, 0, 0, 0, 0, []), (54, .getfield 41, 3, 12, 21, 10, 2, 21, []), (57, .iconst 0, 1, 0, 0, 0, 0, 0, []), (58, .iload 4, 2, 4, 0, 0, 0, 0, []), (60, .iadd, 1, 0, 0, 0, 0, 0, []), (61, .iaload, 1, 0, 0, 0, 0, 0, []), (62, .istore 6, 2, 6, 0, 0, 0, 0, [])],
  [(64, .aload_n 0, 1, 0, 0, 0, 0, 0, []), (65, .getfield 38, 3, 12, 20, 4, 2, 20, []), (68, .iconst 0, 1, 0, 0, 0, 0, 0, []), (69, .iload 4, 2, 4, 0, 0, 0, 0, []), (71, .iadd, 1, 0, 0, 0, 0, 0, []), (72, .aload_n 0, 1, 0, 0, 0, 0, 0, []), (73, .getfield 440, 3, 12, 45, 142, 0, 45, []), (76, .iastore, 1, 0, 0, 0, 0, 0, []), (77, .aload_n 0, 1, 0, 0, 0, 0, 0, []), (78, .getfield 41, 3, 12, 21, 10, 2, 21, [])],
  [(81, .iconst 0, 1, 0, 0, 0, 0, 0, []), (82, .iload 4, 2, 4, 0, 0, 0, 0, []), (84, .iadd, 1, 0, 0, 0, 0, 0, []), (85, .aload_n 0, 1, 0, 0, 0, 0, 0, []), (86, .getfield 443, 3, 12, 46, 143, 0, 46, []), (89, .iastore, 1, 0, 0, 0, 0, 0, []), (90, .aload_n 0, 1, 0, 0, 0, 0, 0, []), (91, .getfield 136, 3, 12, 64, 64, 2, 64, []), (94, .iload_n 3, 1, 3, 0, 0, 0, 0, []), (95, .aload_n 0, 1, 0, 0, 0, 0, 0, [])],
  [(96, .iconst 0, 1, 0, 0, 0, 0, 0, []), (97, .iconst 0, 1, 0, 0, 0, 0, 0, []), (98, .iload_n 2, 1, 2, 0, 0, 0, 0, []), (99, .invokevirtual 319, 3, 1, 4, 18, 1, 0, [(0, 12)]), (102, .lastore, 1, 0, 0, 0, 0, 0, []), (103, .aload_n 0, 1, 0, 0, 0, 0, 0, []), (104, .getfield 38, 3, 12, 20, 4, 2, 20, []), (107, .iconst 0, 1, 0, 0, 0, 0, 0, []), (108, .iload 4, 2, 4, 0, 0, 0, 0, []), (110, .iadd, 1, 0, 0, 0, 0, 0, []), (111, .iload 5, 2, 5, 0, 0, 0, 0, [])],
  [(113, .iastore, 1, 0, 0, 0, 0, 0, []), (114, .aload_n 0, 1, 0, 0, 0, 0, 0, []), (115, .getfield 41, 3, 12, 21, 10, 2, 21, []), (118, .iconst 0, 1, 0, 0, 0, 0, 0, []), (119, .iload 4, 2, 4, 0, 0, 0, 0, []), (121, .iadd, 1, 0, 0, 0, 0, 0, []), (122, .iload 6, 2, 6, 0, 0, 0, 0, []), (124, .iastore, 1, 0, 0, 0, 0, 0, []), (125, .goto 16, 3, 141, 0, 0, 0, 0, [])],
  [(128, .aload_n 0, 1, 0, 0, 0, 0, 0, []), (129, .getfield 136, 3, 12, 64, 64, 2, 64, []), (132, .iload_n 3, 1, 3, 0, 0, 0, 0, []), (133, .aload_n 0, 1, 0, 0, 0, 0, 0, []), (134, .iconst 0, 1, 0, 0, 0, 0, 0, []), (135, .iconst 0, 1, 0, 0, 0, 0, 0, []), (136, .iload_n 2, 1, 2, 0, 0, 0, 0, []), (137, .invokevirtual 319, 3, 1, 4, 18, 1, 0, [(0, 12)]), (140, .lastore, 1, 0, 0, 0, 0, 0, []), (141, .iinc 3 1, 3, 3, 0, 0, 0, 1, [])],
  [(144, .goto (-142), 3, 2, 0, 0, 0, 0, []), (147, .return_, 1, 0, 0, 0, 0, 0, [])]]
def i_N_laysAnswers : ai_I := ((⟨"SuiteBenchModel", "laysAnswers", "(II)V"⟩, prog_14_method_122_code, 7, none, 9, 3, 69, 0, 2, 0, 12) : ai_I)
def o_N_laysAnswers (a : Nat) : SP := match a with
  | 0 => f_N_tellsMutant
  | 1 => f_N_answers
  | _ => fun _ _ _ _ _ => False
theorem mo_N_laysAnswers : ∀ a, ai_mono (o_N_laysAnswers a)
  | 0 => mf_N_tellsMutant
  | 1 => mf_N_answers
  | _ + 2 => fun _ _ _ _ _ _ _ h => h
def f_N_laysAnswers : SP := ai_M o_N_laysAnswers 0 7 k_N_laysAnswers
theorem mf_N_laysAnswers : ai_mono f_N_laysAnswers := M_mono mo_N_laysAnswers
abbrev cal_N_laysAnswers : List ai_I := [i_N_tellsMutant, i_N_answers]
theorem a_N_laysAnswers : ai_all "SuiteBenchModel" prog_14_method_122_code 7 kc_N cal_N_laysAnswers 3 69 false none k_N_laysAnswers = true := by decide +kernel
theorem w_N_laysAnswers : ai_CW i_N_laysAnswers := ⟨(tk_mem (l := [((Jvm.Cond.code ({ cls := "SuiteBenchModel", name := "laysAnswers", desc := "(II)V" } : Jvm.MethodName) prog_14_method_122_code (7 : Nat) (Option.none : Option Jvm.ClassFile.FieldType)), 10, 60)]) (by decide +kernel) _ (List.mem_singleton.mpr rfl)), (tk_mem (l := [((Jvm.Cond.initialized "SuiteBenchModel"), 1, 15)]) (by decide +kernel) _ (List.mem_singleton.mpr rfl)), ⟨by decide +kernel, by decide +kernel, by decide +kernel⟩, ⟨(tk_mem (l := [((Jvm.Cond.instanceMethod ({ cls := "SuiteBenchModel", name := "laysAnswers", desc := "(II)V" } : Jvm.MethodName)), 10, 59)]) (by decide +kernel) _ (List.mem_singleton.mpr rfl)), gw_sel 143 (by decide +kernel), .inl ⟨_, _, rfl⟩⟩⟩
theorem c_N_laysAnswers {E2 : (Nat → Nat) → State → Heap → Prop} (hE : ai_XH E2) : ai_S E2 i_N_laysAnswers f_N_laysAnswers := snd_M (by decide) rfl (by decide) a_N_laysAnswers kc_N_ok (by rfl) (by decide) (fun a i h => match a, h with
    | 0, h => by cases h; exact ⟨c_N_tellsMutant hE, w_N_tellsMutant⟩
    | 1, h => by cases h; exact ⟨c_N_answers hE, w_N_answers⟩
    | _ + 2, h => by simp [cal_N_laysAnswers, ai_nth] at h)
def k_N_greatestGroup : ai_C := [
  [(0, .iconst 0, 1, 0, 0, 0, 0, 0, []), (1, .istore_n 2, 1, 2, 0, 0, 0, 0, []), (2, .iconst 0, 1, 0, 0, 0, 0, 0, []), (3, .istore_n 3, 1, 3, 0, 0, 0, 0, []), (4, .iload_n 3, 1, 3, 0, 0, 0, 0, []), (5, .iload_n 1, 1, 1, 0, 0, 0, 0, []), (6, .if_icmp .ge 67, 3, 73, 0, 0, 0, 0, []), (9, .iconst 0, 1, 0, 0, 0, 0, 0, []), (10, .istore 4, 2, 4, 0, 0, 0, 0, []), (12, .iconst 0, 1, 0, 0, 0, 0, 0, []), (13, .istore 5, 2, 5, 0, 0, 0, 0, []), (15, .iload 5, 2, 5, 0, 0, 0, 0, [])],
  [(17, .iload_n 1, 1, 1, 0, 0, 0, 0, []), (18, .if_icmp .ge 36, 3, 54, 0, 0, 0, 0, []), (21, .iload 4, 2, 4, 0, 0, 0, 0, []), (23, .aload_n 0, 1, 0, 0, 0, 0, 0, []), (24, .getfield 136, 3, 12, 64, 64, 2, 64, []), (27, .iload_n 3, 1, 3, 0, 0, 0, 0, []), (28, .laload, 1, 0, 0, 0, 0, 0, []), (29, .aload_n 0, 1, 0, 0, 0, 0, 0, []), (30, .getfield 136, 3, 12, 64, 64, 2, 64, [])],
  [(33, .iload 5, 2, 5, 0, 0, 0, 0, []), (35, .laload, 1, 0, 0, 0, 0, 0, []), (36, .lcmp, 1, 0, 0, 0, 0, 0, []), (37, .ifCond .ne 7, 3, 44, 0, 0, 0, 0, []), (40, .iconst 1, 1, 0, 0, 0, 0, 1, []), (41, .goto 4, 3, 45, 0, 0, 0, 0, []), (44, .iconst 0, 1, 0, 0, 0, 0, 0, []), (45, .iadd, 1, 0, 0, 0, 0, 0, []), (46, .istore 4, 2, 4, 0, 0, 0, 0, [])],
  [(48, .iinc 5 1, 3, 5, 0, 0, 0, 1, []), (51, .goto (-36), 3, 15, 0, 0, 0, 0, []), (54, .iload 4, 2, 4, 0, 0, 0, 0, []), (56, .iload_n 2, 1, 2, 0, 0, 0, 0, []), (57, .if_icmp .le 8, 3, 65, 0, 0, 0, 0, []), (60, .iload 4, 2, 4, 0, 0, 0, 0, []), (62, .goto 4, 3, 66, 0, 0, 0, 0, [])],
  [(65, .iload_n 2, 1, 2, 0, 0, 0, 0, []), (66, .istore_n 2, 1, 2, 0, 0, 0, 0, []), (67, .iinc 3 1, 3, 3, 0, 0, 0, 1, []), (70, .goto (-66), 3, 4, 0, 0, 0, 0, []), (73, .iload_n 2, 1, 2, 0, 0, 0, 0, []), (74, .ireturn, 1, 0, 0, 0, 0, 0, [])]]
def i_N_greatestGroup : ai_I := ((⟨"SuiteBenchModel", "greatestGroup", "(I)I"⟩, prog_14_method_121_code, 6, (some .int), 0, 0, 0, 0, 1, 0, 12) : ai_I)
def o_N_greatestGroup (_ : Nat) : SP := fun _ _ _ _ _ => False
theorem mo_N_greatestGroup : ∀ a, ai_mono (o_N_greatestGroup a) := fun _ _ _ _ _ _ _ _ h => h
def f_N_greatestGroup : SP := ai_M o_N_greatestGroup 0 6 k_N_greatestGroup
theorem mf_N_greatestGroup : ai_mono f_N_greatestGroup := M_mono mo_N_greatestGroup
abbrev cal_N_greatestGroup : List ai_I := []
theorem a_N_greatestGroup : ai_all "SuiteBenchModel" prog_14_method_121_code 6 kc_N cal_N_greatestGroup 0 0 false (some .int) k_N_greatestGroup = true := by decide +kernel
theorem w_N_greatestGroup : ai_CW i_N_greatestGroup := ⟨(tk_mem (l := [((Jvm.Cond.code ({ cls := "SuiteBenchModel", name := "greatestGroup", desc := "(I)I" } : Jvm.MethodName) prog_14_method_121_code (6 : Nat) (Option.some Jvm.ClassFile.FieldType.int)), 10, 64)]) (by decide +kernel) _ (List.mem_singleton.mpr rfl)), (tk_mem (l := [((Jvm.Cond.initialized "SuiteBenchModel"), 1, 15)]) (by decide +kernel) _ (List.mem_singleton.mpr rfl)), ⟨by decide +kernel, by decide +kernel, by decide +kernel⟩, ⟨(tk_mem (l := [((Jvm.Cond.instanceMethod ({ cls := "SuiteBenchModel", name := "greatestGroup", desc := "(I)I" } : Jvm.MethodName)), 10, 63)]) (by decide +kernel) _ (List.mem_singleton.mpr rfl)), gw_sel 144 (by decide +kernel), .inl ⟨_, _, rfl⟩⟩⟩
theorem c_N_greatestGroup {E2 : (Nat → Nat) → State → Heap → Prop} (hE : ai_XH E2) : ai_S E2 i_N_greatestGroup f_N_greatestGroup := snd_M (by decide) rfl (by decide) a_N_greatestGroup kc_N_ok (by rfl) (by decide) (fun a i h => by simp [cal_N_greatestGroup, ai_nth] at h)
def k_N_next : ai_C := [
  [(0, .aload_n 0, 1, 0, 0, 0, 0, 0, []), (1, .iconst 0, 1, 0, 0, 0, 0, 0, []), (2, .putfield 145, 3, 12, 0, 67, 0, 0, []), (5, .aload_n 0, 1, 0, 0, 0, 0, 0, []), (6, .invokevirtual 503, 3, 0, 1, 163, 9, 0, [(0, 12)]), (9, .aload_n 0, 1, 0, 0, 0, 0, 0, []), (10, .getfield 497, 3, 12, 63, 161, 0, 63, []), (13, .iconst 2, 1, 0, 0, 0, 0, 2, []), (14, .if_icmp .ge 6, 3, 20, 0, 0, 0, 0, [])],
  [(17, .bipush (-2), 2, 0, 0, 0, 0, (-2), []), (19, .ireturn, 1, 0, 0, 0, 0, 0, []), (20, .aload_n 0, 1, 0, 0, 0, 0, 0, []), (21, .getfield 497, 3, 12, 63, 161, 0, 63, []), (24, .bipush 40, 2, 0, 0, 0, 0, 40, []), (26, .if_icmp .ge 10, 3, 36, 0, 0, 0, 0, []), (29, .aload_n 0, 1, 0, 0, 0, 0, 0, []), (30, .getfield 497, 3, 12, 63, 161, 0, 63, [])],
  [(33, .goto 5, 3, 38, 0, 0, 0, 0, []), (36, .bipush 40, 2, 0, 0, 0, 0, 40, []), (38, .istore_n 1, 1, 1, 0, 0, 0, 0, []), (39, .aload_n 0, 1, 0, 0, 0, 0, 0, []), (40, .iconst 1, 1, 0, 0, 0, 0, 1, []), (41, .invokevirtual 400, 3, 1, 2, 128, 0, 0, [(0, 12)]), (44, .istore_n 2, 1, 2, 0, 0, 0, 0, []), (45, .iconst (-1), 1, 0, 0, 0, 0, (-1), []), (46, .istore_n 3, 1, 3, 0, 0, 0, 0, []), (47, .iconst 0, 1, 0, 0, 0, 0, 0, [])],
  [(48, .istore 4, 2, 4, 0, 0, 0, 0, []), (50, .iconst 0, 1, 0, 0, 0, 0, 0, []), (51, .istore 5, 2, 5, 0, 0, 0, 0, []), (53, .iload 5, 2, 5, 0, 0, 0, 0, []), (55, .aload_n 0, 1, 0, 0, 0, 0, 0, []), (56, .getfield 84, 3, 12, 39, 24, 2, 39, []), (59, .iload_n 2, 1, 2, 0, 0, 0, 0, []), (60, .iaload, 1, 0, 0, 0, 0, 0, []), (61, .if_icmp .ge 50, 3, 111, 0, 0, 0, 0, [])],
  [(64, .aload_n 0, 1, 0, 0, 0, 0, 0, []), (65, .iload_n 1, 1, 1, 0, 0, 0, 0, []), (66, .aload_n 0, 1, 0, 0, 0, 0, 0, []), (67, .iload_n 2, 1, 2, 0, 0, 0, 0, []), (68, .iload 5, 2, 5, 0, 0, 0, 0, []), (70, .invokevirtual 376, 3, 2, 3, 120, 0, 0, [(0, 12)]), (73, .invokevirtual 506, 3, 3, 3, 164, 9, 0, [(0, 12)]), (76, .aload_n 0, 1, 0, 0, 0, 0, 0, []), (77, .iload_n 1, 1, 1, 0, 0, 0, 0, []), (78, .invokevirtual 509, 3, 4, 2, 165, 0, 0, [(0, 12)])],
  [(81, .istore 6, 2, 6, 0, 0, 0, 0, []), (83, .iload_n 3, 1, 3, 0, 0, 0, 0, []), (84, .iconst (-1), 1, 0, 0, 0, 0, (-1), []), (85, .if_icmp .eq 13, 3, 98, 0, 0, 0, 0, []), (88, .iload 6, 2, 6, 0, 0, 0, 0, []), (90, .iload 4, 2, 4, 0, 0, 0, 0, []), (92, .if_icmp .lt 6, 3, 98, 0, 0, 0, 0, []), (95, .goto 10, 3, 105, 0, 0, 0, 0, [])],
  [(98, .iload 5, 2, 5, 0, 0, 0, 0, []), (100, .istore_n 3, 1, 3, 0, 0, 0, 0, []), (101, .iload 6, 2, 6, 0, 0, 0, 0, []), (103, .istore 4, 2, 4, 0, 0, 0, 0, []), (105, .iinc 5 1, 3, 5, 0, 0, 0, 1, []), (108, .goto (-55), 3, 53, 0, 0, 0, 0, []), (111, .aload_n 0, 1, 0, 0, 0, 0, 0, [])],
  [(112, .iload_n 2, 1, 2, 0, 0, 0, 0, []), (113, .iload_n 3, 1, 3, 0, 0, 0, 0, []), (114, .invokevirtual 376, 3, 2, 3, 120, 0, 0, [(0, 12)]), (117, .ireturn, 1, 0, 0, 0, 0, 0, [])]]
def i_N_next : ai_I := ((⟨"SuiteBenchModel", "next", "()I"⟩, prog_14_method_123_code, 7, (some .int), 0, 6, 140, 0, 0, 0, 12) : ai_I)
def o_N_next (a : Nat) : SP := match a with
  | 0 => f_N_laysSuspects
  | 1 => f_N_suiteOf
  | 2 => f_N_testAt
  | 3 => f_N_laysAnswers
  | 4 => f_N_greatestGroup
  | _ => fun _ _ _ _ _ => False
theorem mo_N_next : ∀ a, ai_mono (o_N_next a)
  | 0 => mf_N_laysSuspects
  | 1 => mf_N_suiteOf
  | 2 => mf_N_testAt
  | 3 => mf_N_laysAnswers
  | 4 => mf_N_greatestGroup
  | _ + 5 => fun _ _ _ _ _ _ _ h => h
def f_N_next : SP := ai_M o_N_next 0 7 k_N_next
theorem mf_N_next : ai_mono f_N_next := M_mono mo_N_next
abbrev cal_N_next : List ai_I := [i_N_laysSuspects, i_N_suiteOf, i_N_testAt, i_N_laysAnswers, i_N_greatestGroup]
theorem a_N_next : ai_all "SuiteBenchModel" prog_14_method_123_code 7 kc_N cal_N_next 6 140 false (some .int) k_N_next = true := by decide +kernel
theorem w_N_next : ai_CW i_N_next := ⟨(tk_mem (l := [((Jvm.Cond.code ({ cls := "SuiteBenchModel", name := "next", desc := "()I" } : Jvm.MethodName) prog_14_method_123_code (7 : Nat) (Option.some Jvm.ClassFile.FieldType.int)), 10, 56)]) (by decide +kernel) _ (List.mem_singleton.mpr rfl)), (tk_mem (l := [((Jvm.Cond.initialized "SuiteBenchModel"), 1, 15)]) (by decide +kernel) _ (List.mem_singleton.mpr rfl)), ⟨by decide +kernel, by decide +kernel, by decide +kernel⟩, ⟨(tk_mem (l := [((Jvm.Cond.instanceMethod ({ cls := "SuiteBenchModel", name := "next", desc := "()I" } : Jvm.MethodName)), 10, 54)]) (by decide +kernel) _ (List.mem_singleton.mpr rfl)), (tk_mem (l := [((Jvm.Cond.selects "SuiteBenchModel" ({ cls := "SuiteBenchModel", name := "next", desc := "()I" } : Jvm.MethodName) ({ cls := "SuiteBenchModel", name := "next", desc := "()I" } : Jvm.MethodName)), 10, 55)]) (by decide +kernel) _ (List.mem_singleton.mpr rfl)), .inl ⟨_, _, rfl⟩⟩⟩
theorem c_N_next {E2 : (Nat → Nat) → State → Heap → Prop} (hE : ai_XH E2) : ai_S E2 i_N_next f_N_next := snd_M (by decide) rfl (by decide) a_N_next kc_N_ok (by rfl) (by decide) (fun a i h => match a, h with
    | 0, h => by cases h; exact ⟨c_N_laysSuspects hE, w_N_laysSuspects⟩
    | 1, h => by cases h; exact ⟨c_N_suiteOf hE, w_N_suiteOf⟩
    | 2, h => by cases h; exact ⟨c_N_testAt hE, w_N_testAt⟩
    | 3, h => by cases h; exact ⟨c_N_laysAnswers hE, w_N_laysAnswers⟩
    | 4, h => by cases h; exact ⟨c_N_greatestGroup hE, w_N_greatestGroup⟩
    | _ + 5, h => by simp [cal_N_next, ai_nth] at h)
def k_B_chance : ai_C := [
  [(0, .iload_n 1, 1, 1, 0, 0, 0, 0, []), (1, .iconst (-1), 1, 0, 0, 0, 0, (-1), []), (2, .if_icmp .lt 34, 3, 36, 0, 0, 0, 0, []), (5, .iload_n 2, 1, 2, 0, 0, 0, 0, []), (6, .iconst 1, 1, 0, 0, 0, 0, 1, []), (7, .if_icmp .lt 29, 3, 36, 0, 0, 0, 0, []), (10, .iload_n 2, 1, 2, 0, 0, 0, 0, []), (11, .bipush 15, 2, 0, 0, 0, 0, 15, []), (13, .if_icmp .gt 23, 3, 36, 0, 0, 0, 0, [])],
  [(16, .aload_n 0, 1, 0, 0, 0, 0, 0, []), (17, .getfield 26, 3, 11, 1, 0, 2, 1, []), (20, .getfield 166, 3, 1, 2, 80, 0, 2, []), (23, .ifCond .eq 13, 3, 36, 0, 0, 0, 0, []), (26, .aload_n 0, 1, 0, 0, 0, 0, 0, []), (27, .getfield 26, 3, 11, 1, 0, 2, 1, []), (30, .getfield 150, 3, 1, 3, 85, 0, 3, [])],
  [(33, .ifCond .ne 5, 3, 38, 0, 0, 0, 0, []), (36, .iconst (-1), 1, 0, 0, 0, 0, (-1), []), (37, .ireturn, 1, 0, 0, 0, 0, 0, []), (38, .iload_n 1, 1, 1, 0, 0, 0, 0, []), (39, .iconst (-1), 1, 0, 0, 0, 0, (-1), []), (40, .if_icmp .ne 13, 3, 53, 0, 0, 0, 0, []), (43, .aload_n 0, 1, 0, 0, 0, 0, 0, []), (44, .getfield 19, 3, 11, 12, 1, 2, 12, []), (47, .getfield 320, 3, 3, 8, 136, 0, 8, [])],
  [(50, .goto 4, 3, 54, 0, 0, 0, 0, []), (53, .iload_n 1, 1, 1, 0, 0, 0, 0, []), (54, .istore_n 3, 1, 3, 0, 0, 0, 0, []), (55, .iconst 0, 1, 0, 0, 0, 0, 0, []), (56, .istore 4, 2, 4, 0, 0, 0, 0, []), (58, .iconst 0, 1, 0, 0, 0, 0, 0, []), (59, .istore 5, 2, 5, 0, 0, 0, 0, []), (61, .iload 5, 2, 5, 0, 0, 0, 0, []), (63, .bipush 10, 2, 0, 0, 0, 0, 10, [])],
  [(65, .if_icmp .ge 89, 3, 154, 0, 0, 0, 0, []), (68, .iconst 0, 1, 0, 0, 0, 0, 0, []), (69, .istore 6, 2, 6, 0, 0, 0, 0, []), (71, .iconst 0, 1, 0, 0, 0, 0, 0, []), (72, .istore 7, 2, 7, 0, 0, 0, 0, []), (74, .iload 7, 2, 7, 0, 0, 0, 0, []), (76, .iload_n 2, 1, 2, 0, 0, 0, 0, []), (77, .if_icmp .ge 44, 3, 121, 0, 0, 0, 0, [])],
  [(80, .iload_n 3, 1, 3, 0, 0, 0, 0, []), (81, .ldc_w 323, 3, 0, 0, 137, 0, 1103515245, []), (84, .imul, 1, 0, 0, 0, 0, 0, []), (85, .sipush 12345, 3, 0, 0, 0, 0, 12345, []), (88, .iadd, 1, 0, 0, 0, 0, 0, []), (89, .ldc_w 324, 3, 0, 0, 138, 0, 2147483647, []), (92, .iand, 1, 0, 0, 0, 0, 0, []), (93, .istore_n 3, 1, 3, 0, 0, 0, 0, []), (94, .iload 6, 2, 6, 0, 0, 0, 0, [])],
  [(96, .iconst 2, 1, 0, 0, 0, 0, 2, []), (97, .ishl, 1, 0, 0, 0, 0, 0, []), (98, .iload_n 3, 1, 3, 0, 0, 0, 0, []), (99, .bipush 16, 2, 0, 0, 0, 0, 16, []), (101, .ishr, 1, 0, 0, 0, 0, 0, []), (102, .aload_n 0, 1, 0, 0, 0, 0, 0, []), (103, .getfield 26, 3, 11, 1, 0, 2, 1, []), (106, .getfield 150, 3, 1, 3, 85, 0, 3, []), (109, .irem, 1, 0, 0, 0, 0, 0, []), (110, .iconst 1, 1, 0, 0, 0, 0, 1, []), (111, .iadd, 1, 0, 0, 0, 0, 0, [])],
  [(112, .ior, 1, 0, 0, 0, 0, 0, []), (113, .istore 6, 2, 6, 0, 0, 0, 0, []), (115, .iinc 7 1, 3, 7, 0, 0, 0, 1, []), (118, .goto (-44), 3, 74, 0, 0, 0, 0, []), (121, .aload_n 0, 1, 0, 0, 0, 0, 0, []), (122, .getfield 26, 3, 11, 1, 0, 2, 1, []), (125, .iconst 0, 1, 0, 0, 0, 0, 0, []), (126, .iload 6, 2, 6, 0, 0, 0, 0, [])],
  [(128, .invokevirtual 158, 3, 0, 3, 88, 1, 0, [(0, 1)]), (131, .aload_n 0, 1, 0, 0, 0, 0, 0, []), (132, .getfield 30, 3, 11, 2, 7, 2, 2, []), (135, .iconst 0, 1, 0, 0, 0, 0, 0, []), (136, .iload 6, 2, 6, 0, 0, 0, 0, []), (138, .invokevirtual 158, 3, 0, 3, 88, 1, 0, [(0, 1)]), (141, .lcmp, 1, 0, 0, 0, 0, 0, []), (142, .ifCond .eq 6, 3, 148, 0, 0, 0, 0, [])],
  [(145, .iinc 4 1, 3, 4, 0, 0, 0, 1, []), (148, .iinc 5 1, 3, 5, 0, 0, 0, 1, []), (151, .goto (-90), 3, 61, 0, 0, 0, 0, []), (154, .iload 4, 2, 4, 0, 0, 0, 0, []), (156, .ireturn, 1, 0, 0, 0, 0, 0, [])]]
def i_B_chance : ai_I := ((⟨"SuiteBench", "chance", "(II)I"⟩, prog_1_method_36_code, 8, (some .int), 0, 2, 48, 0, 2, 0, 11) : ai_I)
def o_B_chance (a : Nat) : SP := match a with
  | 0 => f_M_tell
  | _ => fun _ _ _ _ _ => False
theorem mo_B_chance : ∀ a, ai_mono (o_B_chance a)
  | 0 => mf_M_tell
  | _ + 1 => fun _ _ _ _ _ _ _ h => h
def f_B_chance : SP := ai_M o_B_chance 0 8 k_B_chance
theorem mf_B_chance : ai_mono f_B_chance := M_mono mo_B_chance
abbrev cal_B_chance : List ai_I := [i_M_tell]
theorem a_B_chance : ai_all "SuiteBench" prog_1_method_36_code 8 kc_B cal_B_chance 2 48 false (some .int) k_B_chance = true := by decide +kernel
theorem w_B_chance : ai_CW i_B_chance := ⟨(tk_mem (l := [((Jvm.Cond.code ({ cls := "SuiteBench", name := "chance", desc := "(II)I" } : Jvm.MethodName) prog_1_method_36_code (8 : Nat) (Option.some Jvm.ClassFile.FieldType.int)), 6, 119)]) (by decide +kernel) _ (List.mem_singleton.mpr rfl)), (tk_mem (l := [((Jvm.Cond.initialized "SuiteBench"), 1, 1)]) (by decide +kernel) _ (List.mem_singleton.mpr rfl)), ⟨by decide +kernel, by decide +kernel, by decide +kernel⟩, ⟨(tk_mem (l := [((Jvm.Cond.instanceMethod ({ cls := "SuiteBench", name := "chance", desc := "(II)I" } : Jvm.MethodName)), 6, 117)]) (by decide +kernel) _ (List.mem_singleton.mpr rfl)), (tk_mem (l := [((Jvm.Cond.selects "SuiteBench" ({ cls := "SuiteBench", name := "chance", desc := "(II)I" } : Jvm.MethodName) ({ cls := "SuiteBench", name := "chance", desc := "(II)I" } : Jvm.MethodName)), 6, 118)]) (by decide +kernel) _ (List.mem_singleton.mpr rfl)), .inl ⟨_, _, rfl⟩⟩⟩
theorem c_B_chance {E2 : (Nat → Nat) → State → Heap → Prop} (hE : ai_XH E2) : ai_S E2 i_B_chance f_B_chance := snd_M (by decide) rfl (by decide) a_B_chance kc_B_ok (by rfl) (by decide) (fun a i h => match a, h with
    | 0, h => by cases h; exact ⟨c_M_tell hE, w_M_tell⟩
    | _ + 1, h => by simp [cal_B_chance, ai_nth] at h)
def k_N_draw : ai_C := [
  [(0, .aload_n 0, 1, 0, 0, 0, 0, 0, []), (1, .aload_n 0, 1, 0, 0, 0, 0, 0, []), (2, .getfield 512, 3, 12, 65, 166, 0, 65, []), (5, .ldc_w 515, 3, 0, 0, 167, 0, 1103515245, []), (8, .imul, 1, 0, 0, 0, 0, 0, []), (9, .sipush 12345, 3, 0, 0, 0, 0, 12345, []), (12, .iadd, 1, 0, 0, 0, 0, 0, []), (13, .ldc_w 516, 3, 0, 0, 168, 0, 2147483647, [])],
  [(16, .iand, 1, 0, 0, 0, 0, 0, []), (17, .putfield 512, 3, 12, 65, 166, 0, 65, []), (20, .aload_n 0, 1, 0, 0, 0, 0, 0, []), (21, .getfield 512, 3, 12, 65, 166, 0, 65, []), (24, .bipush 16, 2, 0, 0, 0, 0, 16, []), (26, .ishr, 1, 0, 0, 0, 0, 0, []), (27, .iload_n 1, 1, 1, 0, 0, 0, 0, []), (28, .irem, 1, 0, 0, 0, 0, 0, []), (29, .ireturn, 1, 0, 0, 0, 0, 0, [])]]
def i_N_draw : ai_I := ((⟨"SuiteBenchModel", "draw", "(I)I"⟩, prog_14_method_124_code, 2, (some .int), 0, 0, 0, 0, 1, 0, 12) : ai_I)
def o_N_draw (_ : Nat) : SP := fun _ _ _ _ _ => False
theorem mo_N_draw : ∀ a, ai_mono (o_N_draw a) := fun _ _ _ _ _ _ _ _ h => h
def f_N_draw : SP := ai_M o_N_draw 0 2 k_N_draw
theorem mf_N_draw : ai_mono f_N_draw := M_mono mo_N_draw
abbrev cal_N_draw : List ai_I := []
theorem a_N_draw : ai_all "SuiteBenchModel" prog_14_method_124_code 2 kc_N cal_N_draw 0 0 false (some .int) k_N_draw = true := by decide +kernel
theorem w_N_draw : ai_CW i_N_draw := ⟨(tk_mem (l := [((Jvm.Cond.code ({ cls := "SuiteBenchModel", name := "draw", desc := "(I)I" } : Jvm.MethodName) prog_14_method_124_code (2 : Nat) (Option.some Jvm.ClassFile.FieldType.int)), 10, 72)]) (by decide +kernel) _ (List.mem_singleton.mpr rfl)), (tk_mem (l := [((Jvm.Cond.initialized "SuiteBenchModel"), 1, 15)]) (by decide +kernel) _ (List.mem_singleton.mpr rfl)), ⟨by decide +kernel, by decide +kernel, by decide +kernel⟩, ⟨(tk_mem (l := [((Jvm.Cond.instanceMethod ({ cls := "SuiteBenchModel", name := "draw", desc := "(I)I" } : Jvm.MethodName)), 10, 71)]) (by decide +kernel) _ (List.mem_singleton.mpr rfl)), gw_sel 145 (by decide +kernel), .inl ⟨_, _, rfl⟩⟩⟩
theorem c_N_draw {E2 : (Nat → Nat) → State → Heap → Prop} (hE : ai_XH E2) : ai_S E2 i_N_draw f_N_draw := snd_M (by decide) rfl (by decide) a_N_draw kc_N_ok (by rfl) (by decide) (fun a i h => by simp [cal_N_draw, ai_nth] at h)
def k_N_chance : ai_C := [
  [(0, .aload_n 0, 1, 0, 0, 0, 0, 0, []), (1, .iconst 0, 1, 0, 0, 0, 0, 0, []), (2, .putfield 145, 3, 12, 0, 67, 0, 0, []), (5, .iload_n 1, 1, 1, 0, 0, 0, 0, []), (6, .iconst (-1), 1, 0, 0, 0, 0, (-1), []), (7, .if_icmp .lt 28, 3, 35, 0, 0, 0, 0, []), (10, .iload_n 2, 1, 2, 0, 0, 0, 0, []), (11, .iconst 1, 1, 0, 0, 0, 0, 1, []), (12, .if_icmp .lt 23, 3, 35, 0, 0, 0, 0, []), (15, .iload_n 2, 1, 2, 0, 0, 0, 0, [])],
  [(16, .bipush 15, 2, 0, 0, 0, 0, 15, []), (18, .if_icmp .gt 17, 3, 35, 0, 0, 0, 0, []), (21, .aload_n 0, 1, 0, 0, 0, 0, 0, []), (22, .invokevirtual 272, 3, 0, 1, 2, 0, 0, [(0, 12)]), (25, .ifCond .eq 10, 3, 35, 0, 0, 0, 0, []), (28, .aload_n 0, 1, 0, 0, 0, 0, 0, []), (29, .invokevirtual 269, 3, 1, 1, 3, 0, 0, [(0, 12)])],
  [(32, .ifCond .ne 5, 3, 37, 0, 0, 0, 0, []), (35, .iconst (-1), 1, 0, 0, 0, 0, (-1), []), (36, .ireturn, 1, 0, 0, 0, 0, 0, []), (37, .aload_n 0, 1, 0, 0, 0, 0, 0, []), (38, .iload_n 1, 1, 1, 0, 0, 0, 0, []), (39, .iconst (-1), 1, 0, 0, 0, 0, (-1), []), (40, .if_icmp .ne 27, 3, 67, 0, 0, 0, 0, []), (43, .aload_n 0, 1, 0, 0, 0, 0, 0, []), (44, .getfield 13, 3, 12, 3, 0, 2, 3, []), (47, .iconst 4, 1, 0, 0, 0, 0, 4, [])],
  [(48, .iaload, 1, 0, 0, 0, 0, 0, []), (49, .ifCond .ne 7, 3, 56, 0, 0, 0, 0, []), (52, .iconst 0, 1, 0, 0, 0, 0, 0, []), (53, .goto 15, 3, 68, 0, 0, 0, 0, []), (56, .aload_n 0, 1, 0, 0, 0, 0, 0, []), (57, .getfield 13, 3, 12, 3, 0, 2, 3, []), (60, .iconst 4, 1, 0, 0, 0, 0, 4, []), (61, .iaload, 1, 0, 0, 0, 0, 0, []), (62, .iconst 1, 1, 0, 0, 0, 0, 1, []), (63, .isub, 1, 0, 0, 0, 0, 0, [])],
  [(64, .goto 4, 3, 68, 0, 0, 0, 0, []), (67, .iload_n 1, 1, 1, 0, 0, 0, 0, []), (68, .putfield 512, 3, 12, 65, 166, 0, 65, []), (71, .iconst 0, 1, 0, 0, 0, 0, 0, []), (72, .istore_n 3, 1, 3, 0, 0, 0, 0, []), (73, .iconst 0, 1, 0, 0, 0, 0, 0, []), (74, .istore 4, 2, 4, 0, 0, 0, 0, []), (76, .iload 4, 2, 4, 0, 0, 0, 0, []), (78, .bipush 10, 2, 0, 0, 0, 0, 10, [])],
  [(80, .if_icmp .ge 63, 3, 143, 0, 0, 0, 0, []), (83, .iconst 0, 1, 0, 0, 0, 0, 0, []), (84, .istore 5, 2, 5, 0, 0, 0, 0, []), (86, .iconst 0, 1, 0, 0, 0, 0, 0, []), (87, .istore 6, 2, 6, 0, 0, 0, 0, []), (89, .iload 6, 2, 6, 0, 0, 0, 0, []), (91, .iload_n 2, 1, 2, 0, 0, 0, 0, []), (92, .if_icmp .ge 26, 3, 118, 0, 0, 0, 0, []), (95, .iconst 4, 1, 0, 0, 0, 0, 4, [])],
  [(96, .iload 5, 2, 5, 0, 0, 0, 0, []), (98, .imul, 1, 0, 0, 0, 0, 0, []), (99, .aload_n 0, 1, 0, 0, 0, 0, 0, []), (100, .aload_n 0, 1, 0, 0, 0, 0, 0, []), (101, .invokevirtual 269, 3, 1, 1, 3, 0, 0, [(0, 12)]), (104, .invokevirtual 517, 3, 2, 2, 169, 0, 0, [(0, 12)]), (107, .iadd, 1, 0, 0, 0, 0, 0, []), (108, .iconst 1, 1, 0, 0, 0, 0, 1, []), (109, .iadd, 1, 0, 0, 0, 0, 0, []), (110, .istore 5, 2, 5, 0, 0, 0, 0, [])],
  [(112, .iinc 6 1, 3, 6, 0, 0, 0, 1, []), (115, .goto (-26), 3, 89, 0, 0, 0, 0, []), (118, .iload_n 3, 1, 3, 0, 0, 0, 0, []), (119, .aload_n 0, 1, 0, 0, 0, 0, 0, []), (120, .bipush 24, 2, 0, 0, 0, 0, 24, []), (122, .iload 5, 2, 5, 0, 0, 0, 0, []), (124, .invokevirtual 418, 3, 3, 3, 135, 0, 0, [(0, 12)]), (127, .ifCond .eq 7, 3, 134, 0, 0, 0, 0, [])],
  [(130, .iconst 0, 1, 0, 0, 0, 0, 0, []), (131, .goto 4, 3, 135, 0, 0, 0, 0, []), (134, .iconst 1, 1, 0, 0, 0, 0, 1, []), (135, .iadd, 1, 0, 0, 0, 0, 0, []), (136, .istore_n 3, 1, 3, 0, 0, 0, 0, []), (137, .iinc 4 1, 3, 4, 0, 0, 0, 1, []), (140, .goto (-64), 3, 76, 0, 0, 0, 0, []), (143, .iload_n 3, 1, 3, 0, 0, 0, 0, [])],
  [(144, .ireturn, 1, 0, 0, 0, 0, 0, [])]]
def i_N_chance : ai_I := ((⟨"SuiteBenchModel", "chance", "(II)I"⟩, prog_14_method_125_code, 7, (some .int), 0, 3, 73, 0, 2, 0, 12) : ai_I)
def o_N_chance (a : Nat) : SP := match a with
  | 0 => f_N_states
  | 1 => f_N_inputs
  | 2 => f_N_draw
  | 3 => f_N_isPassed
  | _ => fun _ _ _ _ _ => False
theorem mo_N_chance : ∀ a, ai_mono (o_N_chance a)
  | 0 => mf_N_states
  | 1 => mf_N_inputs
  | 2 => mf_N_draw
  | 3 => mf_N_isPassed
  | _ + 4 => fun _ _ _ _ _ _ _ h => h
def f_N_chance : SP := ai_M o_N_chance 0 7 k_N_chance
theorem mf_N_chance : ai_mono f_N_chance := M_mono mo_N_chance
abbrev cal_N_chance : List ai_I := [i_N_states, i_N_inputs, i_N_draw, i_N_isPassed]
theorem a_N_chance : ai_all "SuiteBenchModel" prog_14_method_125_code 7 kc_N cal_N_chance 3 73 false (some .int) k_N_chance = true := by decide +kernel
theorem w_N_chance : ai_CW i_N_chance := ⟨(tk_mem (l := [((Jvm.Cond.code ({ cls := "SuiteBenchModel", name := "chance", desc := "(II)I" } : Jvm.MethodName) prog_14_method_125_code (7 : Nat) (Option.some Jvm.ClassFile.FieldType.int)), 10, 68)]) (by decide +kernel) _ (List.mem_singleton.mpr rfl)), (tk_mem (l := [((Jvm.Cond.initialized "SuiteBenchModel"), 1, 15)]) (by decide +kernel) _ (List.mem_singleton.mpr rfl)), ⟨by decide +kernel, by decide +kernel, by decide +kernel⟩, ⟨(tk_mem (l := [((Jvm.Cond.instanceMethod ({ cls := "SuiteBenchModel", name := "chance", desc := "(II)I" } : Jvm.MethodName)), 10, 66)]) (by decide +kernel) _ (List.mem_singleton.mpr rfl)), (tk_mem (l := [((Jvm.Cond.selects "SuiteBenchModel" ({ cls := "SuiteBenchModel", name := "chance", desc := "(II)I" } : Jvm.MethodName) ({ cls := "SuiteBenchModel", name := "chance", desc := "(II)I" } : Jvm.MethodName)), 10, 67)]) (by decide +kernel) _ (List.mem_singleton.mpr rfl)), .inl ⟨_, _, rfl⟩⟩⟩
theorem c_N_chance {E2 : (Nat → Nat) → State → Heap → Prop} (hE : ai_XH E2) : ai_S E2 i_N_chance f_N_chance := snd_M (by decide) rfl (by decide) a_N_chance kc_N_ok (by rfl) (by decide) (fun a i h => match a, h with
    | 0, h => by cases h; exact ⟨c_N_states hE, w_N_states⟩
    | 1, h => by cases h; exact ⟨c_N_inputs hE, w_N_inputs⟩
    | 2, h => by cases h; exact ⟨c_N_draw hE, w_N_draw⟩
    | 3, h => by cases h; exact ⟨c_N_isPassed hE, w_N_isPassed⟩
    | _ + 4, h => by simp [cal_N_chance, ai_nth] at h)
def k_B_pastSlot : ai_C := [
  [(0, .aload_n 0, 1, 0, 0, 0, 0, 0, []), (1, .getfield 416, 3, 11, 13, 23, 0, 13, []), (4, .aload_n 0, 1, 0, 0, 0, 0, 0, []), (5, .getfield 339, 3, 11, 14, 24, 0, 14, []), (8, .iadd, 1, 0, 0, 0, 0, 0, []), (9, .bipush 20, 2, 0, 0, 0, 0, 20, []), (11, .irem, 1, 0, 0, 0, 0, 0, []), (12, .bipush 24, 2, 0, 0, 0, 0, 24, []), (14, .imul, 1, 0, 0, 0, 0, 0, []), (15, .ireturn, 1, 0, 0, 0, 0, 0, [])]]
def i_B_pastSlot : ai_I := ((⟨"SuiteBench", "pastSlot", "()I"⟩, prog_1_method_51_code, 1, (some .int), 0, 0, 0, 0, 0, 0, 11) : ai_I)
def o_B_pastSlot (_ : Nat) : SP := fun _ _ _ _ _ => False
theorem mo_B_pastSlot : ∀ a, ai_mono (o_B_pastSlot a) := fun _ _ _ _ _ _ _ _ h => h
def f_B_pastSlot : SP := ai_M o_B_pastSlot 0 1 k_B_pastSlot
theorem mf_B_pastSlot : ai_mono f_B_pastSlot := M_mono mo_B_pastSlot
abbrev cal_B_pastSlot : List ai_I := []
theorem a_B_pastSlot : ai_all "SuiteBench" prog_1_method_51_code 1 kc_B cal_B_pastSlot 0 0 false (some .int) k_B_pastSlot = true := by decide +kernel
theorem w_B_pastSlot : ai_CW i_B_pastSlot := ⟨(tk_mem (l := [((Jvm.Cond.code ({ cls := "SuiteBench", name := "pastSlot", desc := "()I" } : Jvm.MethodName) prog_1_method_51_code (1 : Nat) (Option.some Jvm.ClassFile.FieldType.int)), 6, 133)]) (by decide +kernel) _ (List.mem_singleton.mpr rfl)), (tk_mem (l := [((Jvm.Cond.initialized "SuiteBench"), 1, 1)]) (by decide +kernel) _ (List.mem_singleton.mpr rfl)), ⟨by decide +kernel, by decide +kernel, by decide +kernel⟩, ⟨(tk_mem (l := [((Jvm.Cond.instanceMethod ({ cls := "SuiteBench", name := "pastSlot", desc := "()I" } : Jvm.MethodName)), 6, 132)]) (by decide +kernel) _ (List.mem_singleton.mpr rfl)), gw_sel 64 (by decide +kernel), .inl ⟨_, _, rfl⟩⟩⟩
theorem c_B_pastSlot {E2 : (Nat → Nat) → State → Heap → Prop} (hE : ai_XH E2) : ai_S E2 i_B_pastSlot f_B_pastSlot := snd_M (by decide) rfl (by decide) a_B_pastSlot kc_B_ok (by rfl) (by decide) (fun a i h => by simp [cal_B_pastSlot, ai_nth] at h)
def k_M_pack : ai_C := [
  [(0, .iconst 0, 1, 0, 0, 0, 0, 0, []), (1, .istore_n 3, 1, 3, 0, 0, 0, 0, []), (2, .iload_n 3, 1, 3, 0, 0, 0, 0, []), (3, .bipush 24, 2, 0, 0, 0, 0, 24, []), (5, .if_icmp .ge 37, 3, 42, 0, 0, 0, 0, []), (8, .iload_n 2, 1, 2, 0, 0, 0, 0, []), (9, .iload_n 3, 1, 3, 0, 0, 0, 0, []), (10, .iadd, 1, 0, 0, 0, 0, 0, []), (11, .aload_n 1, 1, 1, 0, 0, 0, 0, []), (12, .arraylength, 1, 0, 0, 0, 50, 0, []), (13, .if_icmp .ge 29, 3, 42, 0, 0, 0, 0, [])],
  [(16, .aload_n 1, 1, 1, 0, 0, 0, 0, []), (17, .iload_n 2, 1, 2, 0, 0, 0, 0, []), (18, .iload_n 3, 1, 3, 0, 0, 0, 0, []), (19, .iadd, 1, 0, 0, 0, 0, 0, []), (20, .aload_n 0, 1, 0, 0, 0, 0, 0, []), (21, .getfield 9, 3, 1, 0, 2, 2, 0, []), (24, .iload_n 3, 1, 3, 0, 0, 0, 0, []), (25, .iaload, 1, 0, 0, 0, 0, 0, []), (26, .iconst 4, 1, 0, 0, 0, 0, 4, []), (27, .ishl, 1, 0, 0, 0, 0, 0, []), (28, .aload_n 0, 1, 0, 0, 0, 0, 0, []), (29, .getfield 15, 3, 1, 1, 3, 2, 1, [])],
  [(32, .iload_n 3, 1, 3, 0, 0, 0, 0, []), (33, .iaload, 1, 0, 0, 0, 0, 0, []), (34, .ior, 1, 0, 0, 0, 0, 0, []), (35, .iastore, 1, 0, 0, 0, 0, 0, []), (36, .iinc 3 1, 3, 3, 0, 0, 0, 1, []), (39, .goto (-37), 3, 2, 0, 0, 0, 0, []), (42, .return_, 1, 0, 0, 0, 0, 0, [])]]
def i_M_pack : ai_I := ((⟨"SuiteBench$Machine", "pack", "([II)V"⟩, prog_3_method_9_code, 4, none, 9, 0, 0, 0, 2, 0, 1) : ai_I)
def o_M_pack (_ : Nat) : SP := fun _ _ _ _ _ => False
theorem mo_M_pack : ∀ a, ai_mono (o_M_pack a) := fun _ _ _ _ _ _ _ _ h => h
def f_M_pack : SP := ai_M o_M_pack 0 4 k_M_pack
theorem mf_M_pack : ai_mono f_M_pack := M_mono mo_M_pack
abbrev cal_M_pack : List ai_I := []
theorem a_M_pack : ai_all "SuiteBench$Machine" prog_3_method_9_code 4 kc_M cal_M_pack 0 0 false none k_M_pack = true := by decide +kernel
theorem w_M_pack : ai_CW i_M_pack := ⟨(tk_mem (l := [((Jvm.Cond.code ({ cls := "SuiteBench$Machine", name := "pack", desc := "([II)V" } : Jvm.MethodName) prog_3_method_9_code (4 : Nat) (Option.none : Option Jvm.ClassFile.FieldType)), 6, 137)]) (by decide +kernel) _ (List.mem_singleton.mpr rfl)), (tk_mem (l := [((Jvm.Cond.initialized "SuiteBench$Machine"), 1, 5)]) (by decide +kernel) _ (List.mem_singleton.mpr rfl)), ⟨by decide +kernel, by decide +kernel, by decide +kernel⟩, ⟨(tk_mem (l := [((Jvm.Cond.instanceMethod ({ cls := "SuiteBench$Machine", name := "pack", desc := "([II)V" } : Jvm.MethodName)), 6, 135)]) (by decide +kernel) _ (List.mem_singleton.mpr rfl)), (tk_mem (l := [((Jvm.Cond.selects "SuiteBench$Machine" ({ cls := "SuiteBench$Machine", name := "pack", desc := "([II)V" } : Jvm.MethodName) ({ cls := "SuiteBench$Machine", name := "pack", desc := "([II)V" } : Jvm.MethodName)), 6, 136)]) (by decide +kernel) _ (List.mem_singleton.mpr rfl)), .inl ⟨_, _, rfl⟩⟩⟩
theorem c_M_pack {E2 : (Nat → Nat) → State → Heap → Prop} (hE : ai_XH E2) : ai_S E2 i_M_pack f_M_pack := snd_M (by decide) rfl (by decide) a_M_pack kc_M_ok (by rfl) (by decide) (fun a i h => by simp [cal_M_pack, ai_nth] at h)
def k_B_remember : ai_C := [
  [(0, .aload_n 0, 1, 0, 0, 0, 0, 0, []), (1, .getfield 339, 3, 11, 14, 24, 0, 14, []), (4, .bipush 20, 2, 0, 0, 0, 0, 20, []), (6, .if_icmp .ne 26, 3, 32, 0, 0, 0, 0, []), (9, .aload_n 0, 1, 0, 0, 0, 0, 0, []), (10, .aload_n 0, 1, 0, 0, 0, 0, 0, []), (11, .getfield 416, 3, 11, 13, 23, 0, 13, []), (14, .iconst 1, 1, 0, 0, 0, 0, 1, []), (15, .iadd, 1, 0, 0, 0, 0, 0, [])],
  [(16, .bipush 20, 2, 0, 0, 0, 0, 20, []), (18, .irem, 1, 0, 0, 0, 0, 0, []), (19, .putfield 416, 3, 11, 13, 23, 0, 13, []), (22, .aload_n 0, 1, 0, 0, 0, 0, 0, []), (23, .dup, 1, 0, 0, 0, 0, 0, []), (24, .getfield 339, 3, 11, 14, 24, 0, 14, []), (27, .iconst 1, 1, 0, 0, 0, 0, 1, []), (28, .isub, 1, 0, 0, 0, 0, 0, []), (29, .putfield 339, 3, 11, 14, 24, 0, 14, [])],
  [(32, .aload_n 0, 1, 0, 0, 0, 0, 0, []), (33, .getfield 30, 3, 11, 2, 7, 2, 2, []), (36, .aload_n 0, 1, 0, 0, 0, 0, 0, []), (37, .getfield 83, 3, 11, 9, 65, 2, 9, []), (40, .aload_n 0, 1, 0, 0, 0, 0, 0, []), (41, .invokevirtual 342, 3, 0, 1, 139, 0, 0, [(0, 11)]), (44, .invokevirtual 349, 3, 1, 3, 140, 9, 0, [(0, 1)]), (47, .aload_n 0, 1, 0, 0, 0, 0, 0, [])],
  [(48, .dup, 1, 0, 0, 0, 0, 0, []), (49, .getfield 339, 3, 11, 14, 24, 0, 14, []), (52, .iconst 1, 1, 0, 0, 0, 0, 1, []), (53, .iadd, 1, 0, 0, 0, 0, 0, []), (54, .putfield 339, 3, 11, 14, 24, 0, 14, []), (57, .return_, 1, 0, 0, 0, 0, 0, [])]]
def i_B_remember : ai_I := ((⟨"SuiteBench", "remember", "()V"⟩, prog_1_method_52_code, 1, none, 9, 1, 23, 0, 0, 0, 11) : ai_I)
def o_B_remember (a : Nat) : SP := match a with
  | 0 => f_B_pastSlot
  | 1 => f_M_pack
  | _ => fun _ _ _ _ _ => False
theorem mo_B_remember : ∀ a, ai_mono (o_B_remember a)
  | 0 => mf_B_pastSlot
  | 1 => mf_M_pack
  | _ + 2 => fun _ _ _ _ _ _ _ h => h
def f_B_remember : SP := ai_M o_B_remember 0 1 k_B_remember
theorem mf_B_remember : ai_mono f_B_remember := M_mono mo_B_remember
abbrev cal_B_remember : List ai_I := [i_B_pastSlot, i_M_pack]
theorem a_B_remember : ai_all "SuiteBench" prog_1_method_52_code 1 kc_B cal_B_remember 1 23 false none k_B_remember = true := by decide +kernel
theorem w_B_remember : ai_CW i_B_remember := ⟨(tk_mem (l := [((Jvm.Cond.code ({ cls := "SuiteBench", name := "remember", desc := "()V" } : Jvm.MethodName) prog_1_method_52_code (1 : Nat) (Option.none : Option Jvm.ClassFile.FieldType)), 6, 129)]) (by decide +kernel) _ (List.mem_singleton.mpr rfl)), (tk_mem (l := [((Jvm.Cond.initialized "SuiteBench"), 1, 1)]) (by decide +kernel) _ (List.mem_singleton.mpr rfl)), ⟨by decide +kernel, by decide +kernel, by decide +kernel⟩, ⟨(tk_mem (l := [((Jvm.Cond.instanceMethod ({ cls := "SuiteBench", name := "remember", desc := "()V" } : Jvm.MethodName)), 6, 128)]) (by decide +kernel) _ (List.mem_singleton.mpr rfl)), gw_sel 63 (by decide +kernel), .inl ⟨_, _, rfl⟩⟩⟩
theorem c_B_remember {E2 : (Nat → Nat) → State → Heap → Prop} (hE : ai_XH E2) : ai_S E2 i_B_remember f_B_remember := snd_M (by decide) rfl (by decide) a_B_remember kc_B_ok (by rfl) (by decide) (fun a i h => match a, h with
    | 0, h => by cases h; exact ⟨c_B_pastSlot hE, w_B_pastSlot⟩
    | 1, h => by cases h; exact ⟨c_M_pack hE, w_M_pack⟩
    | _ + 2, h => by simp [cal_B_remember, ai_nth] at h)
def k_B_twist : ai_C := [
  [(0, .aload_n 0, 1, 0, 0, 0, 0, 0, []), (1, .getfield 30, 3, 11, 2, 7, 2, 2, []), (4, .iload_n 1, 1, 1, 0, 0, 0, 0, []), (5, .iload_n 2, 1, 2, 0, 0, 0, 0, []), (6, .invokevirtual 127, 3, 0, 3, 78, 0, 0, [(0, 1)]), (9, .ifCond .eq 30, 3, 39, 0, 0, 0, 0, []), (12, .iload_n 3, 1, 3, 0, 0, 0, 0, []), (13, .ifCond .lt 26, 3, 39, 0, 0, 0, 0, [])],
  [(16, .iload_n 3, 1, 3, 0, 0, 0, 0, []), (17, .aload_n 0, 1, 0, 0, 0, 0, 0, []), (18, .getfield 30, 3, 11, 2, 7, 2, 2, []), (21, .getfield 166, 3, 1, 2, 80, 0, 2, []), (24, .if_icmp .ge 15, 3, 39, 0, 0, 0, 0, []), (27, .iload 4, 2, 4, 0, 0, 0, 0, []), (29, .ifCond .lt 10, 3, 39, 0, 0, 0, 0, [])],
  [(32, .iload 4, 2, 4, 0, 0, 0, 0, []), (34, .bipush 9, 2, 0, 0, 0, 0, 9, []), (36, .if_icmp .le 5, 3, 41, 0, 0, 0, 0, []), (39, .iconst 0, 1, 0, 0, 0, 0, 0, []), (40, .ireturn, 1, 0, 0, 0, 3, 0, []), (41, .aload_n 0, 1, 0, 0, 0, 0, 0, []), (42, .invokevirtual 325, 3, 1, 1, 141, 9, 0, [(0, 11)]), (45, .aload_n 0, 1, 0, 0, 0, 0, 0, []), (46, .getfield 30, 3, 11, 2, 7, 2, 2, [])],
  [(49, .iload_n 1, 1, 1, 0, 0, 0, 0, []), (50, .iload_n 2, 1, 2, 0, 0, 0, 0, []), (51, .iload_n 3, 1, 3, 0, 0, 0, 0, []), (52, .iload 4, 2, 4, 0, 0, 0, 0, []), (54, .invokevirtual 328, 3, 2, 5, 142, 9, 0, [(0, 1)]), (57, .iconst 1, 1, 0, 0, 0, 0, 1, []), (58, .ireturn, 1, 0, 0, 0, 3, 0, [])]]
def i_B_twist : ai_I := ((⟨"SuiteBench", "twist", "(IIII)Z"⟩, prog_1_method_37_code, 5, (some .boolean), 3, 2, 43, 0, 4, 0, 11) : ai_I)
def o_B_twist (a : Nat) : SP := match a with
  | 0 => f_M_has
  | 1 => f_B_remember
  | 2 => f_M_set
  | _ => fun _ _ _ _ _ => False
theorem mo_B_twist : ∀ a, ai_mono (o_B_twist a)
  | 0 => mf_M_has
  | 1 => mf_B_remember
  | 2 => mf_M_set
  | _ + 3 => fun _ _ _ _ _ _ _ h => h
def f_B_twist : SP := ai_M o_B_twist 0 5 k_B_twist
theorem mf_B_twist : ai_mono f_B_twist := M_mono mo_B_twist
abbrev cal_B_twist : List ai_I := [i_M_has, i_B_remember, i_M_set]
theorem a_B_twist : ai_all "SuiteBench" prog_1_method_37_code 5 kc_B cal_B_twist 2 43 false (some .boolean) k_B_twist = true := by decide +kernel
theorem w_B_twist : ai_CW i_B_twist := ⟨(tk_mem (l := [((Jvm.Cond.code ({ cls := "SuiteBench", name := "twist", desc := "(IIII)Z" } : Jvm.MethodName) prog_1_method_37_code (5 : Nat) (Option.some Jvm.ClassFile.FieldType.boolean)), 6, 125)]) (by decide +kernel) _ (List.mem_singleton.mpr rfl)), (tk_mem (l := [((Jvm.Cond.initialized "SuiteBench"), 1, 1)]) (by decide +kernel) _ (List.mem_singleton.mpr rfl)), ⟨by decide +kernel, by decide +kernel, by decide +kernel⟩, ⟨(tk_mem (l := [((Jvm.Cond.instanceMethod ({ cls := "SuiteBench", name := "twist", desc := "(IIII)Z" } : Jvm.MethodName)), 6, 123)]) (by decide +kernel) _ (List.mem_singleton.mpr rfl)), (tk_mem (l := [((Jvm.Cond.selects "SuiteBench" ({ cls := "SuiteBench", name := "twist", desc := "(IIII)Z" } : Jvm.MethodName) ({ cls := "SuiteBench", name := "twist", desc := "(IIII)Z" } : Jvm.MethodName)), 6, 124)]) (by decide +kernel) _ (List.mem_singleton.mpr rfl)), .inl ⟨_, _, rfl⟩⟩⟩
theorem c_B_twist {E2 : (Nat → Nat) → State → Heap → Prop} (hE : ai_XH E2) : ai_S E2 i_B_twist f_B_twist := snd_M (by decide) rfl (by decide) a_B_twist kc_B_ok (by rfl) (by decide) (fun a i h => match a, h with
    | 0, h => by cases h; exact ⟨c_M_has hE, w_M_has⟩
    | 1, h => by cases h; exact ⟨c_B_remember hE, w_B_remember⟩
    | 2, h => by cases h; exact ⟨c_M_set hE, w_M_set⟩
    | _ + 3, h => by simp [cal_B_twist, ai_nth] at h)
def k_N_copies : ai_C := [
  [(0, .iconst 0, 1, 0, 0, 0, 0, 0, []), (1, .istore_n 3, 1, 3, 0, 0, 0, 0, []), (2, .iload_n 3, 1, 3, 0, 0, 0, 0, []), (3, .bipush 24, 2, 0, 0, 0, 0, 24, []), (5, .if_icmp .ge 102, 3, 107, 0, 0, 0, 0, []), (8, .iload_n 2, 1, 2, 0, 0, 0, 0, []), (9, .ifCond .eq 49, 3, 58, 0, 0, 0, 0, []), (12, .aload_n 0, 1, 0, 0, 0, 0, 0, []), (13, .getfield 38, 3, 12, 20, 4, 2, 20, [])],
  [(16, .bipush 24, 2, 0, 0, 0, 0, 24, []), (18, .iload_n 3, 1, 3, 0, 0, 0, 0, []), (19, .iadd, 1, 0, 0, 0, 0, 0, []), (20, .aload_n 0, 1, 0, 0, 0, 0, 0, []), (21, .getfield 139, 3, 12, 66, 65, 2, 66, []), (24, .bipush 48, 2, 0, 0, 0, 0, 48, []), (26, .iload_n 1, 1, 1, 0, 0, 0, 0, []), (27, .imul, 1, 0, 0, 0, 0, 0, []), (28, .iload_n 3, 1, 3, 0, 0, 0, 0, []), (29, .iadd, 1, 0, 0, 0, 0, 0, []), (30, .iaload, 1, 0, 0, 0, 0, 0, []), (31, .iastore, 1, 0, 0, 0, 0, 0, [])],
  [(32, .aload_n 0, 1, 0, 0, 0, 0, 0, []), (33, .getfield 41, 3, 12, 21, 10, 2, 21, []), (36, .bipush 24, 2, 0, 0, 0, 0, 24, []), (38, .iload_n 3, 1, 3, 0, 0, 0, 0, []), (39, .iadd, 1, 0, 0, 0, 0, 0, []), (40, .aload_n 0, 1, 0, 0, 0, 0, 0, []), (41, .getfield 139, 3, 12, 66, 65, 2, 66, []), (44, .bipush 48, 2, 0, 0, 0, 0, 48, []), (46, .iload_n 1, 1, 1, 0, 0, 0, 0, []), (47, .imul, 1, 0, 0, 0, 0, 0, [])],
  [(48, .bipush 24, 2, 0, 0, 0, 0, 24, []), (50, .iadd, 1, 0, 0, 0, 0, 0, []), (51, .iload_n 3, 1, 3, 0, 0, 0, 0, []), (52, .iadd, 1, 0, 0, 0, 0, 0, []), (53, .iaload, 1, 0, 0, 0, 0, 0, []), (54, .iastore, 1, 0, 0, 0, 0, 0, []), (55, .goto 46, 3, 101, 0, 0, 0, 0, []), (58, .aload_n 0, 1, 0, 0, 0, 0, 0, []), (59, .getfield 139, 3, 12, 66, 65, 2, 66, []), (62, .bipush 48, 2, 0, 0, 0, 0, 48, [])],
  [(64, .iload_n 1, 1, 1, 0, 0, 0, 0, []), (65, .imul, 1, 0, 0, 0, 0, 0, []), (66, .iload_n 3, 1, 3, 0, 0, 0, 0, []), (67, .iadd, 1, 0, 0, 0, 0, 0, []), (68, .aload_n 0, 1, 0, 0, 0, 0, 0, []), (69, .getfield 38, 3, 12, 20, 4, 2, 20, []), (72, .bipush 24, 2, 0, 0, 0, 0, 24, []), (74, .iload_n 3, 1, 3, 0, 0, 0, 0, []), (75, .iadd, 1, 0, 0, 0, 0, 0, []), (76, .iaload, 1, 0, 0, 0, 0, 0, []), (77, .iastore, 1, 0, 0, 0, 0, 0, []), (78, .aload_n 0, 1, 0, 0, 0, 0, 0, []), (79, .getfield 139, 3, 12, 66, 65, 2, 66, [])],
  [(82, .bipush 48, 2, 0, 0, 0, 0, 48, []), (84, .iload_n 1, 1, 1, 0, 0, 0, 0, []), (85, .imul, 1, 0, 0, 0, 0, 0, []), (86, .bipush 24, 2, 0, 0, 0, 0, 24, []), (88, .iadd, 1, 0, 0, 0, 0, 0, []), (89, .iload_n 3, 1, 3, 0, 0, 0, 0, []), (90, .iadd, 1, 0, 0, 0, 0, 0, []), (91, .aload_n 0, 1, 0, 0, 0, 0, 0, []), (92, .getfield 41, 3, 12, 21, 10, 2, 21, []), (95, .bipush 24, 2, 0, 0, 0, 0, 24, [])],
  [(97, .iload_n 3, 1, 3, 0, 0, 0, 0, []), (98, .iadd, 1, 0, 0, 0, 0, 0, []), (99, .iaload, 1, 0, 0, 0, 0, 0, []), (100, .iastore, 1, 0, 0, 0, 0, 0, []), (101, .iinc 3 1, 3, 3, 0, 0, 0, 1, []), (104, .goto (-102), 3, 2, 0, 0, 0, 0, []), (107, .return_, 1, 0, 0, 0, 0, 0, [])]]
def i_N_copies : ai_I := ((⟨"SuiteBenchModel", "copies", "(IZ)V"⟩, prog_14_method_126_code, 4, none, 9, 0, 0, 0, 2, 0, 12) : ai_I)
def o_N_copies (_ : Nat) : SP := fun _ _ _ _ _ => False
theorem mo_N_copies : ∀ a, ai_mono (o_N_copies a) := fun _ _ _ _ _ _ _ _ h => h
def f_N_copies : SP := ai_M o_N_copies 0 4 k_N_copies
theorem mf_N_copies : ai_mono f_N_copies := M_mono mo_N_copies
abbrev cal_N_copies : List ai_I := []
theorem a_N_copies : ai_all "SuiteBenchModel" prog_14_method_126_code 4 kc_N cal_N_copies 0 0 false none k_N_copies = true := by decide +kernel
theorem w_N_copies : ai_CW i_N_copies := ⟨(tk_mem (l := [((Jvm.Cond.code ({ cls := "SuiteBenchModel", name := "copies", desc := "(IZ)V" } : Jvm.MethodName) prog_14_method_126_code (4 : Nat) (Option.none : Option Jvm.ClassFile.FieldType)), 10, 86)]) (by decide +kernel) _ (List.mem_singleton.mpr rfl)), (tk_mem (l := [((Jvm.Cond.initialized "SuiteBenchModel"), 1, 15)]) (by decide +kernel) _ (List.mem_singleton.mpr rfl)), ⟨by decide +kernel, by decide +kernel, by decide +kernel⟩, ⟨(tk_mem (l := [((Jvm.Cond.instanceMethod ({ cls := "SuiteBenchModel", name := "copies", desc := "(IZ)V" } : Jvm.MethodName)), 10, 85)]) (by decide +kernel) _ (List.mem_singleton.mpr rfl)), gw_sel 147 (by decide +kernel), .inl ⟨_, _, rfl⟩⟩⟩
theorem c_N_copies {E2 : (Nat → Nat) → State → Heap → Prop} (hE : ai_XH E2) : ai_S E2 i_N_copies f_N_copies := snd_M (by decide) rfl (by decide) a_N_copies kc_N_ok (by rfl) (by decide) (fun a i h => by simp [cal_N_copies, ai_nth] at h)
def k_N_remembers : ai_C := [
  [(0, .aload_n 0, 1, 0, 0, 0, 0, 0, []), (1, .getfield 278, 3, 12, 67, 33, 0, 67, []), (4, .bipush 20, 2, 0, 0, 0, 0, 20, []), (6, .if_icmp .ne 43, 3, 49, 0, 0, 0, 0, []), (9, .iconst 0, 1, 0, 0, 0, 0, 0, []), (10, .istore_n 1, 1, 1, 0, 0, 0, 0, []), (11, .iload_n 1, 1, 1, 0, 0, 0, 0, []), (12, .sipush 912, 3, 0, 0, 0, 0, 912, []), (15, .if_icmp .ge 24, 3, 39, 0, 0, 0, 0, [])],
  [(18, .aload_n 0, 1, 0, 0, 0, 0, 0, []), (19, .getfield 139, 3, 12, 66, 65, 2, 66, []), (22, .iload_n 1, 1, 1, 0, 0, 0, 0, []), (23, .aload_n 0, 1, 0, 0, 0, 0, 0, []), (24, .getfield 139, 3, 12, 66, 65, 2, 66, []), (27, .bipush 48, 2, 0, 0, 0, 0, 48, []), (29, .iload_n 1, 1, 1, 0, 0, 0, 0, []), (30, .iadd, 1, 0, 0, 0, 0, 0, []), (31, .iaload, 1, 0, 0, 0, 0, 0, [])],
  [(32, .iastore, 1, 0, 0, 0, 0, 0, []), (33, .iinc 1 1, 3, 1, 0, 0, 0, 1, []), (36, .goto (-25), 3, 11, 0, 0, 0, 0, []), (39, .aload_n 0, 1, 0, 0, 0, 0, 0, []), (40, .dup, 1, 0, 0, 0, 0, 0, []), (41, .getfield 278, 3, 12, 67, 33, 0, 67, []), (44, .iconst 1, 1, 0, 0, 0, 0, 1, []), (45, .isub, 1, 0, 0, 0, 0, 0, []), (46, .putfield 278, 3, 12, 67, 33, 0, 67, [])],
  [(49, .aload_n 0, 1, 0, 0, 0, 0, 0, []), (50, .aload_n 0, 1, 0, 0, 0, 0, 0, []), (51, .getfield 278, 3, 12, 67, 33, 0, 67, []), (54, .iconst 0, 1, 0, 0, 0, 0, 0, []), (55, .invokevirtual 520, 3, 0, 3, 170, 9, 0, [(0, 12)]), (58, .aload_n 0, 1, 0, 0, 0, 0, 0, []), (59, .dup, 1, 0, 0, 0, 0, 0, []), (60, .getfield 278, 3, 12, 67, 33, 0, 67, []), (63, .iconst 1, 1, 0, 0, 0, 0, 1, [])],
  [(64, .iadd, 1, 0, 0, 0, 0, 0, []), (65, .putfield 278, 3, 12, 67, 33, 0, 67, []), (68, .return_, 1, 0, 0, 0, 0, 0, [])]]
def i_N_remembers : ai_I := ((⟨"SuiteBenchModel", "remembers", "()V"⟩, prog_14_method_127_code, 2, none, 9, 1, 23, 0, 0, 0, 12) : ai_I)
def o_N_remembers (a : Nat) : SP := match a with
  | 0 => f_N_copies
  | _ => fun _ _ _ _ _ => False
theorem mo_N_remembers : ∀ a, ai_mono (o_N_remembers a)
  | 0 => mf_N_copies
  | _ + 1 => fun _ _ _ _ _ _ _ h => h
def f_N_remembers : SP := ai_M o_N_remembers 0 2 k_N_remembers
theorem mf_N_remembers : ai_mono f_N_remembers := M_mono mo_N_remembers
abbrev cal_N_remembers : List ai_I := [i_N_copies]
theorem a_N_remembers : ai_all "SuiteBenchModel" prog_14_method_127_code 2 kc_N cal_N_remembers 1 23 false none k_N_remembers = true := by decide +kernel
theorem w_N_remembers : ai_CW i_N_remembers := ⟨(tk_mem (l := [((Jvm.Cond.code ({ cls := "SuiteBenchModel", name := "remembers", desc := "()V" } : Jvm.MethodName) prog_14_method_127_code (2 : Nat) (Option.none : Option Jvm.ClassFile.FieldType)), 10, 82)]) (by decide +kernel) _ (List.mem_singleton.mpr rfl)), (tk_mem (l := [((Jvm.Cond.initialized "SuiteBenchModel"), 1, 15)]) (by decide +kernel) _ (List.mem_singleton.mpr rfl)), ⟨by decide +kernel, by decide +kernel, by decide +kernel⟩, ⟨(tk_mem (l := [((Jvm.Cond.instanceMethod ({ cls := "SuiteBenchModel", name := "remembers", desc := "()V" } : Jvm.MethodName)), 10, 81)]) (by decide +kernel) _ (List.mem_singleton.mpr rfl)), gw_sel 146 (by decide +kernel), .inl ⟨_, _, rfl⟩⟩⟩
theorem c_N_remembers {E2 : (Nat → Nat) → State → Heap → Prop} (hE : ai_XH E2) : ai_S E2 i_N_remembers f_N_remembers := snd_M (by decide) rfl (by decide) a_N_remembers kc_N_ok (by rfl) (by decide) (fun a i h => match a, h with
    | 0, h => by cases h; exact ⟨c_N_copies hE, w_N_copies⟩
    | _ + 1, h => by simp [cal_N_remembers, ai_nth] at h)
def k_N_twist : ai_C := [
  [(0, .aload_n 0, 1, 0, 0, 0, 0, 0, []), (1, .iconst 0, 1, 0, 0, 0, 0, 0, []), (2, .putfield 145, 3, 12, 0, 67, 0, 0, []), (5, .aload_n 0, 1, 0, 0, 0, 0, 0, []), (6, .iload_n 1, 1, 1, 0, 0, 0, 0, []), (7, .invokevirtual 313, 3, 0, 2, 107, 0, 0, [(0, 12)]), (10, .ifCond .eq 31, 3, 41, 0, 0, 0, 0, []), (13, .aload_n 0, 1, 0, 0, 0, 0, 0, []), (14, .iload_n 2, 1, 2, 0, 0, 0, 0, []), (15, .invokevirtual 310, 3, 1, 2, 106, 0, 0, [(0, 12)])],
  [(18, .ifCond .eq 23, 3, 41, 0, 0, 0, 0, []), (21, .aload_n 0, 1, 0, 0, 0, 0, 0, []), (22, .iload_n 3, 1, 3, 0, 0, 0, 0, []), (23, .invokevirtual 313, 3, 0, 2, 107, 0, 0, [(0, 12)]), (26, .ifCond .eq 15, 3, 41, 0, 0, 0, 0, []), (29, .iload 4, 2, 4, 0, 0, 0, 0, []), (31, .ifCond .lt 10, 3, 41, 0, 0, 0, 0, [])],
  [(34, .iload 4, 2, 4, 0, 0, 0, 0, []), (36, .bipush 9, 2, 0, 0, 0, 0, 9, []), (38, .if_icmp .le 5, 3, 43, 0, 0, 0, 0, []), (41, .iconst 0, 1, 0, 0, 0, 0, 0, []), (42, .ireturn, 1, 0, 0, 0, 3, 0, []), (43, .aload_n 0, 1, 0, 0, 0, 0, 0, []), (44, .invokevirtual 524, 3, 2, 1, 171, 9, 0, [(0, 12)]), (47, .aload_n 0, 1, 0, 0, 0, 0, 0, [])],
  [(48, .getfield 38, 3, 12, 20, 4, 2, 20, []), (51, .bipush 24, 2, 0, 0, 0, 0, 24, []), (53, .iconst 3, 1, 0, 0, 0, 0, 3, []), (54, .iload_n 1, 1, 1, 0, 0, 0, 0, []), (55, .imul, 1, 0, 0, 0, 0, 0, []), (56, .iadd, 1, 0, 0, 0, 0, 0, []), (57, .iload_n 2, 1, 2, 0, 0, 0, 0, []), (58, .iadd, 1, 0, 0, 0, 0, 0, []), (59, .iload_n 3, 1, 3, 0, 0, 0, 0, []), (60, .iastore, 1, 0, 0, 0, 0, 0, []), (61, .aload_n 0, 1, 0, 0, 0, 0, 0, []), (62, .getfield 41, 3, 12, 21, 10, 2, 21, [])],
  [(65, .bipush 24, 2, 0, 0, 0, 0, 24, []), (67, .iconst 3, 1, 0, 0, 0, 0, 3, []), (68, .iload_n 1, 1, 1, 0, 0, 0, 0, []), (69, .imul, 1, 0, 0, 0, 0, 0, []), (70, .iadd, 1, 0, 0, 0, 0, 0, []), (71, .iload_n 2, 1, 2, 0, 0, 0, 0, []), (72, .iadd, 1, 0, 0, 0, 0, 0, []), (73, .iload 4, 2, 4, 0, 0, 0, 0, []), (75, .iastore, 1, 0, 0, 0, 0, 0, []), (76, .iconst 1, 1, 0, 0, 0, 0, 1, []), (77, .ireturn, 1, 0, 0, 0, 3, 0, [])]]
def i_N_twist : ai_I := ((⟨"SuiteBenchModel", "twist", "(IIII)Z"⟩, prog_14_method_128_code, 5, (some .boolean), 3, 2, 44, 0, 4, 0, 12) : ai_I)
def o_N_twist (a : Nat) : SP := match a with
  | 0 => f_N_isPlace
  | 1 => f_N_isInput
  | 2 => f_N_remembers
  | _ => fun _ _ _ _ _ => False
theorem mo_N_twist : ∀ a, ai_mono (o_N_twist a)
  | 0 => mf_N_isPlace
  | 1 => mf_N_isInput
  | 2 => mf_N_remembers
  | _ + 3 => fun _ _ _ _ _ _ _ h => h
def f_N_twist : SP := ai_M o_N_twist 0 5 k_N_twist
theorem mf_N_twist : ai_mono f_N_twist := M_mono mo_N_twist
abbrev cal_N_twist : List ai_I := [i_N_isPlace, i_N_isInput, i_N_remembers]
theorem a_N_twist : ai_all "SuiteBenchModel" prog_14_method_128_code 5 kc_N cal_N_twist 2 44 false (some .boolean) k_N_twist = true := by decide +kernel
theorem w_N_twist : ai_CW i_N_twist := ⟨(tk_mem (l := [((Jvm.Cond.code ({ cls := "SuiteBenchModel", name := "twist", desc := "(IIII)Z" } : Jvm.MethodName) prog_14_method_128_code (5 : Nat) (Option.some Jvm.ClassFile.FieldType.boolean)), 10, 78)]) (by decide +kernel) _ (List.mem_singleton.mpr rfl)), (tk_mem (l := [((Jvm.Cond.initialized "SuiteBenchModel"), 1, 15)]) (by decide +kernel) _ (List.mem_singleton.mpr rfl)), ⟨by decide +kernel, by decide +kernel, by decide +kernel⟩, ⟨(tk_mem (l := [((Jvm.Cond.instanceMethod ({ cls := "SuiteBenchModel", name := "twist", desc := "(IIII)Z" } : Jvm.MethodName)), 10, 76)]) (by decide +kernel) _ (List.mem_singleton.mpr rfl)), (tk_mem (l := [((Jvm.Cond.selects "SuiteBenchModel" ({ cls := "SuiteBenchModel", name := "twist", desc := "(IIII)Z" } : Jvm.MethodName) ({ cls := "SuiteBenchModel", name := "twist", desc := "(IIII)Z" } : Jvm.MethodName)), 10, 77)]) (by decide +kernel) _ (List.mem_singleton.mpr rfl)), .inl ⟨_, _, rfl⟩⟩⟩
theorem c_N_twist {E2 : (Nat → Nat) → State → Heap → Prop} (hE : ai_XH E2) : ai_S E2 i_N_twist f_N_twist := snd_M (by decide) rfl (by decide) a_N_twist kc_N_ok (by rfl) (by decide) (fun a i h => match a, h with
    | 0, h => by cases h; exact ⟨c_N_isPlace hE, w_N_isPlace⟩
    | 1, h => by cases h; exact ⟨c_N_isInput hE, w_N_isInput⟩
    | 2, h => by cases h; exact ⟨c_N_remembers hE, w_N_remembers⟩
    | _ + 3, h => by simp [cal_N_twist, ai_nth] at h)
def k_B_mend : ai_C := [
  [(0, .aload_n 0, 1, 0, 0, 0, 0, 0, []), (1, .getfield 30, 3, 11, 2, 7, 2, 2, []), (4, .iload_n 1, 1, 1, 0, 0, 0, 0, []), (5, .iload_n 2, 1, 2, 0, 0, 0, 0, []), (6, .invokevirtual 127, 3, 0, 3, 78, 0, 0, [(0, 1)]), (9, .ifCond .ne 5, 3, 14, 0, 0, 0, 0, []), (12, .iconst 0, 1, 0, 0, 0, 0, 0, []), (13, .ireturn, 1, 0, 0, 0, 3, 0, []), (14, .aload_n 0, 1, 0, 0, 0, 0, 0, []), (15, .invokevirtual 325, 3, 1, 1, 141, 9, 0, [(0, 11)])],
  [(18, .aload_n 0, 1, 0, 0, 0, 0, 0, []), (19, .getfield 30, 3, 11, 2, 7, 2, 2, []), (22, .iload_n 1, 1, 1, 0, 0, 0, 0, []), (23, .iload_n 2, 1, 2, 0, 0, 0, 0, []), (24, .aload_n 0, 1, 0, 0, 0, 0, 0, []), (25, .getfield 26, 3, 11, 1, 0, 2, 1, []), (28, .iload_n 1, 1, 1, 0, 0, 0, 0, []), (29, .iload_n 2, 1, 2, 0, 0, 0, 0, []), (30, .iconst 0, 1, 0, 0, 0, 0, 0, []), (31, .invokevirtual 143, 3, 2, 4, 79, 0, 0, [(0, 1)])],
  [(34, .aload_n 0, 1, 0, 0, 0, 0, 0, []), (35, .getfield 26, 3, 11, 1, 0, 2, 1, []), (38, .iload_n 1, 1, 1, 0, 0, 0, 0, []), (39, .iload_n 2, 1, 2, 0, 0, 0, 0, []), (40, .iconst 1, 1, 0, 0, 0, 0, 1, []), (41, .invokevirtual 143, 3, 2, 4, 79, 0, 0, [(0, 1)]), (44, .invokevirtual 328, 3, 3, 5, 142, 9, 0, [(0, 1)]), (47, .iconst 1, 1, 0, 0, 0, 0, 1, [])],
  [(48, .ireturn, 1, 0, 0, 0, 3, 0, [])]]
def i_B_mend : ai_I := ((⟨"SuiteBench", "mend", "(II)Z"⟩, prog_1_method_38_code, 3, (some .boolean), 3, 2, 43, 0, 2, 0, 11) : ai_I)
def o_B_mend (a : Nat) : SP := match a with
  | 0 => f_M_has
  | 1 => f_B_remember
  | 2 => f_M_part
  | 3 => f_M_set
  | _ => fun _ _ _ _ _ => False
theorem mo_B_mend : ∀ a, ai_mono (o_B_mend a)
  | 0 => mf_M_has
  | 1 => mf_B_remember
  | 2 => mf_M_part
  | 3 => mf_M_set
  | _ + 4 => fun _ _ _ _ _ _ _ h => h
def f_B_mend : SP := ai_M o_B_mend 0 3 k_B_mend
theorem mf_B_mend : ai_mono f_B_mend := M_mono mo_B_mend
abbrev cal_B_mend : List ai_I := [i_M_has, i_B_remember, i_M_part, i_M_set]
theorem a_B_mend : ai_all "SuiteBench" prog_1_method_38_code 3 kc_B cal_B_mend 2 43 false (some .boolean) k_B_mend = true := by decide +kernel
theorem w_B_mend : ai_CW i_B_mend := ⟨(tk_mem (l := [((Jvm.Cond.code ({ cls := "SuiteBench", name := "mend", desc := "(II)Z" } : Jvm.MethodName) prog_1_method_38_code (3 : Nat) (Option.some Jvm.ClassFile.FieldType.boolean)), 6, 142)]) (by decide +kernel) _ (List.mem_singleton.mpr rfl)), (tk_mem (l := [((Jvm.Cond.initialized "SuiteBench"), 1, 1)]) (by decide +kernel) _ (List.mem_singleton.mpr rfl)), ⟨by decide +kernel, by decide +kernel, by decide +kernel⟩, ⟨(tk_mem (l := [((Jvm.Cond.instanceMethod ({ cls := "SuiteBench", name := "mend", desc := "(II)Z" } : Jvm.MethodName)), 6, 140)]) (by decide +kernel) _ (List.mem_singleton.mpr rfl)), (tk_mem (l := [((Jvm.Cond.selects "SuiteBench" ({ cls := "SuiteBench", name := "mend", desc := "(II)Z" } : Jvm.MethodName) ({ cls := "SuiteBench", name := "mend", desc := "(II)Z" } : Jvm.MethodName)), 6, 141)]) (by decide +kernel) _ (List.mem_singleton.mpr rfl)), .inl ⟨_, _, rfl⟩⟩⟩
theorem c_B_mend {E2 : (Nat → Nat) → State → Heap → Prop} (hE : ai_XH E2) : ai_S E2 i_B_mend f_B_mend := snd_M (by decide) rfl (by decide) a_B_mend kc_B_ok (by rfl) (by decide) (fun a i h => match a, h with
    | 0, h => by cases h; exact ⟨c_M_has hE, w_M_has⟩
    | 1, h => by cases h; exact ⟨c_B_remember hE, w_B_remember⟩
    | 2, h => by cases h; exact ⟨c_M_part hE, w_M_part⟩
    | 3, h => by cases h; exact ⟨c_M_set hE, w_M_set⟩
    | _ + 4, h => by simp [cal_B_mend, ai_nth] at h)
def k_N_mend : ai_C := [
  [(0, .aload_n 0, 1, 0, 0, 0, 0, 0, []), (1, .iconst 0, 1, 0, 0, 0, 0, 0, []), (2, .putfield 145, 3, 12, 0, 67, 0, 0, []), (5, .aload_n 0, 1, 0, 0, 0, 0, 0, []), (6, .iload_n 1, 1, 1, 0, 0, 0, 0, []), (7, .invokevirtual 313, 3, 0, 2, 107, 0, 0, [(0, 12)]), (10, .ifCond .eq 11, 3, 21, 0, 0, 0, 0, []), (13, .aload_n 0, 1, 0, 0, 0, 0, 0, []), (14, .iload_n 2, 1, 2, 0, 0, 0, 0, []), (15, .invokevirtual 310, 3, 1, 2, 106, 0, 0, [(0, 12)])],
  [(18, .ifCond .ne 5, 3, 23, 0, 0, 0, 0, []), (21, .iconst 0, 1, 0, 0, 0, 0, 0, []), (22, .ireturn, 1, 0, 0, 0, 3, 0, []), (23, .aload_n 0, 1, 0, 0, 0, 0, 0, []), (24, .invokevirtual 524, 3, 2, 1, 171, 9, 0, [(0, 12)]), (27, .iconst 3, 1, 0, 0, 0, 0, 3, []), (28, .iload_n 1, 1, 1, 0, 0, 0, 0, []), (29, .imul, 1, 0, 0, 0, 0, 0, []), (30, .iload_n 2, 1, 2, 0, 0, 0, 0, []), (31, .iadd, 1, 0, 0, 0, 0, 0, [])],
  [(32, .istore_n 3, 1, 3, 0, 0, 0, 0, []), (33, .aload_n 0, 1, 0, 0, 0, 0, 0, []), (34, .getfield 38, 3, 12, 20, 4, 2, 20, []), (37, .bipush 24, 2, 0, 0, 0, 0, 24, []), (39, .iload_n 3, 1, 3, 0, 0, 0, 0, []), (40, .iadd, 1, 0, 0, 0, 0, 0, []), (41, .aload_n 0, 1, 0, 0, 0, 0, 0, []), (42, .getfield 38, 3, 12, 20, 4, 2, 20, []), (45, .iconst 0, 1, 0, 0, 0, 0, 0, []), (46, .iload_n 3, 1, 3, 0, 0, 0, 0, []), (47, .iadd, 1, 0, 0, 0, 0, 0, [])],
  [(48, .iaload, 1, 0, 0, 0, 0, 0, []), (49, .iastore, 1, 0, 0, 0, 0, 0, []), (50, .aload_n 0, 1, 0, 0, 0, 0, 0, []), (51, .getfield 41, 3, 12, 21, 10, 2, 21, []), (54, .bipush 24, 2, 0, 0, 0, 0, 24, []), (56, .iload_n 3, 1, 3, 0, 0, 0, 0, []), (57, .iadd, 1, 0, 0, 0, 0, 0, []), (58, .aload_n 0, 1, 0, 0, 0, 0, 0, []), (59, .getfield 41, 3, 12, 21, 10, 2, 21, []), (62, .iconst 0, 1, 0, 0, 0, 0, 0, []), (63, .iload_n 3, 1, 3, 0, 0, 0, 0, [])],
  [(64, .iadd, 1, 0, 0, 0, 0, 0, []), (65, .iaload, 1, 0, 0, 0, 0, 0, []), (66, .iastore, 1, 0, 0, 0, 0, 0, []), (67, .iconst 1, 1, 0, 0, 0, 0, 1, []), (68, .ireturn, 1, 0, 0, 0, 3, 0, [])]]
def i_N_mend : ai_I := ((⟨"SuiteBenchModel", "mend", "(II)Z"⟩, prog_14_method_129_code, 4, (some .boolean), 3, 2, 44, 0, 2, 0, 12) : ai_I)
def o_N_mend (a : Nat) : SP := match a with
  | 0 => f_N_isPlace
  | 1 => f_N_isInput
  | 2 => f_N_remembers
  | _ => fun _ _ _ _ _ => False
theorem mo_N_mend : ∀ a, ai_mono (o_N_mend a)
  | 0 => mf_N_isPlace
  | 1 => mf_N_isInput
  | 2 => mf_N_remembers
  | _ + 3 => fun _ _ _ _ _ _ _ h => h
def f_N_mend : SP := ai_M o_N_mend 0 4 k_N_mend
theorem mf_N_mend : ai_mono f_N_mend := M_mono mo_N_mend
abbrev cal_N_mend : List ai_I := [i_N_isPlace, i_N_isInput, i_N_remembers]
theorem a_N_mend : ai_all "SuiteBenchModel" prog_14_method_129_code 4 kc_N cal_N_mend 2 44 false (some .boolean) k_N_mend = true := by decide +kernel
theorem w_N_mend : ai_CW i_N_mend := ⟨(tk_mem (l := [((Jvm.Cond.code ({ cls := "SuiteBenchModel", name := "mend", desc := "(II)Z" } : Jvm.MethodName) prog_14_method_129_code (4 : Nat) (Option.some Jvm.ClassFile.FieldType.boolean)), 10, 90)]) (by decide +kernel) _ (List.mem_singleton.mpr rfl)), (tk_mem (l := [((Jvm.Cond.initialized "SuiteBenchModel"), 1, 15)]) (by decide +kernel) _ (List.mem_singleton.mpr rfl)), ⟨by decide +kernel, by decide +kernel, by decide +kernel⟩, ⟨(tk_mem (l := [((Jvm.Cond.instanceMethod ({ cls := "SuiteBenchModel", name := "mend", desc := "(II)Z" } : Jvm.MethodName)), 10, 88)]) (by decide +kernel) _ (List.mem_singleton.mpr rfl)), (tk_mem (l := [((Jvm.Cond.selects "SuiteBenchModel" ({ cls := "SuiteBenchModel", name := "mend", desc := "(II)Z" } : Jvm.MethodName) ({ cls := "SuiteBenchModel", name := "mend", desc := "(II)Z" } : Jvm.MethodName)), 10, 89)]) (by decide +kernel) _ (List.mem_singleton.mpr rfl)), .inl ⟨_, _, rfl⟩⟩⟩
theorem c_N_mend {E2 : (Nat → Nat) → State → Heap → Prop} (hE : ai_XH E2) : ai_S E2 i_N_mend f_N_mend := snd_M (by decide) rfl (by decide) a_N_mend kc_N_ok (by rfl) (by decide) (fun a i h => match a, h with
    | 0, h => by cases h; exact ⟨c_N_isPlace hE, w_N_isPlace⟩
    | 1, h => by cases h; exact ⟨c_N_isInput hE, w_N_isInput⟩
    | 2, h => by cases h; exact ⟨c_N_remembers hE, w_N_remembers⟩
    | _ + 3, h => by simp [cal_N_mend, ai_nth] at h)
def k_B_mutate : ai_C := [
  [(0, .aload_n 0, 1, 0, 0, 0, 0, 0, []), (1, .getfield 63, 3, 11, 6, 17, 2, 6, []), (4, .iload_n 1, 1, 1, 0, 0, 0, 0, []), (5, .invokevirtual 263, 3, 0, 2, 119, 0, 0, [(0, 2)]), (8, .ifCond .ne 5, 3, 13, 0, 0, 0, 0, []), (11, .iconst 0, 1, 0, 0, 0, 0, 0, []), (12, .ireturn, 1, 0, 0, 0, 3, 0, []), (13, .aload_n 0, 1, 0, 0, 0, 0, 0, []), (14, .invokevirtual 325, 3, 1, 1, 141, 9, 0, [(0, 11)])],
  [(17, .aload_n 0, 1, 0, 0, 0, 0, 0, []), (18, .getfield 30, 3, 11, 2, 7, 2, 2, []), (21, .aload_n 0, 1, 0, 0, 0, 0, 0, []), (22, .getfield 26, 3, 11, 1, 0, 2, 1, []), (25, .invokevirtual 332, 3, 2, 2, 143, 9, 0, [(0, 1)]), (28, .aload_n 0, 1, 0, 0, 0, 0, 0, []), (29, .getfield 63, 3, 11, 6, 17, 2, 6, [])],
  [(32, .aload_n 0, 1, 0, 0, 0, 0, 0, []), (33, .getfield 30, 3, 11, 2, 7, 2, 2, []), (36, .iload_n 1, 1, 1, 0, 0, 0, 0, []), (37, .invokevirtual 335, 3, 3, 3, 144, 9, 0, [(0, 2)]), (40, .iconst 1, 1, 0, 0, 0, 0, 1, []), (41, .ireturn, 1, 0, 0, 0, 3, 0, [])]]
def i_B_mutate : ai_I := ((⟨"SuiteBench", "mutate", "(I)Z"⟩, prog_1_method_39_code, 2, (some .boolean), 3, 2, 47, 0, 1, 0, 11) : ai_I)
def o_B_mutate (a : Nat) : SP := match a with
  | 0 => f_U_has
  | 1 => f_B_remember
  | 2 => f_M_copyArcs
  | 3 => f_U_dress
  | _ => fun _ _ _ _ _ => False
theorem mo_B_mutate : ∀ a, ai_mono (o_B_mutate a)
  | 0 => mf_U_has
  | 1 => mf_B_remember
  | 2 => mf_M_copyArcs
  | 3 => mf_U_dress
  | _ + 4 => fun _ _ _ _ _ _ _ h => h
def f_B_mutate : SP := ai_M o_B_mutate 0 2 k_B_mutate
theorem mf_B_mutate : ai_mono f_B_mutate := M_mono mo_B_mutate
abbrev cal_B_mutate : List ai_I := [i_U_has, i_B_remember, i_M_copyArcs, i_U_dress]
theorem a_B_mutate : ai_all "SuiteBench" prog_1_method_39_code 2 kc_B cal_B_mutate 2 47 false (some .boolean) k_B_mutate = true := by decide +kernel
theorem w_B_mutate : ai_CW i_B_mutate := ⟨(tk_mem (l := [((Jvm.Cond.code ({ cls := "SuiteBench", name := "mutate", desc := "(I)Z" } : Jvm.MethodName) prog_1_method_39_code (2 : Nat) (Option.some Jvm.ClassFile.FieldType.boolean)), 6, 146)]) (by decide +kernel) _ (List.mem_singleton.mpr rfl)), (tk_mem (l := [((Jvm.Cond.initialized "SuiteBench"), 1, 1)]) (by decide +kernel) _ (List.mem_singleton.mpr rfl)), ⟨by decide +kernel, by decide +kernel, by decide +kernel⟩, ⟨(tk_mem (l := [((Jvm.Cond.instanceMethod ({ cls := "SuiteBench", name := "mutate", desc := "(I)Z" } : Jvm.MethodName)), 6, 144)]) (by decide +kernel) _ (List.mem_singleton.mpr rfl)), (tk_mem (l := [((Jvm.Cond.selects "SuiteBench" ({ cls := "SuiteBench", name := "mutate", desc := "(I)Z" } : Jvm.MethodName) ({ cls := "SuiteBench", name := "mutate", desc := "(I)Z" } : Jvm.MethodName)), 6, 145)]) (by decide +kernel) _ (List.mem_singleton.mpr rfl)), .inl ⟨_, _, rfl⟩⟩⟩
theorem c_B_mutate {E2 : (Nat → Nat) → State → Heap → Prop} (hE : ai_XH E2) : ai_S E2 i_B_mutate f_B_mutate := snd_M (by decide) rfl (by decide) a_B_mutate kc_B_ok (by rfl) (by decide) (fun a i h => match a, h with
    | 0, h => by cases h; exact ⟨c_U_has hE, w_U_has⟩
    | 1, h => by cases h; exact ⟨c_B_remember hE, w_B_remember⟩
    | 2, h => by cases h; exact ⟨c_M_copyArcs hE, w_M_copyArcs⟩
    | 3, h => by cases h; exact ⟨c_U_dress hE, w_U_dress⟩
    | _ + 4, h => by simp [cal_B_mutate, ai_nth] at h)
def k_N_mutate : ai_C := [
  [(0, .aload_n 0, 1, 0, 0, 0, 0, 0, []), (1, .iconst 0, 1, 0, 0, 0, 0, 0, []), (2, .putfield 145, 3, 12, 0, 67, 0, 0, []), (5, .aload_n 0, 1, 0, 0, 0, 0, 0, []), (6, .iload_n 1, 1, 1, 0, 0, 0, 0, []), (7, .invokevirtual 461, 3, 0, 2, 149, 0, 0, [(0, 12)]), (10, .ifCond .ne 5, 3, 15, 0, 0, 0, 0, []), (13, .iconst 0, 1, 0, 0, 0, 0, 0, []), (14, .ireturn, 1, 0, 0, 0, 3, 0, []), (15, .aload_n 0, 1, 0, 0, 0, 0, 0, [])],
  [(16, .invokevirtual 524, 3, 1, 1, 171, 9, 0, [(0, 12)]), (19, .aload_n 0, 1, 0, 0, 0, 0, 0, []), (20, .iload_n 1, 1, 1, 0, 0, 0, 0, []), (21, .bipush 24, 2, 0, 0, 0, 0, 24, []), (23, .invokevirtual 452, 3, 2, 3, 146, 9, 0, [(0, 12)]), (26, .iconst 1, 1, 0, 0, 0, 0, 1, []), (27, .ireturn, 1, 0, 0, 0, 3, 0, [])]]
def i_N_mutate : ai_I := ((⟨"SuiteBenchModel", "mutate", "(I)Z"⟩, prog_14_method_130_code, 2, (some .boolean), 3, 4, 92, 0, 1, 0, 12) : ai_I)
def o_N_mutate (a : Nat) : SP := match a with
  | 0 => f_N_isMutant
  | 1 => f_N_remembers
  | 2 => f_N_laysMutant
  | _ => fun _ _ _ _ _ => False
theorem mo_N_mutate : ∀ a, ai_mono (o_N_mutate a)
  | 0 => mf_N_isMutant
  | 1 => mf_N_remembers
  | 2 => mf_N_laysMutant
  | _ + 3 => fun _ _ _ _ _ _ _ h => h
def f_N_mutate : SP := ai_M o_N_mutate 0 2 k_N_mutate
theorem mf_N_mutate : ai_mono f_N_mutate := M_mono mo_N_mutate
abbrev cal_N_mutate : List ai_I := [i_N_isMutant, i_N_remembers, i_N_laysMutant]
theorem a_N_mutate : ai_all "SuiteBenchModel" prog_14_method_130_code 2 kc_N cal_N_mutate 4 92 false (some .boolean) k_N_mutate = true := by decide +kernel
theorem w_N_mutate : ai_CW i_N_mutate := ⟨(tk_mem (l := [((Jvm.Cond.code ({ cls := "SuiteBenchModel", name := "mutate", desc := "(I)Z" } : Jvm.MethodName) prog_14_method_130_code (2 : Nat) (Option.some Jvm.ClassFile.FieldType.boolean)), 10, 94)]) (by decide +kernel) _ (List.mem_singleton.mpr rfl)), (tk_mem (l := [((Jvm.Cond.initialized "SuiteBenchModel"), 1, 15)]) (by decide +kernel) _ (List.mem_singleton.mpr rfl)), ⟨by decide +kernel, by decide +kernel, by decide +kernel⟩, ⟨(tk_mem (l := [((Jvm.Cond.instanceMethod ({ cls := "SuiteBenchModel", name := "mutate", desc := "(I)Z" } : Jvm.MethodName)), 10, 92)]) (by decide +kernel) _ (List.mem_singleton.mpr rfl)), (tk_mem (l := [((Jvm.Cond.selects "SuiteBenchModel" ({ cls := "SuiteBenchModel", name := "mutate", desc := "(I)Z" } : Jvm.MethodName) ({ cls := "SuiteBenchModel", name := "mutate", desc := "(I)Z" } : Jvm.MethodName)), 10, 93)]) (by decide +kernel) _ (List.mem_singleton.mpr rfl)), .inl ⟨_, _, rfl⟩⟩⟩
theorem c_N_mutate {E2 : (Nat → Nat) → State → Heap → Prop} (hE : ai_XH E2) : ai_S E2 i_N_mutate f_N_mutate := snd_M (by decide) rfl (by decide) a_N_mutate kc_N_ok (by rfl) (by decide) (fun a i h => match a, h with
    | 0, h => by cases h; exact ⟨c_N_isMutant hE, w_N_isMutant⟩
    | 1, h => by cases h; exact ⟨c_N_remembers hE, w_N_remembers⟩
    | 2, h => by cases h; exact ⟨c_N_laysMutant hE, w_N_laysMutant⟩
    | _ + 3, h => by simp [cal_N_mutate, ai_nth] at h)
def k_M_unpack : ai_C := [
  [(0, .iconst 0, 1, 0, 0, 0, 0, 0, []), (1, .istore_n 3, 1, 3, 0, 0, 0, 0, []), (2, .iload_n 3, 1, 3, 0, 0, 0, 0, []), (3, .bipush 24, 2, 0, 0, 0, 0, 24, []), (5, .if_icmp .ge 44, 3, 49, 0, 0, 0, 0, []), (8, .iload_n 2, 1, 2, 0, 0, 0, 0, []), (9, .iload_n 3, 1, 3, 0, 0, 0, 0, []), (10, .iadd, 1, 0, 0, 0, 0, 0, []), (11, .aload_n 1, 1, 1, 0, 0, 0, 0, []), (12, .arraylength, 1, 0, 0, 0, 50, 0, []), (13, .if_icmp .ge 36, 3, 49, 0, 0, 0, 0, [])],
  [(16, .aload_n 0, 1, 0, 0, 0, 0, 0, []), (17, .getfield 9, 3, 1, 0, 2, 2, 0, []), (20, .iload_n 3, 1, 3, 0, 0, 0, 0, []), (21, .aload_n 1, 1, 1, 0, 0, 0, 0, []), (22, .iload_n 2, 1, 2, 0, 0, 0, 0, []), (23, .iload_n 3, 1, 3, 0, 0, 0, 0, []), (24, .iadd, 1, 0, 0, 0, 0, 0, []), (25, .iaload, 1, 0, 0, 0, 0, 0, []), (26, .iconst 4, 1, 0, 0, 0, 0, 4, []), (27, .ishr, 1, 0, 0, 0, 0, 0, []), (28, .iastore, 1, 0, 0, 0, 0, 0, []), (29, .aload_n 0, 1, 0, 0, 0, 0, 0, []), (30, .getfield 15, 3, 1, 1, 3, 2, 1, [])],
  [(33, .iload_n 3, 1, 3, 0, 0, 0, 0, []), (34, .aload_n 1, 1, 1, 0, 0, 0, 0, []), (35, .iload_n 2, 1, 2, 0, 0, 0, 0, []), (36, .iload_n 3, 1, 3, 0, 0, 0, 0, []), (37, .iadd, 1, 0, 0, 0, 0, 0, []), (38, .iaload, 1, 0, 0, 0, 0, 0, []), (39, .bipush 15, 2, 0, 0, 0, 0, 15, []), (41, .iand, 1, 0, 0, 0, 0, 0, []), (42, .iastore, 1, 0, 0, 0, 0, 0, []), (43, .iinc 3 1, 3, 3, 0, 0, 0, 1, []), (46, .goto (-44), 3, 2, 0, 0, 0, 0, [])],
  [(49, .return_, 1, 0, 0, 0, 0, 0, [])]]
def i_M_unpack : ai_I := ((⟨"SuiteBench$Machine", "unpack", "([II)V"⟩, prog_3_method_10_code, 4, none, 9, 0, 0, 0, 2, 0, 1) : ai_I)
def o_M_unpack (_ : Nat) : SP := fun _ _ _ _ _ => False
theorem mo_M_unpack : ∀ a, ai_mono (o_M_unpack a) := fun _ _ _ _ _ _ _ _ h => h
def f_M_unpack : SP := ai_M o_M_unpack 0 4 k_M_unpack
theorem mf_M_unpack : ai_mono f_M_unpack := M_mono mo_M_unpack
abbrev cal_M_unpack : List ai_I := []
theorem a_M_unpack : ai_all "SuiteBench$Machine" prog_3_method_10_code 4 kc_M cal_M_unpack 0 0 false none k_M_unpack = true := by decide +kernel
theorem w_M_unpack : ai_CW i_M_unpack := ⟨(tk_mem (l := [((Jvm.Cond.code ({ cls := "SuiteBench$Machine", name := "unpack", desc := "([II)V" } : Jvm.MethodName) prog_3_method_10_code (4 : Nat) (Option.none : Option Jvm.ClassFile.FieldType)), 6, 156)]) (by decide +kernel) _ (List.mem_singleton.mpr rfl)), (tk_mem (l := [((Jvm.Cond.initialized "SuiteBench$Machine"), 1, 5)]) (by decide +kernel) _ (List.mem_singleton.mpr rfl)), ⟨by decide +kernel, by decide +kernel, by decide +kernel⟩, ⟨(tk_mem (l := [((Jvm.Cond.instanceMethod ({ cls := "SuiteBench$Machine", name := "unpack", desc := "([II)V" } : Jvm.MethodName)), 6, 154)]) (by decide +kernel) _ (List.mem_singleton.mpr rfl)), (tk_mem (l := [((Jvm.Cond.selects "SuiteBench$Machine" ({ cls := "SuiteBench$Machine", name := "unpack", desc := "([II)V" } : Jvm.MethodName) ({ cls := "SuiteBench$Machine", name := "unpack", desc := "([II)V" } : Jvm.MethodName)), 6, 155)]) (by decide +kernel) _ (List.mem_singleton.mpr rfl)), .inl ⟨_, _, rfl⟩⟩⟩
theorem c_M_unpack {E2 : (Nat → Nat) → State → Heap → Prop} (hE : ai_XH E2) : ai_S E2 i_M_unpack f_M_unpack := snd_M (by decide) rfl (by decide) a_M_unpack kc_M_ok (by rfl) (by decide) (fun a i h => by simp [cal_M_unpack, ai_nth] at h)
def k_B_undo : ai_C := [
  [(0, .aload_n 0, 1, 0, 0, 0, 0, 0, []), (1, .getfield 339, 3, 11, 14, 24, 0, 14, []), (4, .ifCond .ne 5, 3, 9, 0, 0, 0, 0, []), (7, .iconst (-1), 1, 0, 0, 0, 0, (-1), []), (8, .ireturn, 1, 0, 0, 0, 0, 0, []), (9, .aload_n 0, 1, 0, 0, 0, 0, 0, []), (10, .dup, 1, 0, 0, 0, 0, 0, []), (11, .getfield 339, 3, 11, 14, 24, 0, 14, []), (14, .iconst 1, 1, 0, 0, 0, 0, 1, []), (15, .isub, 1, 0, 0, 0, 0, 0, [])],
  [(16, .putfield 339, 3, 11, 14, 24, 0, 14, []), (19, .aload_n 0, 1, 0, 0, 0, 0, 0, []), (20, .getfield 30, 3, 11, 2, 7, 2, 2, []), (23, .aload_n 0, 1, 0, 0, 0, 0, 0, []), (24, .getfield 83, 3, 11, 9, 65, 2, 9, []), (27, .aload_n 0, 1, 0, 0, 0, 0, 0, []), (28, .invokevirtual 342, 3, 0, 1, 139, 0, 0, [(0, 11)]), (31, .invokevirtual 345, 3, 1, 3, 145, 9, 0, [(0, 1)])],
  [(34, .aload_n 0, 1, 0, 0, 0, 0, 0, []), (35, .getfield 339, 3, 11, 14, 24, 0, 14, []), (38, .ireturn, 1, 0, 0, 0, 0, 0, [])]]
def i_B_undo : ai_I := ((⟨"SuiteBench", "undo", "()I"⟩, prog_1_method_40_code, 1, (some .int), 0, 1, 23, 0, 0, 0, 11) : ai_I)
def o_B_undo (a : Nat) : SP := match a with
  | 0 => f_B_pastSlot
  | 1 => f_M_unpack
  | _ => fun _ _ _ _ _ => False
theorem mo_B_undo : ∀ a, ai_mono (o_B_undo a)
  | 0 => mf_B_pastSlot
  | 1 => mf_M_unpack
  | _ + 2 => fun _ _ _ _ _ _ _ h => h
def f_B_undo : SP := ai_M o_B_undo 0 1 k_B_undo
theorem mf_B_undo : ai_mono f_B_undo := M_mono mo_B_undo
abbrev cal_B_undo : List ai_I := [i_B_pastSlot, i_M_unpack]
theorem a_B_undo : ai_all "SuiteBench" prog_1_method_40_code 1 kc_B cal_B_undo 1 23 false (some .int) k_B_undo = true := by decide +kernel
theorem w_B_undo : ai_CW i_B_undo := ⟨(tk_mem (l := [((Jvm.Cond.code ({ cls := "SuiteBench", name := "undo", desc := "()I" } : Jvm.MethodName) prog_1_method_40_code (1 : Nat) (Option.some Jvm.ClassFile.FieldType.int)), 6, 152)]) (by decide +kernel) _ (List.mem_singleton.mpr rfl)), (tk_mem (l := [((Jvm.Cond.initialized "SuiteBench"), 1, 1)]) (by decide +kernel) _ (List.mem_singleton.mpr rfl)), ⟨by decide +kernel, by decide +kernel, by decide +kernel⟩, ⟨(tk_mem (l := [((Jvm.Cond.instanceMethod ({ cls := "SuiteBench", name := "undo", desc := "()I" } : Jvm.MethodName)), 6, 150)]) (by decide +kernel) _ (List.mem_singleton.mpr rfl)), (tk_mem (l := [((Jvm.Cond.selects "SuiteBench" ({ cls := "SuiteBench", name := "undo", desc := "()I" } : Jvm.MethodName) ({ cls := "SuiteBench", name := "undo", desc := "()I" } : Jvm.MethodName)), 6, 151)]) (by decide +kernel) _ (List.mem_singleton.mpr rfl)), .inl ⟨_, _, rfl⟩⟩⟩
theorem c_B_undo {E2 : (Nat → Nat) → State → Heap → Prop} (hE : ai_XH E2) : ai_S E2 i_B_undo f_B_undo := snd_M (by decide) rfl (by decide) a_B_undo kc_B_ok (by rfl) (by decide) (fun a i h => match a, h with
    | 0, h => by cases h; exact ⟨c_B_pastSlot hE, w_B_pastSlot⟩
    | 1, h => by cases h; exact ⟨c_M_unpack hE, w_M_unpack⟩
    | _ + 2, h => by simp [cal_B_undo, ai_nth] at h)
def k_N_undo : ai_C := [
  [(0, .aload_n 0, 1, 0, 0, 0, 0, 0, []), (1, .iconst 0, 1, 0, 0, 0, 0, 0, []), (2, .putfield 145, 3, 12, 0, 67, 0, 0, []), (5, .aload_n 0, 1, 0, 0, 0, 0, 0, []), (6, .getfield 278, 3, 12, 67, 33, 0, 67, []), (9, .ifCond .ne 5, 3, 14, 0, 0, 0, 0, []), (12, .iconst (-1), 1, 0, 0, 0, 0, (-1), []), (13, .ireturn, 1, 0, 0, 0, 0, 0, []), (14, .aload_n 0, 1, 0, 0, 0, 0, 0, []), (15, .dup, 1, 0, 0, 0, 0, 0, [])],
  [(16, .getfield 278, 3, 12, 67, 33, 0, 67, []), (19, .iconst 1, 1, 0, 0, 0, 0, 1, []), (20, .isub, 1, 0, 0, 0, 0, 0, []), (21, .putfield 278, 3, 12, 67, 33, 0, 67, []), (24, .aload_n 0, 1, 0, 0, 0, 0, 0, []), (25, .aload_n 0, 1, 0, 0, 0, 0, 0, []), (26, .getfield 278, 3, 12, 67, 33, 0, 67, []), (29, .iconst 1, 1, 0, 0, 0, 0, 1, []), (30, .invokevirtual 520, 3, 0, 3, 170, 9, 0, [(0, 12)])],
  [(33, .aload_n 0, 1, 0, 0, 0, 0, 0, []), (34, .getfield 278, 3, 12, 67, 33, 0, 67, []), (37, .ireturn, 1, 0, 0, 0, 0, 0, [])]]
def i_N_undo : ai_I := ((⟨"SuiteBenchModel", "undo", "()I"⟩, prog_14_method_131_code, 1, (some .int), 0, 1, 23, 0, 0, 0, 12) : ai_I)
def o_N_undo (a : Nat) : SP := match a with
  | 0 => f_N_copies
  | _ => fun _ _ _ _ _ => False
theorem mo_N_undo : ∀ a, ai_mono (o_N_undo a)
  | 0 => mf_N_copies
  | _ + 1 => fun _ _ _ _ _ _ _ h => h
def f_N_undo : SP := ai_M o_N_undo 0 1 k_N_undo
theorem mf_N_undo : ai_mono f_N_undo := M_mono mo_N_undo
abbrev cal_N_undo : List ai_I := [i_N_copies]
theorem a_N_undo : ai_all "SuiteBenchModel" prog_14_method_131_code 1 kc_N cal_N_undo 1 23 false (some .int) k_N_undo = true := by decide +kernel
theorem w_N_undo : ai_CW i_N_undo := ⟨(tk_mem (l := [((Jvm.Cond.code ({ cls := "SuiteBenchModel", name := "undo", desc := "()I" } : Jvm.MethodName) prog_14_method_131_code (1 : Nat) (Option.some Jvm.ClassFile.FieldType.int)), 10, 98)]) (by decide +kernel) _ (List.mem_singleton.mpr rfl)), (tk_mem (l := [((Jvm.Cond.initialized "SuiteBenchModel"), 1, 15)]) (by decide +kernel) _ (List.mem_singleton.mpr rfl)), ⟨by decide +kernel, by decide +kernel, by decide +kernel⟩, ⟨(tk_mem (l := [((Jvm.Cond.instanceMethod ({ cls := "SuiteBenchModel", name := "undo", desc := "()I" } : Jvm.MethodName)), 10, 96)]) (by decide +kernel) _ (List.mem_singleton.mpr rfl)), (tk_mem (l := [((Jvm.Cond.selects "SuiteBenchModel" ({ cls := "SuiteBenchModel", name := "undo", desc := "()I" } : Jvm.MethodName) ({ cls := "SuiteBenchModel", name := "undo", desc := "()I" } : Jvm.MethodName)), 10, 97)]) (by decide +kernel) _ (List.mem_singleton.mpr rfl)), .inl ⟨_, _, rfl⟩⟩⟩
theorem c_N_undo {E2 : (Nat → Nat) → State → Heap → Prop} (hE : ai_XH E2) : ai_S E2 i_N_undo f_N_undo := snd_M (by decide) rfl (by decide) a_N_undo kc_N_ok (by rfl) (by decide) (fun a i h => match a, h with
    | 0, h => by cases h; exact ⟨c_N_copies hE, w_N_copies⟩
    | _ + 1, h => by simp [cal_N_undo, ai_nth] at h)
def k_L_copy : ai_C := [
  [(0, .aload_n 1, 1, 1, 0, 0, 0, 0, []), (1, .getfield 9, 3, 0, 0, 2, 2, 0, []), (4, .iconst 0, 1, 0, 0, 0, 0, 0, []), (5, .aload_n 0, 1, 0, 0, 0, 0, 0, []), (6, .getfield 9, 3, 0, 0, 2, 2, 0, []), (9, .iconst 0, 1, 0, 0, 0, 0, 0, []), (10, .bipush 20, 2, 0, 0, 0, 0, 20, []), (12, .invokestatic 23, 3, 0, 0, 7, 20, 0, []), (15, .aload_n 1, 1, 1, 0, 0, 0, 0, [])],
  [(16, .getfield 15, 3, 0, 1, 4, 2, 1, []), (19, .iconst 0, 1, 0, 0, 0, 0, 0, []), (20, .aload_n 0, 1, 0, 0, 0, 0, 0, []), (21, .getfield 15, 3, 0, 1, 4, 2, 1, []), (24, .iconst 0, 1, 0, 0, 0, 0, 0, []), (25, .bipush 20, 2, 0, 0, 0, 0, 20, []), (27, .invokestatic 23, 3, 0, 0, 7, 21, 0, []), (30, .aload_n 0, 1, 0, 0, 0, 0, 0, []), (31, .aload_n 1, 1, 1, 0, 0, 0, 0, [])],
  [(32, .getfield 19, 3, 0, 2, 5, 0, 2, []), (35, .putfield 19, 3, 0, 2, 5, 0, 2, []), (38, .return_, 1, 0, 0, 0, 0, 0, [])]]
def i_L_copy : ai_I := ((⟨"SuiteBench$Log", "copy", "(LSuiteBench$Log;)V"⟩, prog_2_method_3_code, 2, none, 9, 1, 26, 0, 1, 0, 0) : ai_I)
def o_L_copy (_ : Nat) : SP := fun _ _ _ _ _ => False
theorem mo_L_copy : ∀ a, ai_mono (o_L_copy a) := fun _ _ _ _ _ _ _ _ h => h
def f_L_copy : SP := ai_M o_L_copy 0 2 k_L_copy
theorem mf_L_copy : ai_mono f_L_copy := M_mono mo_L_copy
abbrev cal_L_copy : List ai_I := []
theorem a_L_copy : ai_all "SuiteBench$Log" prog_2_method_3_code 2 kc_L cal_L_copy 1 26 false none k_L_copy = true := by decide +kernel
theorem w_L_copy : ai_CW i_L_copy := ⟨(tk_mem (l := [((Jvm.Cond.code ({ cls := "SuiteBench$Log", name := "copy", desc := "(LSuiteBench$Log;)V" } : Jvm.MethodName) prog_2_method_3_code (2 : Nat) (Option.none : Option Jvm.ClassFile.FieldType)), 6, 164)]) (by decide +kernel) _ (List.mem_singleton.mpr rfl)), (tk_mem (l := [((Jvm.Cond.initialized "SuiteBench$Log"), 1, 12)]) (by decide +kernel) _ (List.mem_singleton.mpr rfl)), ⟨by decide +kernel, by decide +kernel, by decide +kernel⟩, ⟨(tk_mem (l := [((Jvm.Cond.instanceMethod ({ cls := "SuiteBench$Log", name := "copy", desc := "(LSuiteBench$Log;)V" } : Jvm.MethodName)), 6, 162)]) (by decide +kernel) _ (List.mem_singleton.mpr rfl)), (tk_mem (l := [((Jvm.Cond.selects "SuiteBench$Log" ({ cls := "SuiteBench$Log", name := "copy", desc := "(LSuiteBench$Log;)V" } : Jvm.MethodName) ({ cls := "SuiteBench$Log", name := "copy", desc := "(LSuiteBench$Log;)V" } : Jvm.MethodName)), 6, 163)]) (by decide +kernel) _ (List.mem_singleton.mpr rfl)), .inl ⟨_, _, rfl⟩⟩⟩
theorem c_L_copy {E2 : (Nat → Nat) → State → Heap → Prop} (hE : ai_XH E2) : ai_S E2 i_L_copy f_L_copy := snd_M (by decide) rfl (by decide) a_L_copy kc_L_ok (by rfl) (by decide) (fun a i h => by simp [cal_L_copy, ai_nth] at h)
def k_B_keep : ai_C := [
  [(0, .aload_n 0, 1, 0, 0, 0, 0, 0, []), (1, .getfield 30, 3, 11, 2, 7, 2, 2, []), (4, .aload_n 0, 1, 0, 0, 0, 0, 0, []), (5, .getfield 87, 3, 11, 10, 66, 2, 10, []), (8, .iconst 0, 1, 0, 0, 0, 0, 0, []), (9, .invokevirtual 349, 3, 0, 3, 140, 9, 0, [(0, 1)]), (12, .aload_n 0, 1, 0, 0, 0, 0, 0, []), (13, .getfield 90, 3, 11, 11, 67, 2, 11, [])],
  [(16, .aload_n 0, 1, 0, 0, 0, 0, 0, []), (17, .getfield 70, 3, 11, 7, 19, 2, 7, []), (20, .invokevirtual 352, 3, 1, 2, 146, 9, 0, [(0, 0)]), (23, .aload_n 0, 1, 0, 0, 0, 0, 0, []), (24, .iconst 1, 1, 0, 0, 0, 0, 1, []), (25, .putfield 356, 3, 11, 15, 25, 3, 15, []), (28, .aload_n 0, 1, 0, 0, 0, 0, 0, []), (29, .getfield 70, 3, 11, 7, 19, 2, 7, [])],
  [(32, .getfield 297, 3, 0, 2, 20, 0, 2, []), (35, .ireturn, 1, 0, 0, 0, 0, 0, [])]]
def i_B_keep : ai_I := ((⟨"SuiteBench", "keep", "()I"⟩, prog_1_method_41_code, 1, (some .int), 0, 2, 47, 0, 0, 0, 11) : ai_I)
def o_B_keep (a : Nat) : SP := match a with
  | 0 => f_M_pack
  | 1 => f_L_copy
  | _ => fun _ _ _ _ _ => False
theorem mo_B_keep : ∀ a, ai_mono (o_B_keep a)
  | 0 => mf_M_pack
  | 1 => mf_L_copy
  | _ + 2 => fun _ _ _ _ _ _ _ h => h
def f_B_keep : SP := ai_M o_B_keep 0 1 k_B_keep
theorem mf_B_keep : ai_mono f_B_keep := M_mono mo_B_keep
abbrev cal_B_keep : List ai_I := [i_M_pack, i_L_copy]
theorem a_B_keep : ai_all "SuiteBench" prog_1_method_41_code 1 kc_B cal_B_keep 2 47 false (some .int) k_B_keep = true := by decide +kernel
theorem w_B_keep : ai_CW i_B_keep := ⟨(tk_mem (l := [((Jvm.Cond.code ({ cls := "SuiteBench", name := "keep", desc := "()I" } : Jvm.MethodName) prog_1_method_41_code (1 : Nat) (Option.some Jvm.ClassFile.FieldType.int)), 6, 160)]) (by decide +kernel) _ (List.mem_singleton.mpr rfl)), (tk_mem (l := [((Jvm.Cond.initialized "SuiteBench"), 1, 1)]) (by decide +kernel) _ (List.mem_singleton.mpr rfl)), ⟨by decide +kernel, by decide +kernel, by decide +kernel⟩, ⟨(tk_mem (l := [((Jvm.Cond.instanceMethod ({ cls := "SuiteBench", name := "keep", desc := "()I" } : Jvm.MethodName)), 6, 158)]) (by decide +kernel) _ (List.mem_singleton.mpr rfl)), (tk_mem (l := [((Jvm.Cond.selects "SuiteBench" ({ cls := "SuiteBench", name := "keep", desc := "()I" } : Jvm.MethodName) ({ cls := "SuiteBench", name := "keep", desc := "()I" } : Jvm.MethodName)), 6, 159)]) (by decide +kernel) _ (List.mem_singleton.mpr rfl)), .inl ⟨_, _, rfl⟩⟩⟩
theorem c_B_keep {E2 : (Nat → Nat) → State → Heap → Prop} (hE : ai_XH E2) : ai_S E2 i_B_keep f_B_keep := snd_M (by decide) rfl (by decide) a_B_keep kc_B_ok (by rfl) (by decide) (fun a i h => match a, h with
    | 0, h => by cases h; exact ⟨c_M_pack hE, w_M_pack⟩
    | 1, h => by cases h; exact ⟨c_L_copy hE, w_L_copy⟩
    | _ + 2, h => by simp [cal_B_keep, ai_nth] at h)
def k_N_keep : ai_C := [
  [(0, .aload_n 0, 1, 0, 0, 0, 0, 0, []), (1, .iconst 0, 1, 0, 0, 0, 0, 0, []), (2, .putfield 145, 3, 12, 0, 67, 0, 0, []), (5, .aload_n 0, 1, 0, 0, 0, 0, 0, []), (6, .bipush 20, 2, 0, 0, 0, 0, 20, []), (8, .iconst 0, 1, 0, 0, 0, 0, 0, []), (9, .invokevirtual 520, 3, 0, 3, 170, 9, 0, [(0, 12)]), (12, .iconst 0, 1, 0, 0, 0, 0, 0, []), (13, .istore_n 1, 1, 1, 0, 0, 0, 0, []), (14, .iload_n 1, 1, 1, 0, 0, 0, 0, []), (15, .bipush 20, 2, 0, 0, 0, 0, 20, [])],
  [(17, .if_icmp .ge 39, 3, 56, 0, 0, 0, 0, []), (20, .aload_n 0, 1, 0, 0, 0, 0, 0, []), (21, .getfield 127, 3, 12, 59, 61, 2, 59, []), (24, .bipush 20, 2, 0, 0, 0, 0, 20, []), (26, .iload_n 1, 1, 1, 0, 0, 0, 0, []), (27, .iadd, 1, 0, 0, 0, 0, 0, []), (28, .aload_n 0, 1, 0, 0, 0, 0, 0, []), (29, .getfield 127, 3, 12, 59, 61, 2, 59, [])],
  [(32, .iload_n 1, 1, 1, 0, 0, 0, 0, []), (33, .iaload, 1, 0, 0, 0, 0, 0, []), (34, .iastore, 1, 0, 0, 0, 0, 0, []), (35, .aload_n 0, 1, 0, 0, 0, 0, 0, []), (36, .getfield 130, 3, 12, 60, 62, 2, 60, []), (39, .bipush 20, 2, 0, 0, 0, 0, 20, []), (41, .iload_n 1, 1, 1, 0, 0, 0, 0, []), (42, .iadd, 1, 0, 0, 0, 0, 0, []), (43, .aload_n 0, 1, 0, 0, 0, 0, 0, []), (44, .getfield 130, 3, 12, 60, 62, 2, 60, []), (47, .iload_n 1, 1, 1, 0, 0, 0, 0, [])],
  [(48, .laload, 1, 0, 0, 0, 0, 0, []), (49, .lastore, 1, 0, 0, 0, 0, 0, []), (50, .iinc 1 1, 3, 1, 0, 0, 0, 1, []), (53, .goto (-39), 3, 14, 0, 0, 0, 0, []), (56, .aload_n 0, 1, 0, 0, 0, 0, 0, []), (57, .aload_n 0, 1, 0, 0, 0, 0, 0, []), (58, .getfield 275, 3, 12, 61, 32, 0, 61, []), (61, .putfield 527, 3, 12, 68, 172, 0, 68, [])],
  [(64, .aload_n 0, 1, 0, 0, 0, 0, 0, []), (65, .iconst 1, 1, 0, 0, 0, 0, 1, []), (66, .putfield 281, 3, 12, 69, 34, 3, 69, []), (69, .aload_n 0, 1, 0, 0, 0, 0, 0, []), (70, .getfield 275, 3, 12, 61, 32, 0, 61, []), (73, .ireturn, 1, 0, 0, 0, 0, 0, [])]]
def i_N_keep : ai_I := ((⟨"SuiteBenchModel", "keep", "()I"⟩, prog_14_method_132_code, 2, (some .int), 0, 1, 23, 0, 0, 0, 12) : ai_I)
def o_N_keep (a : Nat) : SP := match a with
  | 0 => f_N_copies
  | _ => fun _ _ _ _ _ => False
theorem mo_N_keep : ∀ a, ai_mono (o_N_keep a)
  | 0 => mf_N_copies
  | _ + 1 => fun _ _ _ _ _ _ _ h => h
def f_N_keep : SP := ai_M o_N_keep 0 2 k_N_keep
theorem mf_N_keep : ai_mono f_N_keep := M_mono mo_N_keep
abbrev cal_N_keep : List ai_I := [i_N_copies]
theorem a_N_keep : ai_all "SuiteBenchModel" prog_14_method_132_code 2 kc_N cal_N_keep 1 23 false (some .int) k_N_keep = true := by decide +kernel
theorem w_N_keep : ai_CW i_N_keep := ⟨(tk_mem (l := [((Jvm.Cond.code ({ cls := "SuiteBenchModel", name := "keep", desc := "()I" } : Jvm.MethodName) prog_14_method_132_code (2 : Nat) (Option.some Jvm.ClassFile.FieldType.int)), 10, 102)]) (by decide +kernel) _ (List.mem_singleton.mpr rfl)), (tk_mem (l := [((Jvm.Cond.initialized "SuiteBenchModel"), 1, 15)]) (by decide +kernel) _ (List.mem_singleton.mpr rfl)), ⟨by decide +kernel, by decide +kernel, by decide +kernel⟩, ⟨(tk_mem (l := [((Jvm.Cond.instanceMethod ({ cls := "SuiteBenchModel", name := "keep", desc := "()I" } : Jvm.MethodName)), 10, 100)]) (by decide +kernel) _ (List.mem_singleton.mpr rfl)), (tk_mem (l := [((Jvm.Cond.selects "SuiteBenchModel" ({ cls := "SuiteBenchModel", name := "keep", desc := "()I" } : Jvm.MethodName) ({ cls := "SuiteBenchModel", name := "keep", desc := "()I" } : Jvm.MethodName)), 10, 101)]) (by decide +kernel) _ (List.mem_singleton.mpr rfl)), .inl ⟨_, _, rfl⟩⟩⟩
theorem c_N_keep {E2 : (Nat → Nat) → State → Heap → Prop} (hE : ai_XH E2) : ai_S E2 i_N_keep f_N_keep := snd_M (by decide) rfl (by decide) a_N_keep kc_N_ok (by rfl) (by decide) (fun a i h => match a, h with
    | 0, h => by cases h; exact ⟨c_N_copies hE, w_N_copies⟩
    | _ + 1, h => by simp [cal_N_keep, ai_nth] at h)
def k_B_back : ai_C := [
  [(0, .aload_n 0, 1, 0, 0, 0, 0, 0, []), (1, .getfield 356, 3, 11, 15, 25, 3, 15, []), (4, .ifCond .ne 5, 3, 9, 0, 0, 0, 0, []), (7, .iconst (-1), 1, 0, 0, 0, 0, (-1), []), (8, .ireturn, 1, 0, 0, 0, 0, 0, []), (9, .aload_n 0, 1, 0, 0, 0, 0, 0, []), (10, .getfield 30, 3, 11, 2, 7, 2, 2, []), (13, .aload_n 0, 1, 0, 0, 0, 0, 0, []), (14, .getfield 87, 3, 11, 10, 66, 2, 10, [])],
  [(17, .iconst 0, 1, 0, 0, 0, 0, 0, []), (18, .invokevirtual 345, 3, 0, 3, 145, 9, 0, [(0, 1)]), (21, .aload_n 0, 1, 0, 0, 0, 0, 0, []), (22, .getfield 70, 3, 11, 7, 19, 2, 7, []), (25, .aload_n 0, 1, 0, 0, 0, 0, 0, []), (26, .getfield 90, 3, 11, 11, 67, 2, 11, []), (29, .invokevirtual 352, 3, 1, 2, 146, 9, 0, [(0, 0)])],
  [(32, .aload_n 0, 1, 0, 0, 0, 0, 0, []), (33, .getfield 79, 3, 11, 8, 21, 2, 8, []), (36, .invokevirtual 304, 3, 2, 1, 22, 9, 0, [(0, 7)]), (39, .aload_n 0, 1, 0, 0, 0, 0, 0, []), (40, .iconst 0, 1, 0, 0, 0, 0, 0, []), (41, .putfield 339, 3, 11, 14, 24, 0, 14, []), (44, .aload_n 0, 1, 0, 0, 0, 0, 0, []), (45, .getfield 70, 3, 11, 7, 19, 2, 7, [])],
  [(48, .getfield 297, 3, 0, 2, 20, 0, 2, []), (51, .ireturn, 1, 0, 0, 0, 0, 0, [])]]
def i_B_back : ai_I := ((⟨"SuiteBench", "back", "()I"⟩, prog_1_method_42_code, 1, (some .int), 0, 2, 47, 0, 0, 0, 11) : ai_I)
def o_B_back (a : Nat) : SP := match a with
  | 0 => f_M_unpack
  | 1 => f_L_copy
  | 2 => f_X_renew
  | _ => fun _ _ _ _ _ => False
theorem mo_B_back : ∀ a, ai_mono (o_B_back a)
  | 0 => mf_M_unpack
  | 1 => mf_L_copy
  | 2 => mf_X_renew
  | _ + 3 => fun _ _ _ _ _ _ _ h => h
def f_B_back : SP := ai_M o_B_back 0 1 k_B_back
theorem mf_B_back : ai_mono f_B_back := M_mono mo_B_back
abbrev cal_B_back : List ai_I := [i_M_unpack, i_L_copy, i_X_renew]
theorem a_B_back : ai_all "SuiteBench" prog_1_method_42_code 1 kc_B cal_B_back 2 47 false (some .int) k_B_back = true := by decide +kernel
theorem w_B_back : ai_CW i_B_back := ⟨(tk_mem (l := [((Jvm.Cond.code ({ cls := "SuiteBench", name := "back", desc := "()I" } : Jvm.MethodName) prog_1_method_42_code (1 : Nat) (Option.some Jvm.ClassFile.FieldType.int)), 6, 169)]) (by decide +kernel) _ (List.mem_singleton.mpr rfl)), (tk_mem (l := [((Jvm.Cond.initialized "SuiteBench"), 1, 1)]) (by decide +kernel) _ (List.mem_singleton.mpr rfl)), ⟨by decide +kernel, by decide +kernel, by decide +kernel⟩, ⟨(tk_mem (l := [((Jvm.Cond.instanceMethod ({ cls := "SuiteBench", name := "back", desc := "()I" } : Jvm.MethodName)), 6, 167)]) (by decide +kernel) _ (List.mem_singleton.mpr rfl)), (tk_mem (l := [((Jvm.Cond.selects "SuiteBench" ({ cls := "SuiteBench", name := "back", desc := "()I" } : Jvm.MethodName) ({ cls := "SuiteBench", name := "back", desc := "()I" } : Jvm.MethodName)), 6, 168)]) (by decide +kernel) _ (List.mem_singleton.mpr rfl)), .inl ⟨_, _, rfl⟩⟩⟩
theorem c_B_back {E2 : (Nat → Nat) → State → Heap → Prop} (hE : ai_XH E2) : ai_S E2 i_B_back f_B_back := snd_M (by decide) rfl (by decide) a_B_back kc_B_ok (by rfl) (by decide) (fun a i h => match a, h with
    | 0, h => by cases h; exact ⟨c_M_unpack hE, w_M_unpack⟩
    | 1, h => by cases h; exact ⟨c_L_copy hE, w_L_copy⟩
    | 2, h => by cases h; exact ⟨c_X_renew hE, w_X_renew⟩
    | _ + 3, h => by simp [cal_B_back, ai_nth] at h)
def k_N_back : ai_C := [
  [(0, .aload_n 0, 1, 0, 0, 0, 0, 0, []), (1, .iconst 0, 1, 0, 0, 0, 0, 0, []), (2, .putfield 145, 3, 12, 0, 67, 0, 0, []), (5, .aload_n 0, 1, 0, 0, 0, 0, 0, []), (6, .getfield 281, 3, 12, 69, 34, 3, 69, []), (9, .ifCond .ne 5, 3, 14, 0, 0, 0, 0, []), (12, .iconst (-1), 1, 0, 0, 0, 0, (-1), []), (13, .ireturn, 1, 0, 0, 0, 0, 0, []), (14, .aload_n 0, 1, 0, 0, 0, 0, 0, []), (15, .bipush 20, 2, 0, 0, 0, 0, 20, [])],
  [(17, .iconst 1, 1, 0, 0, 0, 0, 1, []), (18, .invokevirtual 520, 3, 0, 3, 170, 9, 0, [(0, 12)]), (21, .iconst 0, 1, 0, 0, 0, 0, 0, []), (22, .istore_n 1, 1, 1, 0, 0, 0, 0, []), (23, .iload_n 1, 1, 1, 0, 0, 0, 0, []), (24, .bipush 20, 2, 0, 0, 0, 0, 20, []), (26, .if_icmp .ge 39, 3, 65, 0, 0, 0, 0, []), (29, .aload_n 0, 1, 0, 0, 0, 0, 0, []), (30, .getfield 127, 3, 12, 59, 61, 2, 59, [])],
  [(33, .iload_n 1, 1, 1, 0, 0, 0, 0, []), (34, .aload_n 0, 1, 0, 0, 0, 0, 0, []), (35, .getfield 127, 3, 12, 59, 61, 2, 59, []), (38, .bipush 20, 2, 0, 0, 0, 0, 20, []), (40, .iload_n 1, 1, 1, 0, 0, 0, 0, []), (41, .iadd, 1, 0, 0, 0, 0, 0, []), (42, .iaload, 1, 0, 0, 0, 0, 0, []), (43, .iastore, 1, 0, 0, 0, 0, 0, []), (44, .aload_n 0, 1, 0, 0, 0, 0, 0, []), (45, .getfield 130, 3, 12, 60, 62, 2, 60, [])],
  [(48, .iload_n 1, 1, 1, 0, 0, 0, 0, []), (49, .aload_n 0, 1, 0, 0, 0, 0, 0, []), (50, .getfield 130, 3, 12, 60, 62, 2, 60, []), (53, .bipush 20, 2, 0, 0, 0, 0, 20, []), (55, .iload_n 1, 1, 1, 0, 0, 0, 0, []), (56, .iadd, 1, 0, 0, 0, 0, 0, []), (57, .laload, 1, 0, 0, 0, 0, 0, []), (58, .lastore, 1, 0, 0, 0, 0, 0, []), (59, .iinc 1 1, 3, 1, 0, 0, 0, 1, []), (62, .goto (-39), 3, 23, 0, 0, 0, 0, [])],
  [(65, .aload_n 0, 1, 0, 0, 0, 0, 0, []), (66, .aload_n 0, 1, 0, 0, 0, 0, 0, []), (67, .getfield 527, 3, 12, 68, 172, 0, 68, []), (70, .putfield 275, 3, 12, 61, 32, 0, 61, []), (73, .aload_n 0, 1, 0, 0, 0, 0, 0, []), (74, .iconst 0, 1, 0, 0, 0, 0, 0, []), (75, .putfield 278, 3, 12, 67, 33, 0, 67, []), (78, .aload_n 0, 1, 0, 0, 0, 0, 0, []), (79, .getfield 275, 3, 12, 61, 32, 0, 61, [])],
  [(82, .ireturn, 1, 0, 0, 0, 0, 0, [])]]
def i_N_back : ai_I := ((⟨"SuiteBenchModel", "back", "()I"⟩, prog_14_method_133_code, 2, (some .int), 0, 1, 23, 0, 0, 0, 12) : ai_I)
def o_N_back (a : Nat) : SP := match a with
  | 0 => f_N_copies
  | _ => fun _ _ _ _ _ => False
theorem mo_N_back : ∀ a, ai_mono (o_N_back a)
  | 0 => mf_N_copies
  | _ + 1 => fun _ _ _ _ _ _ _ h => h
def f_N_back : SP := ai_M o_N_back 0 2 k_N_back
theorem mf_N_back : ai_mono f_N_back := M_mono mo_N_back
abbrev cal_N_back : List ai_I := [i_N_copies]
theorem a_N_back : ai_all "SuiteBenchModel" prog_14_method_133_code 2 kc_N cal_N_back 1 23 false (some .int) k_N_back = true := by decide +kernel
theorem w_N_back : ai_CW i_N_back := ⟨(tk_mem (l := [((Jvm.Cond.code ({ cls := "SuiteBenchModel", name := "back", desc := "()I" } : Jvm.MethodName) prog_14_method_133_code (2 : Nat) (Option.some Jvm.ClassFile.FieldType.int)), 10, 106)]) (by decide +kernel) _ (List.mem_singleton.mpr rfl)), (tk_mem (l := [((Jvm.Cond.initialized "SuiteBenchModel"), 1, 15)]) (by decide +kernel) _ (List.mem_singleton.mpr rfl)), ⟨by decide +kernel, by decide +kernel, by decide +kernel⟩, ⟨(tk_mem (l := [((Jvm.Cond.instanceMethod ({ cls := "SuiteBenchModel", name := "back", desc := "()I" } : Jvm.MethodName)), 10, 104)]) (by decide +kernel) _ (List.mem_singleton.mpr rfl)), (tk_mem (l := [((Jvm.Cond.selects "SuiteBenchModel" ({ cls := "SuiteBenchModel", name := "back", desc := "()I" } : Jvm.MethodName) ({ cls := "SuiteBenchModel", name := "back", desc := "()I" } : Jvm.MethodName)), 10, 105)]) (by decide +kernel) _ (List.mem_singleton.mpr rfl)), .inl ⟨_, _, rfl⟩⟩⟩
theorem c_N_back {E2 : (Nat → Nat) → State → Heap → Prop} (hE : ai_XH E2) : ai_S E2 i_N_back f_N_back := snd_M (by decide) rfl (by decide) a_N_back kc_N_ok (by rfl) (by decide) (fun a i h => match a, h with
    | 0, h => by cases h; exact ⟨c_N_copies hE, w_N_copies⟩
    | _ + 1, h => by simp [cal_N_back, ai_nth] at h)
def k_M_arcsUnlike : ai_C := [
  [(0, .iconst 0, 1, 0, 0, 0, 0, 0, []), (1, .istore_n 2, 1, 2, 0, 0, 0, 0, []), (2, .iconst 0, 1, 0, 0, 0, 0, 0, []), (3, .istore_n 3, 1, 3, 0, 0, 0, 0, []), (4, .iload_n 3, 1, 3, 0, 0, 0, 0, []), (5, .aload_n 0, 1, 0, 0, 0, 0, 0, []), (6, .getfield 18, 3, 1, 2, 4, 0, 2, []), (9, .if_icmp .ge 72, 3, 81, 0, 0, 0, 0, []), (12, .iconst 0, 1, 0, 0, 0, 0, 0, []), (13, .istore 4, 2, 4, 0, 0, 0, 0, []), (15, .iload 4, 2, 4, 0, 0, 0, 0, [])],
  [(17, .aload_n 0, 1, 0, 0, 0, 0, 0, []), (18, .getfield 22, 3, 1, 3, 5, 0, 3, []), (21, .if_icmp .ge 54, 3, 75, 0, 0, 0, 0, []), (24, .iload_n 3, 1, 3, 0, 0, 0, 0, []), (25, .iconst 3, 1, 0, 0, 0, 0, 3, []), (26, .imul, 1, 0, 0, 0, 0, 0, []), (27, .iload 4, 2, 4, 0, 0, 0, 0, []), (29, .iadd, 1, 0, 0, 0, 0, 0, []), (30, .istore 5, 2, 5, 0, 0, 0, 0, [])],
  [(32, .aload_n 0, 1, 0, 0, 0, 0, 0, []), (33, .getfield 9, 3, 1, 0, 2, 2, 0, []), (36, .iload 5, 2, 5, 0, 0, 0, 0, []), (38, .iaload, 1, 0, 0, 0, 0, 0, []), (39, .aload_n 1, 1, 1, 0, 0, 0, 0, []), (40, .getfield 9, 3, 1, 0, 2, 2, 0, []), (43, .iload 5, 2, 5, 0, 0, 0, 0, []), (45, .iaload, 1, 0, 0, 0, 0, 0, []), (46, .if_icmp .ne 20, 3, 66, 0, 0, 0, 0, [])],
  [(49, .aload_n 0, 1, 0, 0, 0, 0, 0, []), (50, .getfield 15, 3, 1, 1, 3, 2, 1, []), (53, .iload 5, 2, 5, 0, 0, 0, 0, []), (55, .iaload, 1, 0, 0, 0, 0, 0, []), (56, .aload_n 1, 1, 1, 0, 0, 0, 0, []), (57, .getfield 15, 3, 1, 1, 3, 2, 1, []), (60, .iload 5, 2, 5, 0, 0, 0, 0, []), (62, .iaload, 1, 0, 0, 0, 0, 0, []), (63, .if_icmp .eq 6, 3, 69, 0, 0, 0, 0, [])],
  [(66, .iinc 2 1, 3, 2, 0, 0, 0, 1, []), (69, .iinc 4 1, 3, 4, 0, 0, 0, 1, []), (72, .goto (-57), 3, 15, 0, 0, 0, 0, []), (75, .iinc 3 1, 3, 3, 0, 0, 0, 1, []), (78, .goto (-74), 3, 4, 0, 0, 0, 0, [])],
  [(81, .iload_n 2, 1, 2, 0, 0, 0, 0, []), (82, .ireturn, 1, 0, 0, 0, 0, 0, [])]]
def i_M_arcsUnlike : ai_I := ((⟨"SuiteBench$Machine", "arcsUnlike", "(LSuiteBench$Machine;)I"⟩, prog_3_method_13_code, 6, (some .int), 0, 0, 0, 0, 1, 0, 1) : ai_I)
def o_M_arcsUnlike (_ : Nat) : SP := fun _ _ _ _ _ => False
theorem mo_M_arcsUnlike : ∀ a, ai_mono (o_M_arcsUnlike a) := fun _ _ _ _ _ _ _ _ h => h
def f_M_arcsUnlike : SP := ai_M o_M_arcsUnlike 0 6 k_M_arcsUnlike
theorem mf_M_arcsUnlike : ai_mono f_M_arcsUnlike := M_mono mo_M_arcsUnlike
abbrev cal_M_arcsUnlike : List ai_I := []
theorem a_M_arcsUnlike : ai_all "SuiteBench$Machine" prog_3_method_13_code 6 kc_M cal_M_arcsUnlike 0 0 false (some .int) k_M_arcsUnlike = true := by decide +kernel
theorem w_M_arcsUnlike : ai_CW i_M_arcsUnlike := ⟨(tk_mem (l := [((Jvm.Cond.code ({ cls := "SuiteBench$Machine", name := "arcsUnlike", desc := "(LSuiteBench$Machine;)I" } : Jvm.MethodName) prog_3_method_13_code (6 : Nat) (Option.some Jvm.ClassFile.FieldType.int)), 6, 177)]) (by decide +kernel) _ (List.mem_singleton.mpr rfl)), (tk_mem (l := [((Jvm.Cond.initialized "SuiteBench$Machine"), 1, 5)]) (by decide +kernel) _ (List.mem_singleton.mpr rfl)), ⟨by decide +kernel, by decide +kernel, by decide +kernel⟩, ⟨(tk_mem (l := [((Jvm.Cond.instanceMethod ({ cls := "SuiteBench$Machine", name := "arcsUnlike", desc := "(LSuiteBench$Machine;)I" } : Jvm.MethodName)), 6, 175)]) (by decide +kernel) _ (List.mem_singleton.mpr rfl)), (tk_mem (l := [((Jvm.Cond.selects "SuiteBench$Machine" ({ cls := "SuiteBench$Machine", name := "arcsUnlike", desc := "(LSuiteBench$Machine;)I" } : Jvm.MethodName) ({ cls := "SuiteBench$Machine", name := "arcsUnlike", desc := "(LSuiteBench$Machine;)I" } : Jvm.MethodName)), 6, 176)]) (by decide +kernel) _ (List.mem_singleton.mpr rfl)), .inl ⟨_, _, rfl⟩⟩⟩
theorem c_M_arcsUnlike {E2 : (Nat → Nat) → State → Heap → Prop} (hE : ai_XH E2) : ai_S E2 i_M_arcsUnlike f_M_arcsUnlike := snd_M (by decide) rfl (by decide) a_M_arcsUnlike kc_M_ok (by rfl) (by decide) (fun a i h => by simp [cal_M_arcsUnlike, ai_nth] at h)
def k_M_placesReached : ai_C := [
  [(0, .aload_n 0, 1, 0, 0, 0, 0, 0, []), (1, .getfield 18, 3, 1, 2, 4, 0, 2, []), (4, .ifCond .le 7, 3, 11, 0, 0, 0, 0, []), (7, .iconst 1, 1, 0, 0, 0, 0, 1, []), (8, .goto 4, 3, 12, 0, 0, 0, 0, []), (11, .iconst 0, 1, 0, 0, 0, 0, 0, []), (12, .istore_n 1, 1, 1, 0, 0, 0, 0, []), (13, .iconst 0, 1, 0, 0, 0, 0, 0, []), (14, .istore_n 2, 1, 2, 0, 0, 0, 0, []), (15, .iload_n 2, 1, 2, 0, 0, 0, 0, [])],
  [(16, .aload_n 0, 1, 0, 0, 0, 0, 0, []), (17, .getfield 18, 3, 1, 2, 4, 0, 2, []), (20, .if_icmp .ge 68, 3, 88, 0, 0, 0, 0, []), (23, .iconst 0, 1, 0, 0, 0, 0, 0, []), (24, .istore_n 3, 1, 3, 0, 0, 0, 0, []), (25, .iload_n 3, 1, 3, 0, 0, 0, 0, []), (26, .aload_n 0, 1, 0, 0, 0, 0, 0, []), (27, .getfield 18, 3, 1, 2, 4, 0, 2, []), (30, .if_icmp .ge 52, 3, 82, 0, 0, 0, 0, [])],
  [(33, .iconst 0, 1, 0, 0, 0, 0, 0, []), (34, .istore 4, 2, 4, 0, 0, 0, 0, []), (36, .iload 4, 2, 4, 0, 0, 0, 0, []), (38, .aload_n 0, 1, 0, 0, 0, 0, 0, []), (39, .getfield 22, 3, 1, 3, 5, 0, 3, []), (42, .if_icmp .ge 34, 3, 76, 0, 0, 0, 0, []), (45, .iload_n 1, 1, 1, 0, 0, 0, 0, []), (46, .iload_n 3, 1, 3, 0, 0, 0, 0, []), (47, .ishr, 1, 0, 0, 0, 0, 0, [])],
  [(48, .iconst 1, 1, 0, 0, 0, 0, 1, []), (49, .iand, 1, 0, 0, 0, 0, 0, []), (50, .iconst 1, 1, 0, 0, 0, 0, 1, []), (51, .if_icmp .ne 25, 3, 76, 0, 0, 0, 0, []), (54, .iload_n 1, 1, 1, 0, 0, 0, 0, []), (55, .iconst 1, 1, 0, 0, 0, 0, 1, []), (56, .aload_n 0, 1, 0, 0, 0, 0, 0, []), (57, .getfield 9, 3, 1, 0, 2, 2, 0, []), (60, .iload_n 3, 1, 3, 0, 0, 0, 0, []), (61, .iconst 3, 1, 0, 0, 0, 0, 3, []), (62, .imul, 1, 0, 0, 0, 0, 0, []), (63, .iload 4, 2, 4, 0, 0, 0, 0, [])],
  [(65, .iadd, 1, 0, 0, 0, 0, 0, []), (66, .iaload, 1, 0, 0, 0, 0, 0, []), (67, .ishl, 1, 0, 0, 0, 0, 0, []), (68, .ior, 1, 0, 0, 0, 0, 0, []), (69, .istore_n 1, 1, 1, 0, 0, 0, 0, []), (70, .iinc 4 1, 3, 4, 0, 0, 0, 1, []), (73, .goto (-37), 3, 36, 0, 0, 0, 0, []), (76, .iinc 3 1, 3, 3, 0, 0, 0, 1, []), (79, .goto (-54), 3, 25, 0, 0, 0, 0, [])],
  [(82, .iinc 2 1, 3, 2, 0, 0, 0, 1, []), (85, .goto (-70), 3, 15, 0, 0, 0, 0, []), (88, .iload_n 1, 1, 1, 0, 0, 0, 0, []), (89, .invokestatic 47, 3, 0, 1, 11, 0, 0, [(0, 99)]), (92, .ireturn, 1, 0, 0, 0, 0, 0, [])]]
def i_M_placesReached : ai_I := ((⟨"SuiteBench$Machine", "placesReached", "()I"⟩, prog_3_method_14_code, 5, (some .int), 0, 1, 20, 0, 0, 0, 1) : ai_I)
def o_M_placesReached (a : Nat) : SP := match a with
  | 0 => f_J_bitCount
  | _ => fun _ _ _ _ _ => False
theorem mo_M_placesReached : ∀ a, ai_mono (o_M_placesReached a)
  | 0 => mf_J_bitCount
  | _ + 1 => fun _ _ _ _ _ _ _ h => h
def f_M_placesReached : SP := ai_M o_M_placesReached 0 5 k_M_placesReached
theorem mf_M_placesReached : ai_mono f_M_placesReached := M_mono mo_M_placesReached
abbrev cal_M_placesReached : List ai_I := [i_J_bitCount]
theorem a_M_placesReached : ai_all "SuiteBench$Machine" prog_3_method_14_code 5 kc_M cal_M_placesReached 1 20 false (some .int) k_M_placesReached = true := by decide +kernel
theorem w_M_placesReached : ai_CW i_M_placesReached := ⟨(tk_mem (l := [((Jvm.Cond.code ({ cls := "SuiteBench$Machine", name := "placesReached", desc := "()I" } : Jvm.MethodName) prog_3_method_14_code (5 : Nat) (Option.some Jvm.ClassFile.FieldType.int)), 6, 181)]) (by decide +kernel) _ (List.mem_singleton.mpr rfl)), (tk_mem (l := [((Jvm.Cond.initialized "SuiteBench$Machine"), 1, 5)]) (by decide +kernel) _ (List.mem_singleton.mpr rfl)), ⟨by decide +kernel, by decide +kernel, by decide +kernel⟩, ⟨(tk_mem (l := [((Jvm.Cond.instanceMethod ({ cls := "SuiteBench$Machine", name := "placesReached", desc := "()I" } : Jvm.MethodName)), 6, 179)]) (by decide +kernel) _ (List.mem_singleton.mpr rfl)), (tk_mem (l := [((Jvm.Cond.selects "SuiteBench$Machine" ({ cls := "SuiteBench$Machine", name := "placesReached", desc := "()I" } : Jvm.MethodName) ({ cls := "SuiteBench$Machine", name := "placesReached", desc := "()I" } : Jvm.MethodName)), 6, 180)]) (by decide +kernel) _ (List.mem_singleton.mpr rfl)), .inl ⟨_, _, rfl⟩⟩⟩
theorem c_M_placesReached {E2 : (Nat → Nat) → State → Heap → Prop} (hE : ai_XH E2) : ai_S E2 i_M_placesReached f_M_placesReached := snd_M (by decide) rfl (by decide) a_M_placesReached kc_M_ok (by rfl) (by decide) (fun a i h => match a, h with
    | 0, h => by cases h; exact ⟨c_J_bitCount hE, w_J_bitCount⟩
    | _ + 1, h => by simp [cal_M_placesReached, ai_nth] at h)
def k_B_count : ai_C := [
  [(0, .iload_n 1, 1, 1, 0, 0, 0, 0, []), (1, .tableswitch 175 0 12 #[67, 75, 83, 91, 99, 110, 118, 126, 134, 142, 150, 155, 167], 67, 176, 0, 0, 0, 0, [(0, 68), (1, 76), (2, 84), (3, 92), (4, 100), (5, 111), (6, 119), (7, 127), (8, 135), (9, 143), (10, 151), (11, 156), (12, 168)])],
  [],
  [],
  [],
  [(68, .aload_n 0, 1, 0, 0, 0, 0, 0, []), (69, .getfield 26, 3, 11, 1, 0, 2, 1, []), (72, .getfield 166, 3, 1, 2, 80, 0, 2, []), (75, .ireturn, 1, 0, 0, 0, 0, 0, []), (76, .aload_n 0, 1, 0, 0, 0, 0, 0, []), (77, .getfield 26, 3, 11, 1, 0, 2, 1, [])],
  [(80, .getfield 150, 3, 1, 3, 85, 0, 3, []), (83, .ireturn, 1, 0, 0, 0, 0, 0, []), (84, .aload_n 0, 1, 0, 0, 0, 0, 0, []), (85, .getfield 30, 3, 11, 2, 7, 2, 2, []), (88, .getfield 166, 3, 1, 2, 80, 0, 2, []), (91, .ireturn, 1, 0, 0, 0, 0, 0, []), (92, .aload_n 0, 1, 0, 0, 0, 0, 0, []), (93, .getfield 19, 3, 11, 12, 1, 2, 12, [])],
  [(96, .getfield 360, 3, 3, 7, 15, 0, 7, []), (99, .ireturn, 1, 0, 0, 0, 0, 0, []), (100, .aload_n 0, 1, 0, 0, 0, 0, 0, []), (101, .getfield 38, 3, 11, 3, 10, 2, 3, []), (104, .getfield 363, 3, 9, 8, 147, 0, 8, []), (107, .invokestatic 280, 3, 0, 1, 125, 0, 0, [(0, 99)]), (110, .ireturn, 1, 0, 0, 0, 0, 0, []), (111, .aload_n 0, 1, 0, 0, 0, 0, 0, [])],
  [(112, .getfield 38, 3, 11, 3, 10, 2, 3, []), (115, .getfield 366, 3, 9, 9, 148, 0, 9, []), (118, .ireturn, 1, 0, 0, 0, 0, 0, []), (119, .aload_n 0, 1, 0, 0, 0, 0, 0, []), (120, .getfield 38, 3, 11, 3, 10, 2, 3, []), (123, .getfield 369, 3, 9, 11, 149, 0, 11, []), (126, .ireturn, 1, 0, 0, 0, 0, 0, []), (127, .aload_n 0, 1, 0, 0, 0, 0, 0, [])],
  [(128, .getfield 38, 3, 11, 3, 10, 2, 3, []), (131, .getfield 178, 3, 9, 10, 93, 0, 10, []), (134, .ireturn, 1, 0, 0, 0, 0, 0, []), (135, .aload_n 0, 1, 0, 0, 0, 0, 0, []), (136, .getfield 63, 3, 11, 6, 17, 2, 6, []), (139, .getfield 252, 3, 2, 15, 115, 0, 15, []), (142, .ireturn, 1, 0, 0, 0, 0, 0, []), (143, .aload_n 0, 1, 0, 0, 0, 0, 0, [])],
  [(144, .getfield 70, 3, 11, 7, 19, 2, 7, []), (147, .getfield 297, 3, 0, 2, 20, 0, 2, []), (150, .ireturn, 1, 0, 0, 0, 0, 0, []), (151, .aload_n 0, 1, 0, 0, 0, 0, 0, []), (152, .getfield 339, 3, 11, 14, 24, 0, 14, []), (155, .ireturn, 1, 0, 0, 0, 0, 0, []), (156, .aload_n 0, 1, 0, 0, 0, 0, 0, []), (157, .getfield 30, 3, 11, 2, 7, 2, 2, [])],
  [(160, .aload_n 0, 1, 0, 0, 0, 0, 0, []), (161, .getfield 26, 3, 11, 1, 0, 2, 1, []), (164, .invokevirtual 372, 3, 1, 2, 150, 0, 0, [(0, 1)]), (167, .ireturn, 1, 0, 0, 0, 0, 0, []), (168, .aload_n 0, 1, 0, 0, 0, 0, 0, []), (169, .getfield 30, 3, 11, 2, 7, 2, 2, []), (172, .invokevirtual 376, 3, 2, 1, 151, 0, 0, [(0, 1)]), (175, .ireturn, 1, 0, 0, 0, 0, 0, [])],
  [(176, .iconst (-1), 1, 0, 0, 0, 0, (-1), []), (177, .ireturn, 1, 0, 0, 0, 0, 0, [])]]
def i_B_count : ai_I := ((⟨"SuiteBench", "count", "(I)I"⟩, prog_1_method_43_code, 2, (some .int), 0, 2, 44, 0, 1, 0, 11) : ai_I)
def o_B_count (a : Nat) : SP := match a with
  | 0 => f_J_bitCount
  | 1 => f_M_arcsUnlike
  | 2 => f_M_placesReached
  | _ => fun _ _ _ _ _ => False
theorem mo_B_count : ∀ a, ai_mono (o_B_count a)
  | 0 => mf_J_bitCount
  | 1 => mf_M_arcsUnlike
  | 2 => mf_M_placesReached
  | _ + 3 => fun _ _ _ _ _ _ _ h => h
def f_B_count : SP := ai_M o_B_count 0 2 k_B_count
theorem mf_B_count : ai_mono f_B_count := M_mono mo_B_count
abbrev cal_B_count : List ai_I := [i_J_bitCount, i_M_arcsUnlike, i_M_placesReached]
theorem a_B_count : ai_all "SuiteBench" prog_1_method_43_code 2 kc_B cal_B_count 2 44 false (some .int) k_B_count = true := by decide +kernel
theorem w_B_count : ai_CW i_B_count := ⟨(tk_mem (l := [((Jvm.Cond.code ({ cls := "SuiteBench", name := "count", desc := "(I)I" } : Jvm.MethodName) prog_1_method_43_code (2 : Nat) (Option.some Jvm.ClassFile.FieldType.int)), 6, 173)]) (by decide +kernel) _ (List.mem_singleton.mpr rfl)), (tk_mem (l := [((Jvm.Cond.initialized "SuiteBench"), 1, 1)]) (by decide +kernel) _ (List.mem_singleton.mpr rfl)), ⟨by decide +kernel, by decide +kernel, by decide +kernel⟩, ⟨(tk_mem (l := [((Jvm.Cond.instanceMethod ({ cls := "SuiteBench", name := "count", desc := "(I)I" } : Jvm.MethodName)), 6, 171)]) (by decide +kernel) _ (List.mem_singleton.mpr rfl)), (tk_mem (l := [((Jvm.Cond.selects "SuiteBench" ({ cls := "SuiteBench", name := "count", desc := "(I)I" } : Jvm.MethodName) ({ cls := "SuiteBench", name := "count", desc := "(I)I" } : Jvm.MethodName)), 6, 172)]) (by decide +kernel) _ (List.mem_singleton.mpr rfl)), .inl ⟨_, _, rfl⟩⟩⟩
theorem c_B_count {E2 : (Nat → Nat) → State → Heap → Prop} (hE : ai_XH E2) : ai_S E2 i_B_count f_B_count := snd_M (by decide) rfl (by decide) a_B_count kc_B_ok (by rfl) (by decide) (fun a i h => match a, h with
    | 0, h => by cases h; exact ⟨c_J_bitCount hE, w_J_bitCount⟩
    | 1, h => by cases h; exact ⟨c_M_arcsUnlike hE, w_M_arcsUnlike⟩
    | 2, h => by cases h; exact ⟨c_M_placesReached hE, w_M_placesReached⟩
    | _ + 3, h => by simp [cal_B_count, ai_nth] at h)
def k_N_kinds : ai_C := [
  [(0, .iconst 0, 1, 0, 0, 0, 0, 0, []), (1, .istore_n 1, 1, 1, 0, 0, 0, 0, []), (2, .iconst 0, 1, 0, 0, 0, 0, 0, []), (3, .istore_n 2, 1, 2, 0, 0, 0, 0, []), (4, .iload_n 2, 1, 2, 0, 0, 0, 0, []), (5, .aload_n 0, 1, 0, 0, 0, 0, 0, []), (6, .invokevirtual 272, 3, 0, 1, 2, 0, 0, [(0, 12)]), (9, .if_icmp .ge 78, 3, 87, 0, 0, 0, 0, []), (12, .aload_n 0, 1, 0, 0, 0, 0, 0, []), (13, .iload_n 2, 1, 2, 0, 0, 0, 0, []), (14, .invokevirtual 331, 3, 1, 2, 6, 0, 0, [(0, 12)])],
  [(17, .istore_n 3, 1, 3, 0, 0, 0, 0, []), (18, .iconst 0, 1, 0, 0, 0, 0, 0, []), (19, .istore 4, 2, 4, 0, 0, 0, 0, []), (21, .iload 4, 2, 4, 0, 0, 0, 0, []), (23, .iload_n 2, 1, 2, 0, 0, 0, 0, []), (24, .if_icmp .ge 45, 3, 69, 0, 0, 0, 0, []), (27, .iload_n 3, 1, 3, 0, 0, 0, 0, []), (28, .ifCond .eq 33, 3, 61, 0, 0, 0, 0, []), (31, .aload_n 0, 1, 0, 0, 0, 0, 0, [])],
  [(32, .iload 4, 2, 4, 0, 0, 0, 0, []), (34, .invokevirtual 331, 3, 1, 2, 6, 0, 0, [(0, 12)]), (37, .ifCond .eq 20, 3, 57, 0, 0, 0, 0, []), (40, .aload_n 0, 1, 0, 0, 0, 0, 0, []), (41, .getfield 57, 3, 12, 27, 11, 2, 27, []), (44, .bipush 6, 2, 0, 0, 0, 0, 6, []), (46, .iload 4, 2, 4, 0, 0, 0, 0, [])],
  [(48, .imul, 1, 0, 0, 0, 0, 0, []), (49, .iload_n 2, 1, 2, 0, 0, 0, 0, []), (50, .iadd, 1, 0, 0, 0, 0, 0, []), (51, .iaload, 1, 0, 0, 0, 0, 0, []), (52, .bipush (-2), 2, 0, 0, 0, 0, (-2), []), (54, .if_icmp .eq 7, 3, 61, 0, 0, 0, 0, []), (57, .iconst 1, 1, 0, 0, 0, 0, 1, []), (58, .goto 4, 3, 62, 0, 0, 0, 0, []), (61, .iconst 0, 1, 0, 0, 0, 0, 0, []), (62, .istore_n 3, 1, 3, 0, 0, 0, 0, []), (63, .iinc 4 1, 3, 4, 0, 0, 0, 1, [])],
  [(66, .goto (-45), 3, 21, 0, 0, 0, 0, []), (69, .iload_n 1, 1, 1, 0, 0, 0, 0, []), (70, .iload_n 3, 1, 3, 0, 0, 0, 0, []), (71, .ifCond .eq 7, 3, 78, 0, 0, 0, 0, []), (74, .iconst 1, 1, 0, 0, 0, 0, 1, []), (75, .goto 4, 3, 79, 0, 0, 0, 0, []), (78, .iconst 0, 1, 0, 0, 0, 0, 0, []), (79, .iadd, 1, 0, 0, 0, 0, 0, [])],
  [(80, .istore_n 1, 1, 1, 0, 0, 0, 0, []), (81, .iinc 2 1, 3, 2, 0, 0, 0, 1, []), (84, .goto (-80), 3, 4, 0, 0, 0, 0, []), (87, .iload_n 1, 1, 1, 0, 0, 0, 0, []), (88, .ireturn, 1, 0, 0, 0, 0, 0, [])]]
def i_N_kinds : ai_I := ((⟨"SuiteBenchModel", "kinds", "()I"⟩, prog_14_method_56_code, 5, (some .int), 0, 1, 21, 0, 0, 0, 12) : ai_I)
def o_N_kinds (a : Nat) : SP := match a with
  | 0 => f_N_states
  | 1 => f_N_isReached
  | _ => fun _ _ _ _ _ => False
theorem mo_N_kinds : ∀ a, ai_mono (o_N_kinds a)
  | 0 => mf_N_states
  | 1 => mf_N_isReached
  | _ + 2 => fun _ _ _ _ _ _ _ h => h
def f_N_kinds : SP := ai_M o_N_kinds 0 5 k_N_kinds
theorem mf_N_kinds : ai_mono f_N_kinds := M_mono mo_N_kinds
abbrev cal_N_kinds : List ai_I := [i_N_states, i_N_isReached]
theorem a_N_kinds : ai_all "SuiteBenchModel" prog_14_method_56_code 5 kc_N cal_N_kinds 1 21 false (some .int) k_N_kinds = true := by decide +kernel
theorem w_N_kinds : ai_CW i_N_kinds := ⟨(tk_mem (l := [((Jvm.Cond.code ({ cls := "SuiteBenchModel", name := "kinds", desc := "()I" } : Jvm.MethodName) prog_14_method_56_code (5 : Nat) (Option.some Jvm.ClassFile.FieldType.int)), 10, 114)]) (by decide +kernel) _ (List.mem_singleton.mpr rfl)), (tk_mem (l := [((Jvm.Cond.initialized "SuiteBenchModel"), 1, 15)]) (by decide +kernel) _ (List.mem_singleton.mpr rfl)), ⟨by decide +kernel, by decide +kernel, by decide +kernel⟩, ⟨(tk_mem (l := [((Jvm.Cond.instanceMethod ({ cls := "SuiteBenchModel", name := "kinds", desc := "()I" } : Jvm.MethodName)), 10, 113)]) (by decide +kernel) _ (List.mem_singleton.mpr rfl)), gw_sel 148 (by decide +kernel), .inl ⟨_, _, rfl⟩⟩⟩
theorem c_N_kinds {E2 : (Nat → Nat) → State → Heap → Prop} (hE : ai_XH E2) : ai_S E2 i_N_kinds f_N_kinds := snd_M (by decide) rfl (by decide) a_N_kinds kc_N_ok (by rfl) (by decide) (fun a i h => match a, h with
    | 0, h => by cases h; exact ⟨c_N_states hE, w_N_states⟩
    | 1, h => by cases h; exact ⟨c_N_isReached hE, w_N_isReached⟩
    | _ + 2, h => by simp [cal_N_kinds, ai_nth] at h)
def k_N_twisted : ai_C := [
  [(0, .iconst 0, 1, 0, 0, 0, 0, 0, []), (1, .istore_n 1, 1, 1, 0, 0, 0, 0, []), (2, .iconst 0, 1, 0, 0, 0, 0, 0, []), (3, .istore_n 2, 1, 2, 0, 0, 0, 0, []), (4, .iload_n 2, 1, 2, 0, 0, 0, 0, []), (5, .aload_n 0, 1, 0, 0, 0, 0, 0, []), (6, .invokevirtual 266, 3, 0, 1, 104, 0, 0, [(0, 12)]), (9, .if_icmp .ge 84, 3, 93, 0, 0, 0, 0, []), (12, .iconst 0, 1, 0, 0, 0, 0, 0, []), (13, .istore_n 3, 1, 3, 0, 0, 0, 0, []), (14, .iload_n 3, 1, 3, 0, 0, 0, 0, []), (15, .aload_n 0, 1, 0, 0, 0, 0, 0, [])],
  [(16, .invokevirtual 269, 3, 1, 1, 3, 0, 0, [(0, 12)]), (19, .if_icmp .ge 68, 3, 87, 0, 0, 0, 0, []), (22, .iconst 3, 1, 0, 0, 0, 0, 3, []), (23, .iload_n 2, 1, 2, 0, 0, 0, 0, []), (24, .imul, 1, 0, 0, 0, 0, 0, []), (25, .iload_n 3, 1, 3, 0, 0, 0, 0, []), (26, .iadd, 1, 0, 0, 0, 0, 0, []), (27, .istore 4, 2, 4, 0, 0, 0, 0, []), (29, .iload_n 1, 1, 1, 0, 0, 0, 0, []), (30, .aload_n 0, 1, 0, 0, 0, 0, 0, []), (31, .getfield 38, 3, 12, 20, 4, 2, 20, [])],
  [(34, .bipush 24, 2, 0, 0, 0, 0, 24, []), (36, .iload 4, 2, 4, 0, 0, 0, 0, []), (38, .iadd, 1, 0, 0, 0, 0, 0, []), (39, .iaload, 1, 0, 0, 0, 0, 0, []), (40, .aload_n 0, 1, 0, 0, 0, 0, 0, []), (41, .getfield 38, 3, 12, 20, 4, 2, 20, []), (44, .iconst 0, 1, 0, 0, 0, 0, 0, []), (45, .iload 4, 2, 4, 0, 0, 0, 0, []), (47, .iadd, 1, 0, 0, 0, 0, 0, [])],
  [(48, .iaload, 1, 0, 0, 0, 0, 0, []), (49, .if_icmp .ne 25, 3, 74, 0, 0, 0, 0, []), (52, .aload_n 0, 1, 0, 0, 0, 0, 0, []), (53, .getfield 41, 3, 12, 21, 10, 2, 21, []), (56, .bipush 24, 2, 0, 0, 0, 0, 24, []), (58, .iload 4, 2, 4, 0, 0, 0, 0, []), (60, .iadd, 1, 0, 0, 0, 0, 0, []), (61, .iaload, 1, 0, 0, 0, 0, 0, []), (62, .aload_n 0, 1, 0, 0, 0, 0, 0, []), (63, .getfield 41, 3, 12, 21, 10, 2, 21, [])],
  [(66, .iconst 0, 1, 0, 0, 0, 0, 0, []), (67, .iload 4, 2, 4, 0, 0, 0, 0, []), (69, .iadd, 1, 0, 0, 0, 0, 0, []), (70, .iaload, 1, 0, 0, 0, 0, 0, []), (71, .if_icmp .eq 7, 3, 78, 0, 0, 0, 0, []), (74, .iconst 1, 1, 0, 0, 0, 0, 1, []), (75, .goto 4, 3, 79, 0, 0, 0, 0, []), (78, .iconst 0, 1, 0, 0, 0, 0, 0, []), (79, .iadd, 1, 0, 0, 0, 0, 0, [])],
  [(80, .istore_n 1, 1, 1, 0, 0, 0, 0, []), (81, .iinc 3 1, 3, 3, 0, 0, 0, 1, []), (84, .goto (-70), 3, 14, 0, 0, 0, 0, []), (87, .iinc 2 1, 3, 2, 0, 0, 0, 1, []), (90, .goto (-86), 3, 4, 0, 0, 0, 0, []), (93, .iload_n 1, 1, 1, 0, 0, 0, 0, []), (94, .ireturn, 1, 0, 0, 0, 0, 0, [])]]
def i_N_twisted : ai_I := ((⟨"SuiteBenchModel", "twisted", "()I"⟩, prog_14_method_135_code, 5, (some .int), 0, 1, 20, 0, 0, 0, 12) : ai_I)
def o_N_twisted (a : Nat) : SP := match a with
  | 0 => f_N_places
  | 1 => f_N_inputs
  | _ => fun _ _ _ _ _ => False
theorem mo_N_twisted : ∀ a, ai_mono (o_N_twisted a)
  | 0 => mf_N_places
  | 1 => mf_N_inputs
  | _ + 2 => fun _ _ _ _ _ _ _ h => h
def f_N_twisted : SP := ai_M o_N_twisted 0 5 k_N_twisted
theorem mf_N_twisted : ai_mono f_N_twisted := M_mono mo_N_twisted
abbrev cal_N_twisted : List ai_I := [i_N_places, i_N_inputs]
theorem a_N_twisted : ai_all "SuiteBenchModel" prog_14_method_135_code 5 kc_N cal_N_twisted 1 20 false (some .int) k_N_twisted = true := by decide +kernel
theorem w_N_twisted : ai_CW i_N_twisted := ⟨(tk_mem (l := [((Jvm.Cond.code ({ cls := "SuiteBenchModel", name := "twisted", desc := "()I" } : Jvm.MethodName) prog_14_method_135_code (5 : Nat) (Option.some Jvm.ClassFile.FieldType.int)), 10, 118)]) (by decide +kernel) _ (List.mem_singleton.mpr rfl)), (tk_mem (l := [((Jvm.Cond.initialized "SuiteBenchModel"), 1, 15)]) (by decide +kernel) _ (List.mem_singleton.mpr rfl)), ⟨by decide +kernel, by decide +kernel, by decide +kernel⟩, ⟨(tk_mem (l := [((Jvm.Cond.instanceMethod ({ cls := "SuiteBenchModel", name := "twisted", desc := "()I" } : Jvm.MethodName)), 10, 117)]) (by decide +kernel) _ (List.mem_singleton.mpr rfl)), gw_sel 149 (by decide +kernel), .inl ⟨_, _, rfl⟩⟩⟩
theorem c_N_twisted {E2 : (Nat → Nat) → State → Heap → Prop} (hE : ai_XH E2) : ai_S E2 i_N_twisted f_N_twisted := snd_M (by decide) rfl (by decide) a_N_twisted kc_N_ok (by rfl) (by decide) (fun a i h => match a, h with
    | 0, h => by cases h; exact ⟨c_N_places hE, w_N_places⟩
    | 1, h => by cases h; exact ⟨c_N_inputs hE, w_N_inputs⟩
    | _ + 2, h => by simp [cal_N_twisted, ai_nth] at h)
def k_N_builtReached : ai_C := [
  [(0, .aload_n 0, 1, 0, 0, 0, 0, 0, []), (1, .invokevirtual 272, 3, 0, 1, 2, 0, 0, [(0, 12)]), (4, .ifCond .le 7, 3, 11, 0, 0, 0, 0, []), (7, .iconst 1, 1, 0, 0, 0, 0, 1, []), (8, .goto 4, 3, 12, 0, 0, 0, 0, []), (11, .iconst 0, 1, 0, 0, 0, 0, 0, []), (12, .istore_n 1, 1, 1, 0, 0, 0, 0, []), (13, .iconst 0, 1, 0, 0, 0, 0, 0, []), (14, .istore_n 2, 1, 2, 0, 0, 0, 0, []), (15, .iload_n 2, 1, 2, 0, 0, 0, 0, [])],
  [(16, .bipush 8, 2, 0, 0, 0, 0, 8, []), (18, .if_icmp .ge 71, 3, 89, 0, 0, 0, 0, []), (21, .iconst 0, 1, 0, 0, 0, 0, 0, []), (22, .istore_n 3, 1, 3, 0, 0, 0, 0, []), (23, .iload_n 3, 1, 3, 0, 0, 0, 0, []), (24, .aload_n 0, 1, 0, 0, 0, 0, 0, []), (25, .invokevirtual 266, 3, 1, 1, 104, 0, 0, [(0, 12)]), (28, .if_icmp .ge 55, 3, 83, 0, 0, 0, 0, []), (31, .iconst 0, 1, 0, 0, 0, 0, 0, [])],
  [(32, .istore 4, 2, 4, 0, 0, 0, 0, []), (34, .iload 4, 2, 4, 0, 0, 0, 0, []), (36, .aload_n 0, 1, 0, 0, 0, 0, 0, []), (37, .invokevirtual 269, 3, 2, 1, 3, 0, 0, [(0, 12)]), (40, .if_icmp .ge 37, 3, 77, 0, 0, 0, 0, []), (43, .iload_n 1, 1, 1, 0, 0, 0, 0, []), (44, .iload_n 3, 1, 3, 0, 0, 0, 0, []), (45, .ishr, 1, 0, 0, 0, 0, 0, []), (46, .iconst 1, 1, 0, 0, 0, 0, 1, []), (47, .iand, 1, 0, 0, 0, 0, 0, [])],
  [(48, .iconst 1, 1, 0, 0, 0, 0, 1, []), (49, .if_icmp .ne 22, 3, 71, 0, 0, 0, 0, []), (52, .iload_n 1, 1, 1, 0, 0, 0, 0, []), (53, .iconst 1, 1, 0, 0, 0, 0, 1, []), (54, .aload_n 0, 1, 0, 0, 0, 0, 0, []), (55, .getfield 38, 3, 12, 20, 4, 2, 20, []), (58, .bipush 24, 2, 0, 0, 0, 0, 24, []), (60, .iconst 3, 1, 0, 0, 0, 0, 3, []), (61, .iload_n 3, 1, 3, 0, 0, 0, 0, []), (62, .imul, 1, 0, 0, 0, 0, 0, []), (63, .iadd, 1, 0, 0, 0, 0, 0, [])],
  [(64, .iload 4, 2, 4, 0, 0, 0, 0, []), (66, .iadd, 1, 0, 0, 0, 0, 0, []), (67, .iaload, 1, 0, 0, 0, 0, 0, []), (68, .ishl, 1, 0, 0, 0, 0, 0, []), (69, .ior, 1, 0, 0, 0, 0, 0, []), (70, .istore_n 1, 1, 1, 0, 0, 0, 0, []), (71, .iinc 4 1, 3, 4, 0, 0, 0, 1, []), (74, .goto (-40), 3, 34, 0, 0, 0, 0, []), (77, .iinc 3 1, 3, 3, 0, 0, 0, 1, [])],
  [(80, .goto (-57), 3, 23, 0, 0, 0, 0, []), (83, .iinc 2 1, 3, 2, 0, 0, 0, 1, []), (86, .goto (-71), 3, 15, 0, 0, 0, 0, []), (89, .iload_n 1, 1, 1, 0, 0, 0, 0, []), (90, .i2l, 1, 0, 0, 0, 0, 0, []), (91, .invokestatic 485, 3, 3, 1, 157, 0, 0, [(0, 12)]), (94, .ireturn, 1, 0, 0, 0, 0, 0, [])]]
def i_N_builtReached : ai_I := ((⟨"SuiteBenchModel", "builtReached", "()I"⟩, prog_14_method_136_code, 5, (some .int), 0, 1, 24, 0, 0, 0, 12) : ai_I)
def o_N_builtReached (a : Nat) : SP := match a with
  | 0 => f_N_states
  | 1 => f_N_places
  | 2 => f_N_inputs
  | 3 => f_N_bits
  | _ => fun _ _ _ _ _ => False
theorem mo_N_builtReached : ∀ a, ai_mono (o_N_builtReached a)
  | 0 => mf_N_states
  | 1 => mf_N_places
  | 2 => mf_N_inputs
  | 3 => mf_N_bits
  | _ + 4 => fun _ _ _ _ _ _ _ h => h
def f_N_builtReached : SP := ai_M o_N_builtReached 0 5 k_N_builtReached
theorem mf_N_builtReached : ai_mono f_N_builtReached := M_mono mo_N_builtReached
abbrev cal_N_builtReached : List ai_I := [i_N_states, i_N_places, i_N_inputs, i_N_bits]
theorem a_N_builtReached : ai_all "SuiteBenchModel" prog_14_method_136_code 5 kc_N cal_N_builtReached 1 24 false (some .int) k_N_builtReached = true := by decide +kernel
theorem w_N_builtReached : ai_CW i_N_builtReached := ⟨(tk_mem (l := [((Jvm.Cond.code ({ cls := "SuiteBenchModel", name := "builtReached", desc := "()I" } : Jvm.MethodName) prog_14_method_136_code (5 : Nat) (Option.some Jvm.ClassFile.FieldType.int)), 10, 122)]) (by decide +kernel) _ (List.mem_singleton.mpr rfl)), (tk_mem (l := [((Jvm.Cond.initialized "SuiteBenchModel"), 1, 15)]) (by decide +kernel) _ (List.mem_singleton.mpr rfl)), ⟨by decide +kernel, by decide +kernel, by decide +kernel⟩, ⟨(tk_mem (l := [((Jvm.Cond.instanceMethod ({ cls := "SuiteBenchModel", name := "builtReached", desc := "()I" } : Jvm.MethodName)), 10, 121)]) (by decide +kernel) _ (List.mem_singleton.mpr rfl)), gw_sel 150 (by decide +kernel), .inl ⟨_, _, rfl⟩⟩⟩
theorem c_N_builtReached {E2 : (Nat → Nat) → State → Heap → Prop} (hE : ai_XH E2) : ai_S E2 i_N_builtReached f_N_builtReached := snd_M (by decide) rfl (by decide) a_N_builtReached kc_N_ok (by rfl) (by decide) (fun a i h => match a, h with
    | 0, h => by cases h; exact ⟨c_N_states hE, w_N_states⟩
    | 1, h => by cases h; exact ⟨c_N_places hE, w_N_places⟩
    | 2, h => by cases h; exact ⟨c_N_inputs hE, w_N_inputs⟩
    | 3, h => by cases h; exact ⟨c_N_bits hE, w_N_bits⟩
    | _ + 4, h => by simp [cal_N_builtReached, ai_nth] at h)
def k_N_count : ai_C := [
  [(0, .aload_n 0, 1, 0, 0, 0, 0, 0, []), (1, .iconst 0, 1, 0, 0, 0, 0, 0, []), (2, .putfield 145, 3, 12, 0, 67, 0, 0, []), (5, .iload_n 1, 1, 1, 0, 0, 0, 0, []), (6, .tableswitch 131 0 12 #[66, 71, 76, 81, 86, 91, 96, 101, 106, 111, 116, 121, 126], 66, 137, 0, 0, 0, 0, [(0, 72), (1, 77), (2, 82), (3, 87), (4, 92), (5, 97), (6, 102), (7, 107), (8, 112), (9, 117), (10, 122), (11, 127), (12, 132)])],
  [],
  [],
  [],
  [(72, .aload_n 0, 1, 0, 0, 0, 0, 0, []), (73, .invokevirtual 272, 3, 0, 1, 2, 0, 0, [(0, 12)]), (76, .ireturn, 1, 0, 0, 0, 0, 0, []), (77, .aload_n 0, 1, 0, 0, 0, 0, 0, []), (78, .invokevirtual 269, 3, 1, 1, 3, 0, 0, [(0, 12)])],
  [(81, .ireturn, 1, 0, 0, 0, 0, 0, []), (82, .aload_n 0, 1, 0, 0, 0, 0, 0, []), (83, .invokevirtual 266, 3, 2, 1, 104, 0, 0, [(0, 12)]), (86, .ireturn, 1, 0, 0, 0, 0, 0, []), (87, .aload_n 0, 1, 0, 0, 0, 0, 0, []), (88, .invokevirtual 394, 3, 3, 1, 126, 0, 0, [(0, 12)]), (91, .ireturn, 1, 0, 0, 0, 0, 0, []), (92, .aload_n 0, 1, 0, 0, 0, 0, 0, []), (93, .getfield 328, 3, 12, 23, 5, 0, 23, [])],
  [(96, .ireturn, 1, 0, 0, 0, 0, 0, []), (97, .aload_n 0, 1, 0, 0, 0, 0, 0, []), (98, .invokevirtual 530, 3, 4, 1, 173, 0, 0, [(0, 12)]), (101, .ireturn, 1, 0, 0, 0, 0, 0, []), (102, .aload_n 0, 1, 0, 0, 0, 0, 0, []), (103, .invokevirtual 431, 3, 5, 1, 139, 0, 0, [(0, 12)]), (106, .ireturn, 1, 0, 0, 0, 0, 0, []), (107, .aload_n 0, 1, 0, 0, 0, 0, 0, []), (108, .getfield 341, 3, 12, 29, 16, 0, 29, []), (111, .ireturn, 1, 0, 0, 0, 0, 0, [])],
  [(112, .aload_n 0, 1, 0, 0, 0, 0, 0, []), (113, .invokevirtual 449, 3, 6, 1, 145, 0, 0, [(0, 12)]), (116, .ireturn, 1, 0, 0, 0, 0, 0, []), (117, .aload_n 0, 1, 0, 0, 0, 0, 0, []), (118, .getfield 275, 3, 12, 61, 32, 0, 61, []), (121, .ireturn, 1, 0, 0, 0, 0, 0, []), (122, .aload_n 0, 1, 0, 0, 0, 0, 0, []), (123, .getfield 278, 3, 12, 67, 33, 0, 67, []), (126, .ireturn, 1, 0, 0, 0, 0, 0, []), (127, .aload_n 0, 1, 0, 0, 0, 0, 0, [])],
  [(128, .invokevirtual 533, 3, 7, 1, 174, 0, 0, [(0, 12)]), (131, .ireturn, 1, 0, 0, 0, 0, 0, []), (132, .aload_n 0, 1, 0, 0, 0, 0, 0, []), (133, .invokevirtual 536, 3, 8, 1, 175, 0, 0, [(0, 12)]), (136, .ireturn, 1, 0, 0, 0, 0, 0, []), (137, .iconst (-1), 1, 0, 0, 0, 0, (-1), []), (138, .ireturn, 1, 0, 0, 0, 0, 0, [])]]
def i_N_count : ai_I := ((⟨"SuiteBenchModel", "count", "(I)I"⟩, prog_14_method_137_code, 2, (some .int), 0, 3, 64, 0, 1, 0, 12) : ai_I)
def o_N_count (a : Nat) : SP := match a with
  | 0 => f_N_states
  | 1 => f_N_inputs
  | 2 => f_N_places
  | 3 => f_N_extra
  | 4 => f_N_kinds
  | 5 => f_N_top
  | 6 => f_N_mutantMany
  | 7 => f_N_twisted
  | 8 => f_N_builtReached
  | _ => fun _ _ _ _ _ => False
theorem mo_N_count : ∀ a, ai_mono (o_N_count a)
  | 0 => mf_N_states
  | 1 => mf_N_inputs
  | 2 => mf_N_places
  | 3 => mf_N_extra
  | 4 => mf_N_kinds
  | 5 => mf_N_top
  | 6 => mf_N_mutantMany
  | 7 => mf_N_twisted
  | 8 => mf_N_builtReached
  | _ + 9 => fun _ _ _ _ _ _ _ h => h
def f_N_count : SP := ai_M o_N_count 0 2 k_N_count
theorem mf_N_count : ai_mono f_N_count := M_mono mo_N_count
abbrev cal_N_count : List ai_I := [i_N_states, i_N_inputs, i_N_places, i_N_extra, i_N_kinds, i_N_top, i_N_mutantMany, i_N_twisted, i_N_builtReached]
theorem a_N_count : ai_all "SuiteBenchModel" prog_14_method_137_code 2 kc_N cal_N_count 3 64 false (some .int) k_N_count = true := by decide +kernel
theorem w_N_count : ai_CW i_N_count := ⟨(tk_mem (l := [((Jvm.Cond.code ({ cls := "SuiteBenchModel", name := "count", desc := "(I)I" } : Jvm.MethodName) prog_14_method_137_code (2 : Nat) (Option.some Jvm.ClassFile.FieldType.int)), 10, 110)]) (by decide +kernel) _ (List.mem_singleton.mpr rfl)), (tk_mem (l := [((Jvm.Cond.initialized "SuiteBenchModel"), 1, 15)]) (by decide +kernel) _ (List.mem_singleton.mpr rfl)), ⟨by decide +kernel, by decide +kernel, by decide +kernel⟩, ⟨(tk_mem (l := [((Jvm.Cond.instanceMethod ({ cls := "SuiteBenchModel", name := "count", desc := "(I)I" } : Jvm.MethodName)), 10, 108)]) (by decide +kernel) _ (List.mem_singleton.mpr rfl)), (tk_mem (l := [((Jvm.Cond.selects "SuiteBenchModel" ({ cls := "SuiteBenchModel", name := "count", desc := "(I)I" } : Jvm.MethodName) ({ cls := "SuiteBenchModel", name := "count", desc := "(I)I" } : Jvm.MethodName)), 10, 109)]) (by decide +kernel) _ (List.mem_singleton.mpr rfl)), .inl ⟨_, _, rfl⟩⟩⟩
theorem c_N_count {E2 : (Nat → Nat) → State → Heap → Prop} (hE : ai_XH E2) : ai_S E2 i_N_count f_N_count := snd_M (by decide) rfl (by decide) a_N_count kc_N_ok (by rfl) (by decide) (fun a i h => match a, h with
    | 0, h => by cases h; exact ⟨c_N_states hE, w_N_states⟩
    | 1, h => by cases h; exact ⟨c_N_inputs hE, w_N_inputs⟩
    | 2, h => by cases h; exact ⟨c_N_places hE, w_N_places⟩
    | 3, h => by cases h; exact ⟨c_N_extra hE, w_N_extra⟩
    | 4, h => by cases h; exact ⟨c_N_kinds hE, w_N_kinds⟩
    | 5, h => by cases h; exact ⟨c_N_top hE, w_N_top⟩
    | 6, h => by cases h; exact ⟨c_N_mutantMany hE, w_N_mutantMany⟩
    | 7, h => by cases h; exact ⟨c_N_twisted hE, w_N_twisted⟩
    | 8, h => by cases h; exact ⟨c_N_builtReached hE, w_N_builtReached⟩
    | _ + 9, h => by simp [cal_N_count, ai_nth] at h)
