/-! the code of the methods, by program; what it rests on, looked at; the contracts -/
def k_S_findForAll : ai_C := [
  [(0, .aload_n 0, 1, 0, 0, 0, 0, 0, []), (1, .getfield 37, 3, 5, 1, 10, 2, 1, []), (4, .getfield 81, 3, 9, 8, 18, 0, 8, []), (7, .invokestatic 93, 3, 0, 1, 24, 0, 0, [(0, 99)]), (10, .iconst 2, 1, 0, 0, 0, 0, 2, []), (11, .if_icmp .ge 5, 3, 16, 0, 0, 0, 0, []), (14, .iconst 0, 1, 0, 0, 0, 0, 0, []), (15, .ireturn, 1, 0, 0, 0, 0, 0, [])],
  [(16, .bipush (-2), 2, 0, 0, 0, 0, (-2), []), (18, .istore_n 2, 1, 2, 0, 0, 0, 0, []), (19, .aload_n 0, 1, 0, 0, 0, 0, 0, []), (20, .aload_n 0, 1, 0, 0, 0, 0, 0, []), (21, .getfield 37, 3, 5, 1, 10, 2, 1, []), (24, .getfield 81, 3, 9, 8, 18, 0, 8, []), (27, .iconst 0, 1, 0, 0, 0, 0, 0, []), (28, .invokevirtual 61, 3, 1, 3, 19, 9, 0, [(0, 5)]), (31, .iconst 0, 1, 0, 0, 0, 0, 0, [])],
  [(32, .istore_n 3, 1, 3, 0, 0, 0, 0, []), (33, .iload_n 3, 1, 3, 0, 0, 0, 0, []), (34, .aload_n 0, 1, 0, 0, 0, 0, 0, []), (35, .getfield 52, 3, 5, 10, 14, 0, 10, []), (38, .if_icmp .ge 138, 3, 176, 0, 0, 0, 0, []), (41, .iload_n 3, 1, 3, 0, 0, 0, 0, []), (42, .sipush 3280, 3, 0, 0, 0, 0, 3280, []), (45, .if_icmp .ge 131, 3, 176, 0, 0, 0, 0, [])],
  [(48, .iload_n 2, 1, 2, 0, 0, 0, 0, []), (49, .bipush (-2), 2, 0, 0, 0, 0, (-2), []), (51, .if_icmp .ne 125, 3, 176, 0, 0, 0, 0, []), (54, .iconst 0, 1, 0, 0, 0, 0, 0, []), (55, .istore 4, 2, 4, 0, 0, 0, 0, []), (57, .iload 4, 2, 4, 0, 0, 0, 0, []), (59, .aload_n 0, 1, 0, 0, 0, 0, 0, []), (60, .getfield 33, 3, 5, 0, 9, 2, 0, []), (63, .getfield 65, 3, 1, 3, 20, 0, 3, [])],
  [(66, .if_icmp .ge 104, 3, 170, 0, 0, 0, 0, []), (69, .iload_n 2, 1, 2, 0, 0, 0, 0, []), (70, .bipush (-2), 2, 0, 0, 0, 0, (-2), []), (72, .if_icmp .ne 98, 3, 170, 0, 0, 0, 0, []), (75, .aload_n 0, 1, 0, 0, 0, 0, 0, []), (76, .getfield 15, 3, 5, 3, 3, 2, 3, []), (79, .iload_n 3, 1, 3, 0, 0, 0, 0, [])],
  [(80, .iaload, 1, 0, 0, 0, 0, 0, []), (81, .iconst 4, 1, 0, 0, 0, 0, 4, []), (82, .imul, 1, 0, 0, 0, 0, 0, []), (83, .iload 4, 2, 4, 0, 0, 0, 0, []), (85, .iadd, 1, 0, 0, 0, 0, 0, []), (86, .iconst 1, 1, 0, 0, 0, 0, 1, []), (87, .iadd, 1, 0, 0, 0, 0, 0, []), (88, .istore 5, 2, 5, 0, 0, 0, 0, []), (90, .iload_n 1, 1, 1, 0, 0, 0, 0, []), (91, .ifCond .eq 8, 3, 99, 0, 0, 0, 0, []), (94, .iload_n 1, 1, 1, 0, 0, 0, 0, []), (95, .iconst 1, 1, 0, 0, 0, 0, 1, [])],
  [(96, .if_icmp .ne 27, 3, 123, 0, 0, 0, 0, []), (99, .aload_n 0, 1, 0, 0, 0, 0, 0, []), (100, .aload_n 0, 1, 0, 0, 0, 0, 0, []), (101, .getfield 11, 3, 5, 2, 2, 2, 2, []), (104, .iload_n 3, 1, 3, 0, 0, 0, 0, []), (105, .iaload, 1, 0, 0, 0, 0, 0, []), (106, .iload 4, 2, 4, 0, 0, 0, 0, []), (108, .iload_n 1, 1, 1, 0, 0, 0, 0, []), (109, .ifCond .ne 7, 3, 116, 0, 0, 0, 0, [])],
  [(112, .iconst 1, 1, 0, 0, 0, 0, 1, []), (113, .goto 4, 3, 117, 0, 0, 0, 0, []), (116, .iconst 0, 1, 0, 0, 0, 0, 0, []), (117, .invokevirtual 98, 3, 2, 4, 33, 0, 0, [(0, 5)]), (120, .goto 15, 3, 135, 0, 0, 0, 0, []), (123, .aload_n 0, 1, 0, 0, 0, 0, 0, []), (124, .aload_n 0, 1, 0, 0, 0, 0, 0, []), (125, .getfield 11, 3, 5, 2, 2, 2, 2, [])],
  [(128, .iload_n 3, 1, 3, 0, 0, 0, 0, []), (129, .iaload, 1, 0, 0, 0, 0, 0, []), (130, .iload 4, 2, 4, 0, 0, 0, 0, []), (132, .invokevirtual 102, 3, 3, 3, 26, 0, 0, [(0, 5)]), (135, .istore 6, 2, 6, 0, 0, 0, 0, []), (137, .iload 6, 2, 6, 0, 0, 0, 0, []), (139, .ifCond .ne 9, 3, 148, 0, 0, 0, 0, []), (142, .iload 5, 2, 5, 0, 0, 0, 0, [])],
  [(144, .istore_n 2, 1, 2, 0, 0, 0, 0, []), (145, .goto 19, 3, 164, 0, 0, 0, 0, []), (148, .iload 5, 2, 5, 0, 0, 0, 0, []), (150, .sipush 16384, 3, 0, 0, 0, 0, 16384, []), (153, .if_icmp .ge 11, 3, 164, 0, 0, 0, 0, []), (156, .aload_n 0, 1, 0, 0, 0, 0, 0, []), (157, .iload 6, 2, 6, 0, 0, 0, 0, []), (159, .iload 5, 2, 5, 0, 0, 0, 0, [])],
  [(161, .invokevirtual 61, 3, 1, 3, 19, 9, 0, [(0, 5)]), (164, .iinc 4 1, 3, 4, 0, 0, 0, 1, []), (167, .goto (-110), 3, 57, 0, 0, 0, 0, []), (170, .iinc 3 1, 3, 3, 0, 0, 0, 1, []), (173, .goto (-140), 3, 33, 0, 0, 0, 0, [])],
  [(176, .aload_n 0, 1, 0, 0, 0, 0, 0, []), (177, .invokevirtual 74, 3, 4, 1, 22, 9, 0, [(0, 5)]), (180, .iload_n 2, 1, 2, 0, 0, 0, 0, []), (181, .ireturn, 1, 0, 0, 0, 0, 0, [])]]
def i_S_findForAll : ai_I := ((⟨"SuiteBench$Search", "findForAll", "(I)I"⟩, prog_7_method_10_code, 7, (some .int), 0, 3, 73, 0, 1, 0, 5) : ai_I)
def o_S_findForAll (a : Nat) : SP := match a with
  | 0 => f_J_bitCount
  | 1 => f_S_push
  | 2 => f_S_followGroups
  | 3 => f_S_followAll
  | 4 => f_S_leave
  | _ => fun _ _ _ _ _ => False
theorem mo_S_findForAll : ∀ a, ai_mono (o_S_findForAll a)
  | 0 => mf_J_bitCount
  | 1 => mf_S_push
  | 2 => mf_S_followGroups
  | 3 => mf_S_followAll
  | 4 => mf_S_leave
  | _ + 5 => fun _ _ _ _ _ _ _ h => h
def f_S_findForAll : SP := ai_M o_S_findForAll 0 7 k_S_findForAll
theorem mf_S_findForAll : ai_mono f_S_findForAll := M_mono mo_S_findForAll
abbrev cal_S_findForAll : List ai_I := [i_J_bitCount, i_S_push, i_S_followGroups, i_S_followAll, i_S_leave]
theorem a_S_findForAll : ai_all "SuiteBench$Search" prog_7_method_10_code 7 kc_S cal_S_findForAll 3 73 false (some .int) k_S_findForAll = true := by decide +kernel
theorem w_S_findForAll : ai_CW i_S_findForAll := ⟨(tk_mem (l := [((Jvm.Cond.code ({ cls := "SuiteBench$Search", name := "findForAll", desc := "(I)I" } : Jvm.MethodName) prog_7_method_10_code (7 : Nat) (Option.some Jvm.ClassFile.FieldType.int)), 6, 2)]) (by decide +kernel) _ (List.mem_singleton.mpr rfl)), (tk_mem (l := [((Jvm.Cond.initialized "SuiteBench$Search"), 1, 7)]) (by decide +kernel) _ (List.mem_singleton.mpr rfl)), ⟨by decide +kernel, by decide +kernel, by decide +kernel⟩, ⟨(tk_mem (l := [((Jvm.Cond.instanceMethod ({ cls := "SuiteBench$Search", name := "findForAll", desc := "(I)I" } : Jvm.MethodName)), 6, 1)]) (by decide +kernel) _ (List.mem_singleton.mpr rfl)), gw_sel 52 (by decide +kernel), .inl ⟨_, _, rfl⟩⟩⟩
theorem c_S_findForAll {E2 : (Nat → Nat) → State → Heap → Prop} (hE : ai_XH E2) : ai_S E2 i_S_findForAll f_S_findForAll := snd_M (by decide) rfl (by decide) a_S_findForAll kc_S_ok (by rfl) (by decide) (fun a i h => match a, h with
    | 0, h => by cases h; exact ⟨c_J_bitCount hE, w_J_bitCount⟩
    | 1, h => by cases h; exact ⟨c_S_push hE, w_S_push⟩
    | 2, h => by cases h; exact ⟨c_S_followGroups hE, w_S_followGroups⟩
    | 3, h => by cases h; exact ⟨c_S_followAll hE, w_S_followAll⟩
    | 4, h => by cases h; exact ⟨c_S_leave hE, w_S_leave⟩
    | _ + 5, h => by simp [cal_S_findForAll, ai_nth] at h)
def k_S_wordForAll : ai_C := [
  [(0, .aload_n 0, 1, 0, 0, 0, 0, 0, []), (1, .getfield 24, 3, 5, 6, 6, 2, 6, []), (4, .iload_n 1, 1, 1, 0, 0, 0, 0, []), (5, .iaload, 1, 0, 0, 0, 0, 0, []), (6, .bipush (-9), 2, 0, 0, 0, 0, (-9), []), (8, .if_icmp .ne 14, 3, 22, 0, 0, 0, 0, []), (11, .aload_n 0, 1, 0, 0, 0, 0, 0, []), (12, .getfield 24, 3, 5, 6, 6, 2, 6, []), (15, .iload_n 1, 1, 1, 0, 0, 0, 0, [])],
  [(16, .aload_n 0, 1, 0, 0, 0, 0, 0, []), (17, .iload_n 1, 1, 1, 0, 0, 0, 0, []), (18, .invokevirtual 90, 3, 0, 2, 34, 0, 0, [(0, 5)]), (21, .iastore, 1, 0, 0, 0, 0, 0, []), (22, .aload_n 0, 1, 0, 0, 0, 0, 0, []), (23, .getfield 24, 3, 5, 6, 6, 2, 6, []), (26, .iload_n 1, 1, 1, 0, 0, 0, 0, []), (27, .iaload, 1, 0, 0, 0, 0, 0, []), (28, .ireturn, 1, 0, 0, 0, 0, 0, [])]]
def i_S_wordForAll : ai_I := ((⟨"SuiteBench$Search", "wordForAll", "(I)I"⟩, prog_7_method_9_code, 2, (some .int), 0, 4, 99, 0, 1, 0, 5) : ai_I)
def o_S_wordForAll (a : Nat) : SP := match a with
  | 0 => f_S_findForAll
  | _ => fun _ _ _ _ _ => False
theorem mo_S_wordForAll : ∀ a, ai_mono (o_S_wordForAll a)
  | 0 => mf_S_findForAll
  | _ + 1 => fun _ _ _ _ _ _ _ h => h
def f_S_wordForAll : SP := ai_M o_S_wordForAll 0 2 k_S_wordForAll
theorem mf_S_wordForAll : ai_mono f_S_wordForAll := M_mono mo_S_wordForAll
abbrev cal_S_wordForAll : List ai_I := [i_S_findForAll]
theorem a_S_wordForAll : ai_all "SuiteBench$Search" prog_7_method_9_code 2 kc_S cal_S_wordForAll 4 99 false (some .int) k_S_wordForAll = true := by decide +kernel
theorem w_S_wordForAll : ai_CW i_S_wordForAll := ⟨(tk_mem (l := [((Jvm.Cond.code ({ cls := "SuiteBench$Search", name := "wordForAll", desc := "(I)I" } : Jvm.MethodName) prog_7_method_9_code (2 : Nat) (Option.some Jvm.ClassFile.FieldType.int)), 5, 238)]) (by decide +kernel) _ (List.mem_singleton.mpr rfl)), (tk_mem (l := [((Jvm.Cond.initialized "SuiteBench$Search"), 1, 7)]) (by decide +kernel) _ (List.mem_singleton.mpr rfl)), ⟨by decide +kernel, by decide +kernel, by decide +kernel⟩, ⟨(tk_mem (l := [((Jvm.Cond.instanceMethod ({ cls := "SuiteBench$Search", name := "wordForAll", desc := "(I)I" } : Jvm.MethodName)), 5, 236)]) (by decide +kernel) _ (List.mem_singleton.mpr rfl)), (tk_mem (l := [((Jvm.Cond.selects "SuiteBench$Search" ({ cls := "SuiteBench$Search", name := "wordForAll", desc := "(I)I" } : Jvm.MethodName) ({ cls := "SuiteBench$Search", name := "wordForAll", desc := "(I)I" } : Jvm.MethodName)), 5, 237)]) (by decide +kernel) _ (List.mem_singleton.mpr rfl)), .inl ⟨_, _, rfl⟩⟩⟩
theorem c_S_wordForAll {E2 : (Nat → Nat) → State → Heap → Prop} (hE : ai_XH E2) : ai_S E2 i_S_wordForAll f_S_wordForAll := snd_M (by decide) rfl (by decide) a_S_wordForAll kc_S_ok (by rfl) (by decide) (fun a i h => match a, h with
    | 0, h => by cases h; exact ⟨c_S_findForAll hE, w_S_findForAll⟩
    | _ + 1, h => by simp [cal_S_wordForAll, ai_nth] at h)
def k_B_word : ai_C := [
  [(0, .iload_n 1, 1, 1, 0, 0, 0, 0, []), (1, .ifCond .lt 18, 3, 19, 0, 0, 0, 0, []), (4, .iload_n 1, 1, 1, 0, 0, 0, 0, []), (5, .iconst 2, 1, 0, 0, 0, 0, 2, []), (6, .if_icmp .gt 13, 3, 19, 0, 0, 0, 0, []), (9, .aload_n 0, 1, 0, 0, 0, 0, 0, []), (10, .getfield 26, 3, 11, 1, 0, 2, 1, []), (13, .getfield 166, 3, 1, 2, 80, 0, 2, [])],
  [(16, .ifCond .ne 5, 3, 21, 0, 0, 0, 0, []), (19, .iconst (-1), 1, 0, 0, 0, 0, (-1), []), (20, .ireturn, 1, 0, 0, 0, 0, 0, []), (21, .aload_n 0, 1, 0, 0, 0, 0, 0, []), (22, .getfield 47, 3, 11, 4, 12, 2, 4, []), (25, .iload_n 1, 1, 1, 0, 0, 0, 0, []), (26, .invokevirtual 291, 3, 0, 2, 128, 0, 0, [(0, 5)]), (29, .ireturn, 1, 0, 0, 0, 0, 0, [])]]
def i_B_word : ai_I := ((⟨"SuiteBench", "word", "(I)I"⟩, prog_1_method_29_code, 2, (some .int), 0, 5, 120, 0, 1, 0, 11) : ai_I)
def o_B_word (a : Nat) : SP := match a with
  | 0 => f_S_wordForAll
  | _ => fun _ _ _ _ _ => False
theorem mo_B_word : ∀ a, ai_mono (o_B_word a)
  | 0 => mf_S_wordForAll
  | _ + 1 => fun _ _ _ _ _ _ _ h => h
def f_B_word : SP := ai_M o_B_word 0 2 k_B_word
theorem mf_B_word : ai_mono f_B_word := M_mono mo_B_word
abbrev cal_B_word : List ai_I := [i_S_wordForAll]
theorem a_B_word : ai_all "SuiteBench" prog_1_method_29_code 2 kc_B cal_B_word 5 120 false (some .int) k_B_word = true := by decide +kernel
theorem w_B_word : ai_CW i_B_word := ⟨(tk_mem (l := [((Jvm.Cond.code ({ cls := "SuiteBench", name := "word", desc := "(I)I" } : Jvm.MethodName) prog_1_method_29_code (2 : Nat) (Option.some Jvm.ClassFile.FieldType.int)), 5, 234)]) (by decide +kernel) _ (List.mem_singleton.mpr rfl)), (tk_mem (l := [((Jvm.Cond.initialized "SuiteBench"), 1, 1)]) (by decide +kernel) _ (List.mem_singleton.mpr rfl)), ⟨by decide +kernel, by decide +kernel, by decide +kernel⟩, ⟨(tk_mem (l := [((Jvm.Cond.instanceMethod ({ cls := "SuiteBench", name := "word", desc := "(I)I" } : Jvm.MethodName)), 5, 232)]) (by decide +kernel) _ (List.mem_singleton.mpr rfl)), (tk_mem (l := [((Jvm.Cond.selects "SuiteBench" ({ cls := "SuiteBench", name := "word", desc := "(I)I" } : Jvm.MethodName) ({ cls := "SuiteBench", name := "word", desc := "(I)I" } : Jvm.MethodName)), 5, 233)]) (by decide +kernel) _ (List.mem_singleton.mpr rfl)), .inl ⟨_, _, rfl⟩⟩⟩
theorem c_B_word {E2 : (Nat → Nat) → State → Heap → Prop} (hE : ai_XH E2) : ai_S E2 i_B_word f_B_word := snd_M (by decide) rfl (by decide) a_B_word kc_B_ok (by rfl) (by decide) (fun a i h => match a, h with
    | 0, h => by cases h; exact ⟨c_S_wordForAll hE, w_S_wordForAll⟩
    | _ + 1, h => by simp [cal_B_word, ai_nth] at h)
def k_N_isOf : ai_C := [
  [(0, .iconst 0, 1, 0, 0, 0, 0, 0, []), (1, .istore_n 3, 1, 3, 0, 0, 0, 0, []), (2, .iload_n 3, 1, 3, 0, 0, 0, 0, []), (3, .aload_n 0, 1, 0, 0, 0, 0, 0, []), (4, .invokevirtual 272, 3, 0, 1, 2, 0, 0, [(0, 12)]), (7, .if_icmp .ge 132, 3, 139, 0, 0, 0, 0, []), (10, .iconst 0, 1, 0, 0, 0, 0, 0, []), (11, .istore 4, 2, 4, 0, 0, 0, 0, []), (13, .iload 4, 2, 4, 0, 0, 0, 0, []), (15, .iload_n 3, 1, 3, 0, 0, 0, 0, [])],
  [(16, .if_icmp .ge 117, 3, 133, 0, 0, 0, 0, []), (19, .aload_n 0, 1, 0, 0, 0, 0, 0, []), (20, .iload_n 3, 1, 3, 0, 0, 0, 0, []), (21, .invokevirtual 331, 3, 1, 2, 6, 0, 0, [(0, 12)]), (24, .ifCond .eq 103, 3, 127, 0, 0, 0, 0, []), (27, .aload_n 0, 1, 0, 0, 0, 0, 0, []), (28, .iload 4, 2, 4, 0, 0, 0, 0, []), (30, .invokevirtual 331, 3, 1, 2, 6, 0, 0, [(0, 12)])],
  [(33, .ifCond .ne 6, 3, 39, 0, 0, 0, 0, []), (36, .goto 91, 3, 127, 0, 0, 0, 0, []), (39, .aload_n 0, 1, 0, 0, 0, 0, 0, []), (40, .iconst 0, 1, 0, 0, 0, 0, 0, []), (41, .iload_n 3, 1, 3, 0, 0, 0, 0, []), (42, .iload_n 2, 1, 2, 0, 0, 0, 0, []), (43, .invokevirtual 319, 3, 2, 4, 18, 1, 0, [(0, 12)]), (46, .aload_n 0, 1, 0, 0, 0, 0, 0, []), (47, .iconst 0, 1, 0, 0, 0, 0, 0, [])],
  [(48, .iload 4, 2, 4, 0, 0, 0, 0, []), (50, .iload_n 2, 1, 2, 0, 0, 0, 0, []), (51, .invokevirtual 319, 3, 2, 4, 18, 1, 0, [(0, 12)]), (54, .lcmp, 1, 0, 0, 0, 0, 0, []), (55, .ifCond .ne 7, 3, 62, 0, 0, 0, 0, []), (58, .iconst 1, 1, 0, 0, 0, 0, 1, []), (59, .goto 4, 3, 63, 0, 0, 0, 0, []), (62, .iconst 0, 1, 0, 0, 0, 0, 0, []), (63, .istore 5, 2, 5, 0, 0, 0, 0, [])],
  [(65, .aload_n 0, 1, 0, 0, 0, 0, 0, []), (66, .iconst 0, 1, 0, 0, 0, 0, 0, []), (67, .iload_n 3, 1, 3, 0, 0, 0, 0, []), (68, .iload_n 2, 1, 2, 0, 0, 0, 0, []), (69, .invokevirtual 325, 3, 3, 4, 111, 0, 0, [(0, 12)]), (72, .aload_n 0, 1, 0, 0, 0, 0, 0, []), (73, .iconst 0, 1, 0, 0, 0, 0, 0, []), (74, .iload 4, 2, 4, 0, 0, 0, 0, []), (76, .iload_n 2, 1, 2, 0, 0, 0, 0, []), (77, .invokevirtual 325, 3, 3, 4, 111, 0, 0, [(0, 12)])],
  [(80, .if_icmp .ne 7, 3, 87, 0, 0, 0, 0, []), (83, .iconst 1, 1, 0, 0, 0, 0, 1, []), (84, .goto 4, 3, 88, 0, 0, 0, 0, []), (87, .iconst 0, 1, 0, 0, 0, 0, 0, []), (88, .istore 6, 2, 6, 0, 0, 0, 0, []), (90, .iload_n 1, 1, 1, 0, 0, 0, 0, []), (91, .ifCond .ne 11, 3, 102, 0, 0, 0, 0, []), (94, .iload 5, 2, 5, 0, 0, 0, 0, [])],
  [(96, .ifCond .eq 31, 3, 127, 0, 0, 0, 0, []), (99, .goto 26, 3, 125, 0, 0, 0, 0, []), (102, .iload_n 1, 1, 1, 0, 0, 0, 0, []), (103, .iconst 1, 1, 0, 0, 0, 0, 1, []), (104, .if_icmp .ne 16, 3, 120, 0, 0, 0, 0, []), (107, .iload 5, 2, 5, 0, 0, 0, 0, []), (109, .ifCond .eq 18, 3, 127, 0, 0, 0, 0, [])],
  [(112, .iload 6, 2, 6, 0, 0, 0, 0, []), (114, .ifCond .ne 13, 3, 127, 0, 0, 0, 0, []), (117, .goto 8, 3, 125, 0, 0, 0, 0, []), (120, .iload 6, 2, 6, 0, 0, 0, 0, []), (122, .ifCond .ne 5, 3, 127, 0, 0, 0, 0, []), (125, .iconst 0, 1, 0, 0, 0, 0, 0, []), (126, .ireturn, 1, 0, 0, 0, 3, 0, []), (127, .iinc 4 1, 3, 4, 0, 0, 0, 1, [])],
  [(130, .goto (-117), 3, 13, 0, 0, 0, 0, []), (133, .iinc 3 1, 3, 3, 0, 0, 0, 1, []), (136, .goto (-134), 3, 2, 0, 0, 0, 0, []), (139, .iconst 1, 1, 0, 0, 0, 0, 1, []), (140, .ireturn, 1, 0, 0, 0, 3, 0, [])]]
def i_N_isOf : ai_I := ((⟨"SuiteBenchModel", "isOf", "(II)Z"⟩, prog_14_method_109_code, 7, (some .boolean), 3, 2, 51, 0, 2, 0, 12) : ai_I)
def o_N_isOf (a : Nat) : SP := match a with
  | 0 => f_N_states
  | 1 => f_N_isReached
  | 2 => f_N_answers
  | 3 => f_N_leadsTo
  | _ => fun _ _ _ _ _ => False
theorem mo_N_isOf : ∀ a, ai_mono (o_N_isOf a)
  | 0 => mf_N_states
  | 1 => mf_N_isReached
  | 2 => mf_N_answers
  | 3 => mf_N_leadsTo
  | _ + 4 => fun _ _ _ _ _ _ _ h => h
def f_N_isOf : SP := ai_M o_N_isOf 0 7 k_N_isOf
theorem mf_N_isOf : ai_mono f_N_isOf := M_mono mo_N_isOf
abbrev cal_N_isOf : List ai_I := [i_N_states, i_N_isReached, i_N_answers, i_N_leadsTo]
theorem a_N_isOf : ai_all "SuiteBenchModel" prog_14_method_109_code 7 kc_N cal_N_isOf 2 51 false (some .boolean) k_N_isOf = true := by decide +kernel
theorem w_N_isOf : ai_CW i_N_isOf := ⟨(tk_mem (l := [((Jvm.Cond.code ({ cls := "SuiteBenchModel", name := "isOf", desc := "(II)Z" } : Jvm.MethodName) prog_14_method_109_code (7 : Nat) (Option.some Jvm.ClassFile.FieldType.boolean)), 10, 12)]) (by decide +kernel) _ (List.mem_singleton.mpr rfl)), (tk_mem (l := [((Jvm.Cond.initialized "SuiteBenchModel"), 1, 15)]) (by decide +kernel) _ (List.mem_singleton.mpr rfl)), ⟨by decide +kernel, by decide +kernel, by decide +kernel⟩, ⟨(tk_mem (l := [((Jvm.Cond.instanceMethod ({ cls := "SuiteBenchModel", name := "isOf", desc := "(II)Z" } : Jvm.MethodName)), 10, 11)]) (by decide +kernel) _ (List.mem_singleton.mpr rfl)), gw_sel 138 (by decide +kernel), .inl ⟨_, _, rfl⟩⟩⟩
theorem c_N_isOf {E2 : (Nat → Nat) → State → Heap → Prop} (hE : ai_XH E2) : ai_S E2 i_N_isOf f_N_isOf := snd_M (by decide) rfl (by decide) a_N_isOf kc_N_ok (by rfl) (by decide) (fun a i h => match a, h with
    | 0, h => by cases h; exact ⟨c_N_states hE, w_N_states⟩
    | 1, h => by cases h; exact ⟨c_N_isReached hE, w_N_isReached⟩
    | 2, h => by cases h; exact ⟨c_N_answers hE, w_N_answers⟩
    | 3, h => by cases h; exact ⟨c_N_leadsTo hE, w_N_leadsTo⟩
    | _ + 4, h => by simp [cal_N_isOf, ai_nth] at h)
def k_N_word : ai_C := [
  [(0, .aload_n 0, 1, 0, 0, 0, 0, 0, []), (1, .iconst 0, 1, 0, 0, 0, 0, 0, []), (2, .putfield 145, 3, 12, 0, 67, 0, 0, []), (5, .iload_n 1, 1, 1, 0, 0, 0, 0, []), (6, .ifCond .lt 15, 3, 21, 0, 0, 0, 0, []), (9, .iload_n 1, 1, 1, 0, 0, 0, 0, []), (10, .iconst 2, 1, 0, 0, 0, 0, 2, []), (11, .if_icmp .gt 10, 3, 21, 0, 0, 0, 0, []), (14, .aload_n 0, 1, 0, 0, 0, 0, 0, []), (15, .invokevirtual 272, 3, 0, 1, 2, 0, 0, [(0, 12)])],
  [(18, .ifCond .ne 5, 3, 23, 0, 0, 0, 0, []), (21, .iconst (-1), 1, 0, 0, 0, 0, (-1), []), (22, .ireturn, 1, 0, 0, 0, 0, 0, []), (23, .aload_n 0, 1, 0, 0, 0, 0, 0, []), (24, .getfield 114, 3, 12, 55, 27, 2, 55, []), (27, .iload_n 1, 1, 1, 0, 0, 0, 0, []), (28, .baload, 1, 0, 0, 0, 52, 0, []), (29, .ifCond .eq 10, 3, 39, 0, 0, 0, 0, [])],
  [(32, .aload_n 0, 1, 0, 0, 0, 0, 0, []), (33, .getfield 111, 3, 12, 54, 57, 2, 54, []), (36, .iload_n 1, 1, 1, 0, 0, 0, 0, []), (37, .iaload, 1, 0, 0, 0, 0, 0, []), (38, .ireturn, 1, 0, 0, 0, 0, 0, []), (39, .aload_n 0, 1, 0, 0, 0, 0, 0, []), (40, .getfield 114, 3, 12, 55, 27, 2, 55, []), (43, .iload_n 1, 1, 1, 0, 0, 0, 0, []), (44, .iconst 1, 1, 0, 0, 0, 0, 1, []), (45, .bastore, 1, 0, 0, 0, 52, 0, []), (46, .aload_n 0, 1, 0, 0, 0, 0, 0, []), (47, .getfield 111, 3, 12, 54, 57, 2, 54, [])],
  [(50, .iload_n 1, 1, 1, 0, 0, 0, 0, []), (51, .bipush (-2), 2, 0, 0, 0, 0, (-2), []), (53, .iastore, 1, 0, 0, 0, 0, 0, []), (54, .iconst 0, 1, 0, 0, 0, 0, 0, []), (55, .istore_n 2, 1, 2, 0, 0, 0, 0, []), (56, .aload_n 0, 1, 0, 0, 0, 0, 0, []), (57, .getfield 111, 3, 12, 54, 57, 2, 54, []), (60, .iload_n 1, 1, 1, 0, 0, 0, 0, []), (61, .iaload, 1, 0, 0, 0, 0, 0, []), (62, .bipush (-2), 2, 0, 0, 0, 0, (-2), [])],
  [(64, .if_icmp .ne 51, 3, 115, 0, 0, 0, 0, []), (67, .iload_n 2, 1, 2, 0, 0, 0, 0, []), (68, .invokestatic 298, 3, 1, 1, 13, 0, 0, [(0, 12)]), (71, .bipush 8, 2, 0, 0, 0, 0, 8, []), (73, .if_icmp .gt 42, 3, 115, 0, 0, 0, 0, []), (76, .aload_n 0, 1, 0, 0, 0, 0, 0, []), (77, .iload_n 1, 1, 1, 0, 0, 0, 0, []), (78, .iload_n 2, 1, 2, 0, 0, 0, 0, []), (79, .invokevirtual 482, 3, 2, 3, 156, 0, 0, [(0, 12)])],
  [(82, .ifCond .eq 10, 3, 92, 0, 0, 0, 0, []), (85, .aload_n 0, 1, 0, 0, 0, 0, 0, []), (86, .getfield 111, 3, 12, 54, 57, 2, 54, []), (89, .iload_n 1, 1, 1, 0, 0, 0, 0, []), (90, .iload_n 2, 1, 2, 0, 0, 0, 0, []), (91, .iastore, 1, 0, 0, 0, 0, 0, []), (92, .aload_n 0, 1, 0, 0, 0, 0, 0, []), (93, .invokevirtual 269, 3, 3, 1, 3, 0, 0, [(0, 12)])],
  [(96, .ifCond .ne 10, 3, 106, 0, 0, 0, 0, []), (99, .aload_n 0, 1, 0, 0, 0, 0, 0, []), (100, .getfield 111, 3, 12, 54, 57, 2, 54, []), (103, .iload_n 1, 1, 1, 0, 0, 0, 0, []), (104, .iaload, 1, 0, 0, 0, 0, 0, []), (105, .ireturn, 1, 0, 0, 0, 0, 0, []), (106, .aload_n 0, 1, 0, 0, 0, 0, 0, []), (107, .iload_n 2, 1, 2, 0, 0, 0, 0, []), (108, .invokevirtual 358, 3, 4, 2, 115, 0, 0, [(0, 12)]), (111, .istore_n 2, 1, 2, 0, 0, 0, 0, [])],
  [(112, .goto (-56), 3, 56, 0, 0, 0, 0, []), (115, .aload_n 0, 1, 0, 0, 0, 0, 0, []), (116, .getfield 111, 3, 12, 54, 57, 2, 54, []), (119, .iload_n 1, 1, 1, 0, 0, 0, 0, []), (120, .iaload, 1, 0, 0, 0, 0, 0, []), (121, .ireturn, 1, 0, 0, 0, 0, 0, [])]]
def i_N_word : ai_I := ((⟨"SuiteBenchModel", "word", "(I)I"⟩, prog_14_method_110_code, 3, (some .int), 0, 3, 77, 0, 1, 0, 12) : ai_I)
def o_N_word (a : Nat) : SP := match a with
  | 0 => f_N_states
  | 1 => f_N_long1
  | 2 => f_N_isOf
  | 3 => f_N_inputs
  | 4 => f_N_after
  | _ => fun _ _ _ _ _ => False
theorem mo_N_word : ∀ a, ai_mono (o_N_word a)
  | 0 => mf_N_states
  | 1 => mf_N_long1
  | 2 => mf_N_isOf
  | 3 => mf_N_inputs
  | 4 => mf_N_after
  | _ + 5 => fun _ _ _ _ _ _ _ h => h
def f_N_word : SP := ai_M o_N_word 0 3 k_N_word
theorem mf_N_word : ai_mono f_N_word := M_mono mo_N_word
abbrev cal_N_word : List ai_I := [i_N_states, i_N_long1, i_N_isOf, i_N_inputs, i_N_after]
theorem a_N_word : ai_all "SuiteBenchModel" prog_14_method_110_code 3 kc_N cal_N_word 3 77 false (some .int) k_N_word = true := by decide +kernel
theorem w_N_word : ai_CW i_N_word := ⟨(tk_mem (l := [((Jvm.Cond.code ({ cls := "SuiteBenchModel", name := "word", desc := "(I)I" } : Jvm.MethodName) prog_14_method_110_code (3 : Nat) (Option.some Jvm.ClassFile.FieldType.int)), 10, 8)]) (by decide +kernel) _ (List.mem_singleton.mpr rfl)), (tk_mem (l := [((Jvm.Cond.initialized "SuiteBenchModel"), 1, 15)]) (by decide +kernel) _ (List.mem_singleton.mpr rfl)), ⟨by decide +kernel, by decide +kernel, by decide +kernel⟩, ⟨(tk_mem (l := [((Jvm.Cond.instanceMethod ({ cls := "SuiteBenchModel", name := "word", desc := "(I)I" } : Jvm.MethodName)), 10, 6)]) (by decide +kernel) _ (List.mem_singleton.mpr rfl)), (tk_mem (l := [((Jvm.Cond.selects "SuiteBenchModel" ({ cls := "SuiteBenchModel", name := "word", desc := "(I)I" } : Jvm.MethodName) ({ cls := "SuiteBenchModel", name := "word", desc := "(I)I" } : Jvm.MethodName)), 10, 7)]) (by decide +kernel) _ (List.mem_singleton.mpr rfl)), .inl ⟨_, _, rfl⟩⟩⟩
theorem c_N_word {E2 : (Nat → Nat) → State → Heap → Prop} (hE : ai_XH E2) : ai_S E2 i_N_word f_N_word := snd_M (by decide) rfl (by decide) a_N_word kc_N_ok (by rfl) (by decide) (fun a i h => match a, h with
    | 0, h => by cases h; exact ⟨c_N_states hE, w_N_states⟩
    | 1, h => by cases h; exact ⟨c_N_long1 hE, w_N_long1⟩
    | 2, h => by cases h; exact ⟨c_N_isOf hE, w_N_isOf⟩
    | 3, h => by cases h; exact ⟨c_N_inputs hE, w_N_inputs⟩
    | 4, h => by cases h; exact ⟨c_N_after hE, w_N_after⟩
    | _ + 5, h => by simp [cal_N_word, ai_nth] at h)
def k_U_learnFailing : ai_C := [
  [(0, .aload_n 0, 1, 0, 0, 0, 0, 0, []), (1, .getfield 44, 3, 2, 12, 16, 2, 12, []), (4, .iconst 0, 1, 0, 0, 0, 0, 0, []), (5, .invokestatic 61, 3, 0, 2, 27, 9, 0, [(0, 99)]), (8, .aload_n 0, 1, 0, 0, 0, 0, 0, []), (9, .getfield 47, 3, 2, 13, 17, 2, 13, []), (12, .iconst 0, 1, 0, 0, 0, 0, 0, []), (13, .invokestatic 61, 3, 0, 2, 27, 9, 0, [(0, 99)])],
  [(16, .aload_n 0, 1, 0, 0, 0, 0, 0, []), (17, .getfield 12, 3, 2, 3, 5, 2, 3, []), (20, .aload_n 0, 1, 0, 0, 0, 0, 0, []), (21, .getfield 50, 3, 2, 0, 18, 2, 0, []), (24, .invokevirtual 102, 3, 1, 2, 32, 9, 0, [(0, 1)]), (27, .iconst 0, 1, 0, 0, 0, 0, 0, []), (28, .istore_n 3, 1, 3, 0, 0, 0, 0, []), (29, .iload_n 3, 1, 3, 0, 0, 0, 0, []), (30, .aload_n 0, 1, 0, 0, 0, 0, 0, []), (31, .getfield 71, 3, 2, 15, 21, 0, 15, [])],
  [(34, .if_icmp .ge 99, 3, 133, 0, 0, 0, 0, []), (37, .aload_n 0, 1, 0, 0, 0, 0, 0, []), (38, .aload_n 0, 1, 0, 0, 0, 0, 0, []), (39, .getfield 12, 3, 2, 3, 5, 2, 3, []), (42, .iload_n 3, 1, 3, 0, 0, 0, 0, []), (43, .invokevirtual 106, 3, 2, 3, 33, 9, 0, [(0, 2)]), (46, .aload_n 1, 1, 1, 0, 0, 0, 0, []), (47, .aload_n 0, 1, 0, 0, 0, 0, 0, [])],
  [(48, .getfield 12, 3, 2, 3, 5, 2, 3, []), (51, .invokevirtual 152, 3, 3, 2, 43, 9, 0, [(0, 8)]), (54, .iconst 0, 1, 0, 0, 0, 0, 0, []), (55, .istore 4, 2, 4, 0, 0, 0, 0, []), (57, .iload 4, 2, 4, 0, 0, 0, 0, []), (59, .iload_n 2, 1, 2, 0, 0, 0, 0, []), (60, .if_icmp .ge 58, 3, 118, 0, 0, 0, 0, []), (63, .aload_n 1, 1, 1, 0, 0, 0, 0, [])],
  [(64, .iload 4, 2, 4, 0, 0, 0, 0, []), (66, .invokevirtual 155, 3, 4, 2, 44, 0, 0, [(0, 8)]), (69, .ifCond .eq 43, 3, 112, 0, 0, 0, 0, []), (72, .aload_n 0, 1, 0, 0, 0, 0, 0, []), (73, .getfield 44, 3, 2, 12, 16, 2, 12, []), (76, .iload 4, 2, 4, 0, 0, 0, 0, []), (78, .bipush 8, 2, 0, 0, 0, 0, 8, [])],
  [(80, .imul, 1, 0, 0, 0, 0, 0, []), (81, .iload_n 3, 1, 3, 0, 0, 0, 0, []), (82, .iconst 5, 1, 0, 0, 0, 0, 5, []), (83, .ishr, 1, 0, 0, 0, 0, 0, []), (84, .iadd, 1, 0, 0, 0, 0, 0, []), (85, .dup2, 1, 0, 0, 0, 0, 0, []), (86, .iaload, 1, 0, 0, 0, 0, 0, []), (87, .iconst 1, 1, 0, 0, 0, 0, 1, []), (88, .iload_n 3, 1, 3, 0, 0, 0, 0, []), (89, .bipush 31, 2, 0, 0, 0, 0, 31, []), (91, .iand, 1, 0, 0, 0, 0, 0, []), (92, .ishl, 1, 0, 0, 0, 0, 0, []), (93, .ior, 1, 0, 0, 0, 0, 0, []), (94, .iastore, 1, 0, 0, 0, 0, 0, []), (95, .aload_n 0, 1, 0, 0, 0, 0, 0, [])],
  [(96, .getfield 47, 3, 2, 13, 17, 2, 13, []), (99, .iload_n 3, 1, 3, 0, 0, 0, 0, []), (100, .iconst 5, 1, 0, 0, 0, 0, 5, []), (101, .ishr, 1, 0, 0, 0, 0, 0, []), (102, .dup2, 1, 0, 0, 0, 0, 0, []), (103, .iaload, 1, 0, 0, 0, 0, 0, []), (104, .iconst 1, 1, 0, 0, 0, 0, 1, []), (105, .iload_n 3, 1, 3, 0, 0, 0, 0, []), (106, .bipush 31, 2, 0, 0, 0, 0, 31, []), (108, .iand, 1, 0, 0, 0, 0, 0, []), (109, .ishl, 1, 0, 0, 0, 0, 0, []), (110, .ior, 1, 0, 0, 0, 0, 0, []), (111, .iastore, 1, 0, 0, 0, 0, 0, [])],
  [(112, .iinc 4 1, 3, 4, 0, 0, 0, 1, []), (115, .goto (-58), 3, 57, 0, 0, 0, 0, []), (118, .aload_n 0, 1, 0, 0, 0, 0, 0, []), (119, .aload_n 0, 1, 0, 0, 0, 0, 0, []), (120, .getfield 12, 3, 2, 3, 5, 2, 3, []), (123, .iload_n 3, 1, 3, 0, 0, 0, 0, []), (124, .invokevirtual 116, 3, 5, 3, 35, 9, 0, [(0, 2)]), (127, .iinc 3 1, 3, 3, 0, 0, 0, 1, [])],
  [(130, .goto (-101), 3, 29, 0, 0, 0, 0, []), (133, .return_, 1, 0, 0, 0, 0, 0, [])]]
def i_U_learnFailing : ai_I := ((⟨"SuiteBench$Mutants", "learnFailing", "(LSuiteBench$Tests;I)V"⟩, prog_4_method_17_code, 5, none, 9, 3, 68, 0, 2, 0, 2) : ai_I)
def o_U_learnFailing (a : Nat) : SP := match a with
  | 0 => f_J_fill
  | 1 => f_M_copy
  | 2 => f_U_dress
  | 3 => f_E_run
  | 4 => f_E_isFailed
  | 5 => f_U_undress
  | _ => fun _ _ _ _ _ => False
theorem mo_U_learnFailing : ∀ a, ai_mono (o_U_learnFailing a)
  | 0 => mf_J_fill
  | 1 => mf_M_copy
  | 2 => mf_U_dress
  | 3 => mf_E_run
  | 4 => mf_E_isFailed
  | 5 => mf_U_undress
  | _ + 6 => fun _ _ _ _ _ _ _ h => h
def f_U_learnFailing : SP := ai_M o_U_learnFailing 0 5 k_U_learnFailing
theorem mf_U_learnFailing : ai_mono f_U_learnFailing := M_mono mo_U_learnFailing
abbrev cal_U_learnFailing : List ai_I := [i_J_fill, i_M_copy, i_U_dress, i_E_run, i_E_isFailed, i_U_undress]
theorem a_U_learnFailing : ai_all "SuiteBench$Mutants" prog_4_method_17_code 5 kc_U cal_U_learnFailing 3 68 false none k_U_learnFailing = true := by decide +kernel
theorem w_U_learnFailing : ai_CW i_U_learnFailing := ⟨(tk_mem (l := [((Jvm.Cond.code ({ cls := "SuiteBench$Mutants", name := "learnFailing", desc := "(LSuiteBench$Tests;I)V" } : Jvm.MethodName) prog_4_method_17_code (5 : Nat) (Option.none : Option Jvm.ClassFile.FieldType)), 6, 26)]) (by decide +kernel) _ (List.mem_singleton.mpr rfl)), (tk_mem (l := [((Jvm.Cond.initialized "SuiteBench$Mutants"), 1, 11)]) (by decide +kernel) _ (List.mem_singleton.mpr rfl)), ⟨by decide +kernel, by decide +kernel, by decide +kernel⟩, ⟨(tk_mem (l := [((Jvm.Cond.instanceMethod ({ cls := "SuiteBench$Mutants", name := "learnFailing", desc := "(LSuiteBench$Tests;I)V" } : Jvm.MethodName)), 6, 25)]) (by decide +kernel) _ (List.mem_singleton.mpr rfl)), gw_sel 55 (by decide +kernel), .inl ⟨_, _, rfl⟩⟩⟩
theorem c_U_learnFailing {E2 : (Nat → Nat) → State → Heap → Prop} (hE : ai_XH E2) : ai_S E2 i_U_learnFailing f_U_learnFailing := snd_M (by decide) rfl (by decide) a_U_learnFailing kc_U_ok (by rfl) (by decide) (fun a i h => match a, h with
    | 0, h => by cases h; exact ⟨c_J_fill hE, w_J_fill⟩
    | 1, h => by cases h; exact ⟨c_M_copy hE, w_M_copy⟩
    | 2, h => by cases h; exact ⟨c_U_dress hE, w_U_dress⟩
    | 3, h => by cases h; exact ⟨c_E_run hE, w_E_run⟩
    | 4, h => by cases h; exact ⟨c_E_isFailed hE, w_E_isFailed⟩
    | 5, h => by cases h; exact ⟨c_U_undress hE, w_U_undress⟩
    | _ + 6, h => by simp [cal_U_learnFailing, ai_nth] at h)
def k_U_bestTest : ai_C := [
  [(0, .iconst (-1), 1, 0, 0, 0, 0, (-1), []), (1, .istore_n 2, 1, 2, 0, 0, 0, 0, []), (2, .iconst 0, 1, 0, 0, 0, 0, 0, []), (3, .istore_n 3, 1, 3, 0, 0, 0, 0, []), (4, .iconst 0, 1, 0, 0, 0, 0, 0, []), (5, .istore 4, 2, 4, 0, 0, 0, 0, []), (7, .iload 4, 2, 4, 0, 0, 0, 0, []), (9, .iload_n 1, 1, 1, 0, 0, 0, 0, []), (10, .if_icmp .ge 69, 3, 79, 0, 0, 0, 0, []), (13, .iconst 0, 1, 0, 0, 0, 0, 0, []), (14, .istore 5, 2, 5, 0, 0, 0, 0, [])],
  [(16, .iconst 0, 1, 0, 0, 0, 0, 0, []), (17, .istore 6, 2, 6, 0, 0, 0, 0, []), (19, .iload 6, 2, 6, 0, 0, 0, 0, []), (21, .bipush 8, 2, 0, 0, 0, 0, 8, []), (23, .if_icmp .ge 38, 3, 61, 0, 0, 0, 0, []), (26, .iload 5, 2, 5, 0, 0, 0, 0, []), (28, .aload_n 0, 1, 0, 0, 0, 0, 0, []), (29, .getfield 44, 3, 2, 12, 16, 2, 12, [])],
  [(32, .iload 4, 2, 4, 0, 0, 0, 0, []), (34, .bipush 8, 2, 0, 0, 0, 0, 8, []), (36, .imul, 1, 0, 0, 0, 0, 0, []), (37, .iload 6, 2, 6, 0, 0, 0, 0, []), (39, .iadd, 1, 0, 0, 0, 0, 0, []), (40, .iaload, 1, 0, 0, 0, 0, 0, []), (41, .aload_n 0, 1, 0, 0, 0, 0, 0, []), (42, .getfield 47, 3, 2, 13, 17, 2, 13, []), (45, .iload 6, 2, 6, 0, 0, 0, 0, []), (47, .iaload, 1, 0, 0, 0, 0, 0, [])],
  [(48, .iand, 1, 0, 0, 0, 0, 0, []), (49, .invokestatic 158, 3, 0, 1, 45, 0, 0, [(0, 99)]), (52, .iadd, 1, 0, 0, 0, 0, 0, []), (53, .istore 5, 2, 5, 0, 0, 0, 0, []), (55, .iinc 6 1, 3, 6, 0, 0, 0, 1, []), (58, .goto (-39), 3, 19, 0, 0, 0, 0, []), (61, .iload 5, 2, 5, 0, 0, 0, 0, []), (63, .iload_n 3, 1, 3, 0, 0, 0, 0, [])],
  [(64, .if_icmp .le 9, 3, 73, 0, 0, 0, 0, []), (67, .iload 5, 2, 5, 0, 0, 0, 0, []), (69, .istore_n 3, 1, 3, 0, 0, 0, 0, []), (70, .iload 4, 2, 4, 0, 0, 0, 0, []), (72, .istore_n 2, 1, 2, 0, 0, 0, 0, []), (73, .iinc 4 1, 3, 4, 0, 0, 0, 1, []), (76, .goto (-69), 3, 7, 0, 0, 0, 0, []), (79, .iload_n 2, 1, 2, 0, 0, 0, 0, [])],
  [(80, .ireturn, 1, 0, 0, 0, 0, 0, [])]]
def i_U_bestTest : ai_I := ((⟨"SuiteBench$Mutants", "bestTest", "(I)I"⟩, prog_4_method_18_code, 7, (some .int), 0, 1, 20, 0, 1, 0, 2) : ai_I)
def o_U_bestTest (a : Nat) : SP := match a with
  | 0 => f_J_bitCount
  | _ => fun _ _ _ _ _ => False
theorem mo_U_bestTest : ∀ a, ai_mono (o_U_bestTest a)
  | 0 => mf_J_bitCount
  | _ + 1 => fun _ _ _ _ _ _ _ h => h
def f_U_bestTest : SP := ai_M o_U_bestTest 0 7 k_U_bestTest
theorem mf_U_bestTest : ai_mono f_U_bestTest := M_mono mo_U_bestTest
abbrev cal_U_bestTest : List ai_I := [i_J_bitCount]
theorem a_U_bestTest : ai_all "SuiteBench$Mutants" prog_4_method_18_code 7 kc_U cal_U_bestTest 1 20 false (some .int) k_U_bestTest = true := by decide +kernel
theorem w_U_bestTest : ai_CW i_U_bestTest := ⟨(tk_mem (l := [((Jvm.Cond.code ({ cls := "SuiteBench$Mutants", name := "bestTest", desc := "(I)I" } : Jvm.MethodName) prog_4_method_18_code (7 : Nat) (Option.some Jvm.ClassFile.FieldType.int)), 6, 32)]) (by decide +kernel) _ (List.mem_singleton.mpr rfl)), (tk_mem (l := [((Jvm.Cond.initialized "SuiteBench$Mutants"), 1, 11)]) (by decide +kernel) _ (List.mem_singleton.mpr rfl)), ⟨by decide +kernel, by decide +kernel, by decide +kernel⟩, ⟨(tk_mem (l := [((Jvm.Cond.instanceMethod ({ cls := "SuiteBench$Mutants", name := "bestTest", desc := "(I)I" } : Jvm.MethodName)), 6, 31)]) (by decide +kernel) _ (List.mem_singleton.mpr rfl)), gw_sel 56 (by decide +kernel), .inl ⟨_, _, rfl⟩⟩⟩
theorem c_U_bestTest {E2 : (Nat → Nat) → State → Heap → Prop} (hE : ai_XH E2) : ai_S E2 i_U_bestTest f_U_bestTest := snd_M (by decide) rfl (by decide) a_U_bestTest kc_U_ok (by rfl) (by decide) (fun a i h => match a, h with
    | 0, h => by cases h; exact ⟨c_J_bitCount hE, w_J_bitCount⟩
    | _ + 1, h => by simp [cal_U_bestTest, ai_nth] at h)
def k_U_cover : ai_C := [
  [(0, .aload_n 1, 1, 1, 0, 0, 0, 0, []), (1, .getfield 137, 3, 8, 8, 46, 0, 8, []), (4, .sipush 875, 3, 0, 0, 0, 0, 875, []), (7, .invokestatic 138, 3, 0, 0, 47, 23, 0, []), (10, .istore_n 2, 1, 2, 0, 0, 0, 0, []), (11, .aload_n 0, 1, 0, 0, 0, 0, 0, []), (12, .aload_n 1, 1, 1, 0, 0, 0, 0, []), (13, .iload_n 2, 1, 2, 0, 0, 0, 0, []), (14, .invokevirtual 144, 3, 0, 3, 48, 9, 0, [(0, 2)])],
  [(17, .iconst 0, 1, 0, 0, 0, 0, 0, []), (18, .istore_n 3, 1, 3, 0, 0, 0, 0, []), (19, .iconst 0, 1, 0, 0, 0, 0, 0, []), (20, .istore 4, 2, 4, 0, 0, 0, 0, []), (22, .iload 4, 2, 4, 0, 0, 0, 0, []), (24, .sipush 252, 3, 0, 0, 0, 0, 252, []), (27, .if_icmp .ge 68, 3, 95, 0, 0, 0, 0, []), (30, .aload_n 0, 1, 0, 0, 0, 0, 0, []), (31, .iload_n 2, 1, 2, 0, 0, 0, 0, [])],
  [(32, .invokevirtual 148, 3, 1, 2, 49, 0, 0, [(0, 2)]), (35, .istore 5, 2, 5, 0, 0, 0, 0, []), (37, .iload 5, 2, 5, 0, 0, 0, 0, []), (39, .ifCond .ge 6, 3, 45, 0, 0, 0, 0, []), (42, .goto 53, 3, 95, 0, 0, 0, 0, []), (45, .iconst 0, 1, 0, 0, 0, 0, 0, []), (46, .istore 6, 2, 6, 0, 0, 0, 0, [])],
  [(48, .iload 6, 2, 6, 0, 0, 0, 0, []), (50, .bipush 8, 2, 0, 0, 0, 0, 8, []), (52, .if_icmp .ge 34, 3, 86, 0, 0, 0, 0, []), (55, .aload_n 0, 1, 0, 0, 0, 0, 0, []), (56, .getfield 47, 3, 2, 13, 17, 2, 13, []), (59, .iload 6, 2, 6, 0, 0, 0, 0, []), (61, .dup2, 1, 0, 0, 0, 0, 0, []), (62, .iaload, 1, 0, 0, 0, 0, 0, []), (63, .aload_n 0, 1, 0, 0, 0, 0, 0, [])],
  [(64, .getfield 44, 3, 2, 12, 16, 2, 12, []), (67, .iload 5, 2, 5, 0, 0, 0, 0, []), (69, .bipush 8, 2, 0, 0, 0, 0, 8, []), (71, .imul, 1, 0, 0, 0, 0, 0, []), (72, .iload 6, 2, 6, 0, 0, 0, 0, []), (74, .iadd, 1, 0, 0, 0, 0, 0, []), (75, .iaload, 1, 0, 0, 0, 0, 0, []), (76, .iconst (-1), 1, 0, 0, 0, 0, (-1), []), (77, .ixor, 1, 0, 0, 0, 0, 0, []), (78, .iand, 1, 0, 0, 0, 0, 0, []), (79, .iastore, 1, 0, 0, 0, 0, 0, [])],
  [(80, .iinc 6 1, 3, 6, 0, 0, 0, 1, []), (83, .goto (-35), 3, 48, 0, 0, 0, 0, []), (86, .iinc 3 1, 3, 3, 0, 0, 0, 1, []), (89, .iinc 4 1, 3, 4, 0, 0, 0, 1, []), (92, .goto (-70), 3, 22, 0, 0, 0, 0, []), (95, .iload_n 3, 1, 3, 0, 0, 0, 0, [])],
  [(96, .ireturn, 1, 0, 0, 0, 0, 0, [])]]
def i_U_cover : ai_I := ((⟨"SuiteBench$Mutants", "cover", "(LSuiteBench$Tests;)I"⟩, prog_4_method_16_code, 7, (some .int), 0, 4, 92, 0, 1, 0, 2) : ai_I)
def o_U_cover (a : Nat) : SP := match a with
  | 0 => f_U_learnFailing
  | 1 => f_U_bestTest
  | _ => fun _ _ _ _ _ => False
theorem mo_U_cover : ∀ a, ai_mono (o_U_cover a)
  | 0 => mf_U_learnFailing
  | 1 => mf_U_bestTest
  | _ + 2 => fun _ _ _ _ _ _ _ h => h
def f_U_cover : SP := ai_M o_U_cover 0 7 k_U_cover
theorem mf_U_cover : ai_mono f_U_cover := M_mono mo_U_cover
abbrev cal_U_cover : List ai_I := [i_U_learnFailing, i_U_bestTest]
theorem a_U_cover : ai_all "SuiteBench$Mutants" prog_4_method_16_code 7 kc_U cal_U_cover 4 92 false (some .int) k_U_cover = true := by decide +kernel
theorem w_U_cover : ai_CW i_U_cover := ⟨(tk_mem (l := [((Jvm.Cond.code ({ cls := "SuiteBench$Mutants", name := "cover", desc := "(LSuiteBench$Tests;)I" } : Jvm.MethodName) prog_4_method_16_code (7 : Nat) (Option.some Jvm.ClassFile.FieldType.int)), 6, 21)]) (by decide +kernel) _ (List.mem_singleton.mpr rfl)), (tk_mem (l := [((Jvm.Cond.initialized "SuiteBench$Mutants"), 1, 11)]) (by decide +kernel) _ (List.mem_singleton.mpr rfl)), ⟨by decide +kernel, by decide +kernel, by decide +kernel⟩, ⟨(tk_mem (l := [((Jvm.Cond.instanceMethod ({ cls := "SuiteBench$Mutants", name := "cover", desc := "(LSuiteBench$Tests;)I" } : Jvm.MethodName)), 6, 20)]) (by decide +kernel) _ (List.mem_singleton.mpr rfl)), gw_sel 54 (by decide +kernel), .inl ⟨_, _, rfl⟩⟩⟩
theorem c_U_cover {E2 : (Nat → Nat) → State → Heap → Prop} (hE : ai_XH E2) : ai_S E2 i_U_cover f_U_cover := snd_M (by decide) rfl (by decide) a_U_cover kc_U_ok (by rfl) (by decide) (fun a i h => match a, h with
    | 0, h => by cases h; exact ⟨c_U_learnFailing hE, w_U_learnFailing⟩
    | 1, h => by cases h; exact ⟨c_U_bestTest hE, w_U_bestTest⟩
    | _ + 2, h => by simp [cal_U_cover, ai_nth] at h)
def k_U_coveredBy : ai_C := [
  [(0, .aload_n 0, 1, 0, 0, 0, 0, 0, []), (1, .getfield 35, 3, 2, 9, 13, 2, 9, []), (4, .iload_n 1, 1, 1, 0, 0, 0, 0, []), (5, .iaload, 1, 0, 0, 0, 0, 0, []), (6, .bipush (-9), 2, 0, 0, 0, 0, (-9), []), (8, .if_icmp .ne 14, 3, 22, 0, 0, 0, 0, []), (11, .aload_n 0, 1, 0, 0, 0, 0, 0, []), (12, .getfield 35, 3, 2, 9, 13, 2, 9, []), (15, .iload_n 1, 1, 1, 0, 0, 0, 0, [])],
  [(16, .aload_n 0, 1, 0, 0, 0, 0, 0, []), (17, .aload_n 2, 1, 2, 0, 0, 0, 0, []), (18, .invokevirtual 133, 3, 0, 2, 50, 0, 0, [(0, 2)]), (21, .iastore, 1, 0, 0, 0, 0, 0, []), (22, .aload_n 0, 1, 0, 0, 0, 0, 0, []), (23, .getfield 35, 3, 2, 9, 13, 2, 9, []), (26, .iload_n 1, 1, 1, 0, 0, 0, 0, []), (27, .iaload, 1, 0, 0, 0, 0, 0, []), (28, .ireturn, 1, 0, 0, 0, 0, 0, [])]]
def i_U_coveredBy : ai_I := ((⟨"SuiteBench$Mutants", "coveredBy", "(ILSuiteBench$Tests;)I"⟩, prog_4_method_15_code, 3, (some .int), 0, 5, 118, 0, 2, 0, 2) : ai_I)
def o_U_coveredBy (a : Nat) : SP := match a with
  | 0 => f_U_cover
  | _ => fun _ _ _ _ _ => False
theorem mo_U_coveredBy : ∀ a, ai_mono (o_U_coveredBy a)
  | 0 => mf_U_cover
  | _ + 1 => fun _ _ _ _ _ _ _ h => h
def f_U_coveredBy : SP := ai_M o_U_coveredBy 0 3 k_U_coveredBy
theorem mf_U_coveredBy : ai_mono f_U_coveredBy := M_mono mo_U_coveredBy
abbrev cal_U_coveredBy : List ai_I := [i_U_cover]
theorem a_U_coveredBy : ai_all "SuiteBench$Mutants" prog_4_method_15_code 3 kc_U cal_U_coveredBy 5 118 false (some .int) k_U_coveredBy = true := by decide +kernel
theorem w_U_coveredBy : ai_CW i_U_coveredBy := ⟨(tk_mem (l := [((Jvm.Cond.code ({ cls := "SuiteBench$Mutants", name := "coveredBy", desc := "(ILSuiteBench$Tests;)I" } : Jvm.MethodName) prog_4_method_15_code (3 : Nat) (Option.some Jvm.ClassFile.FieldType.int)), 6, 17)]) (by decide +kernel) _ (List.mem_singleton.mpr rfl)), (tk_mem (l := [((Jvm.Cond.initialized "SuiteBench$Mutants"), 1, 11)]) (by decide +kernel) _ (List.mem_singleton.mpr rfl)), ⟨by decide +kernel, by decide +kernel, by decide +kernel⟩, ⟨(tk_mem (l := [((Jvm.Cond.instanceMethod ({ cls := "SuiteBench$Mutants", name := "coveredBy", desc := "(ILSuiteBench$Tests;)I" } : Jvm.MethodName)), 6, 15)]) (by decide +kernel) _ (List.mem_singleton.mpr rfl)), (tk_mem (l := [((Jvm.Cond.selects "SuiteBench$Mutants" ({ cls := "SuiteBench$Mutants", name := "coveredBy", desc := "(ILSuiteBench$Tests;)I" } : Jvm.MethodName) ({ cls := "SuiteBench$Mutants", name := "coveredBy", desc := "(ILSuiteBench$Tests;)I" } : Jvm.MethodName)), 6, 16)]) (by decide +kernel) _ (List.mem_singleton.mpr rfl)), .inl ⟨_, _, rfl⟩⟩⟩
theorem c_U_coveredBy {E2 : (Nat → Nat) → State → Heap → Prop} (hE : ai_XH E2) : ai_S E2 i_U_coveredBy f_U_coveredBy := snd_M (by decide) rfl (by decide) a_U_coveredBy kc_U_ok (by rfl) (by decide) (fun a i h => match a, h with
    | 0, h => by cases h; exact ⟨c_U_cover hE, w_U_cover⟩
    | _ + 1, h => by simp [cal_U_coveredBy, ai_nth] at h)
def k_B_covered : ai_C := [
  [(0, .iload_n 1, 1, 1, 0, 0, 0, 0, []), (1, .invokestatic 212, 3, 0, 1, 103, 0, 0, [(0, 11)]), (4, .ifCond .eq 22, 3, 26, 0, 0, 0, 0, []), (7, .aload_n 0, 1, 0, 0, 0, 0, 0, []), (8, .getfield 63, 3, 11, 6, 17, 2, 6, []), (11, .iload_n 1, 1, 1, 0, 0, 0, 0, []), (12, .aload_n 0, 1, 0, 0, 0, 0, 0, []), (13, .getfield 56, 3, 11, 5, 14, 2, 5, [])],
  [(16, .iload_n 1, 1, 1, 0, 0, 0, 0, []), (17, .invokevirtual 196, 3, 1, 2, 99, 2, 0, [(0, 6)]), (20, .invokevirtual 294, 3, 2, 3, 129, 0, 0, [(0, 2)]), (23, .goto 4, 3, 27, 0, 0, 0, 0, []), (26, .iconst (-1), 1, 0, 0, 0, 0, (-1), []), (27, .ireturn, 1, 0, 0, 0, 0, 0, [])]]
def i_B_covered : ai_I := ((⟨"SuiteBench", "covered", "(I)I"⟩, prog_1_method_30_code, 2, (some .int), 0, 6, 143, 0, 1, 0, 11) : ai_I)
def o_B_covered (a : Nat) : SP := match a with
  | 0 => f_B_isPlanned
  | 1 => f_T_give
  | 2 => f_U_coveredBy
  | _ => fun _ _ _ _ _ => False
theorem mo_B_covered : ∀ a, ai_mono (o_B_covered a)
  | 0 => mf_B_isPlanned
  | 1 => mf_T_give
  | 2 => mf_U_coveredBy
  | _ + 3 => fun _ _ _ _ _ _ _ h => h
def f_B_covered : SP := ai_M o_B_covered 0 2 k_B_covered
theorem mf_B_covered : ai_mono f_B_covered := M_mono mo_B_covered
abbrev cal_B_covered : List ai_I := [i_B_isPlanned, i_T_give, i_U_coveredBy]
theorem a_B_covered : ai_all "SuiteBench" prog_1_method_30_code 2 kc_B cal_B_covered 6 143 false (some .int) k_B_covered = true := by decide +kernel
theorem w_B_covered : ai_CW i_B_covered := ⟨(tk_mem (l := [((Jvm.Cond.code ({ cls := "SuiteBench", name := "covered", desc := "(I)I" } : Jvm.MethodName) prog_1_method_30_code (2 : Nat) (Option.some Jvm.ClassFile.FieldType.int)), 6, 13)]) (by decide +kernel) _ (List.mem_singleton.mpr rfl)), (tk_mem (l := [((Jvm.Cond.initialized "SuiteBench"), 1, 1)]) (by decide +kernel) _ (List.mem_singleton.mpr rfl)), ⟨by decide +kernel, by decide +kernel, by decide +kernel⟩, ⟨(tk_mem (l := [((Jvm.Cond.instanceMethod ({ cls := "SuiteBench", name := "covered", desc := "(I)I" } : Jvm.MethodName)), 6, 11)]) (by decide +kernel) _ (List.mem_singleton.mpr rfl)), (tk_mem (l := [((Jvm.Cond.selects "SuiteBench" ({ cls := "SuiteBench", name := "covered", desc := "(I)I" } : Jvm.MethodName) ({ cls := "SuiteBench", name := "covered", desc := "(I)I" } : Jvm.MethodName)), 6, 12)]) (by decide +kernel) _ (List.mem_singleton.mpr rfl)), .inl ⟨_, _, rfl⟩⟩⟩
theorem c_B_covered {E2 : (Nat → Nat) → State → Heap → Prop} (hE : ai_XH E2) : ai_S E2 i_B_covered f_B_covered := snd_M (by decide) rfl (by decide) a_B_covered kc_B_ok (by rfl) (by decide) (fun a i h => match a, h with
    | 0, h => by cases h; exact ⟨c_B_isPlanned hE, w_B_isPlanned⟩
    | 1, h => by cases h; exact ⟨c_T_give hE, w_T_give⟩
    | 2, h => by cases h; exact ⟨c_U_coveredBy hE, w_U_coveredBy⟩
    | _ + 3, h => by simp [cal_B_covered, ai_nth] at h)
def k_N_laysFails : ai_C := [
  [(0, .iconst 0, 1, 0, 0, 0, 0, 0, []), (1, .istore_n 2, 1, 2, 0, 0, 0, 0, []), (2, .iload_n 2, 1, 2, 0, 0, 0, 0, []), (3, .iconst 4, 1, 0, 0, 0, 0, 4, []), (4, .aload_n 0, 1, 0, 0, 0, 0, 0, []), (5, .getfield 84, 3, 12, 39, 24, 2, 39, []), (8, .iload_n 1, 1, 1, 0, 0, 0, 0, []), (9, .iaload, 1, 0, 0, 0, 0, 0, []), (10, .imul, 1, 0, 0, 0, 0, 0, []), (11, .if_icmp .ge 16, 3, 27, 0, 0, 0, 0, []), (14, .aload_n 0, 1, 0, 0, 0, 0, 0, []), (15, .getfield 117, 3, 12, 56, 59, 2, 56, [])],
  [(18, .iload_n 2, 1, 2, 0, 0, 0, 0, []), (19, .lconst 0, 1, 0, 0, 0, 0, 0, []), (20, .lastore, 1, 0, 0, 0, 0, 0, []), (21, .iinc 2 1, 3, 2, 0, 0, 0, 1, []), (24, .goto (-22), 3, 2, 0, 0, 0, 0, []), (27, .aload_n 0, 1, 0, 0, 0, 0, 0, []), (28, .invokevirtual 449, 3, 0, 1, 145, 0, 0, [(0, 12)]), (31, .istore_n 2, 1, 2, 0, 0, 0, 0, [])],
  [(32, .iconst 0, 1, 0, 0, 0, 0, 0, []), (33, .istore_n 3, 1, 3, 0, 0, 0, 0, []), (34, .iload_n 3, 1, 3, 0, 0, 0, 0, []), (35, .iload_n 2, 1, 2, 0, 0, 0, 0, []), (36, .if_icmp .ge 75, 3, 111, 0, 0, 0, 0, []), (39, .aload_n 0, 1, 0, 0, 0, 0, 0, []), (40, .iload_n 3, 1, 3, 0, 0, 0, 0, []), (41, .bipush 48, 2, 0, 0, 0, 0, 48, []), (43, .invokevirtual 452, 3, 1, 3, 146, 9, 0, [(0, 12)]), (46, .iconst 0, 1, 0, 0, 0, 0, 0, []), (47, .istore 4, 2, 4, 0, 0, 0, 0, [])],
  [(49, .iload 4, 2, 4, 0, 0, 0, 0, []), (51, .aload_n 0, 1, 0, 0, 0, 0, 0, []), (52, .getfield 84, 3, 12, 39, 24, 2, 39, []), (55, .iload_n 1, 1, 1, 0, 0, 0, 0, []), (56, .iaload, 1, 0, 0, 0, 0, 0, []), (57, .if_icmp .ge 48, 3, 105, 0, 0, 0, 0, []), (60, .aload_n 0, 1, 0, 0, 0, 0, 0, []), (61, .bipush 48, 2, 0, 0, 0, 0, 48, []), (63, .aload_n 0, 1, 0, 0, 0, 0, 0, [])],
  [(64, .iload_n 1, 1, 1, 0, 0, 0, 0, []), (65, .iload 4, 2, 4, 0, 0, 0, 0, []), (67, .invokevirtual 376, 3, 2, 3, 120, 0, 0, [(0, 12)]), (70, .invokevirtual 418, 3, 3, 3, 135, 0, 0, [(0, 12)]), (73, .ifCond .ne 26, 3, 99, 0, 0, 0, 0, []), (76, .aload_n 0, 1, 0, 0, 0, 0, 0, []), (77, .getfield 117, 3, 12, 56, 59, 2, 56, [])],
  [(80, .iconst 4, 1, 0, 0, 0, 0, 4, []), (81, .iload 4, 2, 4, 0, 0, 0, 0, []), (83, .imul, 1, 0, 0, 0, 0, 0, []), (84, .iload_n 3, 1, 3, 0, 0, 0, 0, []), (85, .bipush 64, 2, 0, 0, 0, 0, 64, []), (87, .idiv, 1, 0, 0, 0, 0, 0, []), (88, .iadd, 1, 0, 0, 0, 0, 0, []), (89, .dup2, 1, 0, 0, 0, 0, 0, []), (90, .laload, 1, 0, 0, 0, 0, 0, []), (91, .lconst 1, 1, 0, 0, 0, 0, 1, []), (92, .iload_n 3, 1, 3, 0, 0, 0, 0, []), (93, .bipush 64, 2, 0, 0, 0, 0, 64, []), (95, .irem, 1, 0, 0, 0, 0, 0, [])],
  [(96, .lshl, 1, 0, 0, 0, 0, 0, []), (97, .lor, 1, 0, 0, 0, 0, 0, []), (98, .lastore, 1, 0, 0, 0, 0, 0, []), (99, .iinc 4 1, 3, 4, 0, 0, 0, 1, []), (102, .goto (-53), 3, 49, 0, 0, 0, 0, []), (105, .iinc 3 1, 3, 3, 0, 0, 0, 1, []), (108, .goto (-74), 3, 34, 0, 0, 0, 0, []), (111, .return_, 1, 0, 0, 0, 0, 0, [])]]
def i_N_laysFails : ai_I := ((⟨"SuiteBenchModel", "laysFails", "(I)V"⟩, prog_14_method_113_code, 5, none, 9, 4, 92, 0, 1, 0, 12) : ai_I)
def o_N_laysFails (a : Nat) : SP := match a with
  | 0 => f_N_mutantMany
  | 1 => f_N_laysMutant
  | 2 => f_N_testAt
  | 3 => f_N_isPassed
  | _ => fun _ _ _ _ _ => False
theorem mo_N_laysFails : ∀ a, ai_mono (o_N_laysFails a)
  | 0 => mf_N_mutantMany
  | 1 => mf_N_laysMutant
  | 2 => mf_N_testAt
  | 3 => mf_N_isPassed
  | _ + 4 => fun _ _ _ _ _ _ _ h => h
def f_N_laysFails : SP := ai_M o_N_laysFails 0 5 k_N_laysFails
theorem mf_N_laysFails : ai_mono f_N_laysFails := M_mono mo_N_laysFails
abbrev cal_N_laysFails : List ai_I := [i_N_mutantMany, i_N_laysMutant, i_N_testAt, i_N_isPassed]
theorem a_N_laysFails : ai_all "SuiteBenchModel" prog_14_method_113_code 5 kc_N cal_N_laysFails 4 92 false none k_N_laysFails = true := by decide +kernel
theorem w_N_laysFails : ai_CW i_N_laysFails := ⟨(tk_mem (l := [((Jvm.Cond.code ({ cls := "SuiteBenchModel", name := "laysFails", desc := "(I)V" } : Jvm.MethodName) prog_14_method_113_code (5 : Nat) (Option.none : Option Jvm.ClassFile.FieldType)), 10, 20)]) (by decide +kernel) _ (List.mem_singleton.mpr rfl)), (tk_mem (l := [((Jvm.Cond.initialized "SuiteBenchModel"), 1, 15)]) (by decide +kernel) _ (List.mem_singleton.mpr rfl)), ⟨by decide +kernel, by decide +kernel, by decide +kernel⟩, ⟨(tk_mem (l := [((Jvm.Cond.instanceMethod ({ cls := "SuiteBenchModel", name := "laysFails", desc := "(I)V" } : Jvm.MethodName)), 10, 19)]) (by decide +kernel) _ (List.mem_singleton.mpr rfl)), gw_sel 139 (by decide +kernel), .inl ⟨_, _, rfl⟩⟩⟩
theorem c_N_laysFails {E2 : (Nat → Nat) → State → Heap → Prop} (hE : ai_XH E2) : ai_S E2 i_N_laysFails f_N_laysFails := snd_M (by decide) rfl (by decide) a_N_laysFails kc_N_ok (by rfl) (by decide) (fun a i h => match a, h with
    | 0, h => by cases h; exact ⟨c_N_mutantMany hE, w_N_mutantMany⟩
    | 1, h => by cases h; exact ⟨c_N_laysMutant hE, w_N_laysMutant⟩
    | 2, h => by cases h; exact ⟨c_N_testAt hE, w_N_testAt⟩
    | 3, h => by cases h; exact ⟨c_N_isPassed hE, w_N_isPassed⟩
    | _ + 4, h => by simp [cal_N_laysFails, ai_nth] at h)
def k_N_bits : ai_C := [
  [(0, .iconst 0, 1, 0, 0, 0, 0, 0, []), (1, .istore_n 2, 1, 2, 0, 0, 0, 0, []), (2, .lload_n 0, 1, 0, 0, 0, 0, 0, []), (3, .lstore_n 3, 1, 3, 0, 0, 0, 0, []), (4, .lload_n 3, 1, 3, 0, 0, 0, 0, []), (5, .lconst 0, 1, 0, 0, 0, 0, 0, []), (6, .lcmp, 1, 0, 0, 0, 0, 0, []), (7, .ifCond .eq 15, 3, 22, 0, 0, 0, 0, []), (10, .iinc 2 1, 3, 2, 0, 0, 0, 1, []), (13, .lload_n 3, 1, 3, 0, 0, 0, 0, []), (14, .lload_n 3, 1, 3, 0, 0, 0, 0, []), (15, .lconst 1, 1, 0, 0, 0, 0, 1, [])],
  [(16, .lsub, 1, 0, 0, 0, 0, 0, []), (17, .land, 1, 0, 0, 0, 0, 0, []), (18, .lstore_n 3, 1, 3, 0, 0, 0, 0, []), (19, .goto (-15), 3, 4, 0, 0, 0, 0, []), (22, .iload_n 2, 1, 2, 0, 0, 0, 0, []), (23, .ireturn, 1, 0, 0, 0, 0, 0, [])]]
def i_N_bits : ai_I := ((⟨"SuiteBenchModel", "bits", "(J)I"⟩, prog_14_method_111_code, 5, (some .int), 0, 0, 0, 0, 1, 1, 12) : ai_I)
def o_N_bits (_ : Nat) : SP := fun _ _ _ _ _ => False
theorem mo_N_bits : ∀ a, ai_mono (o_N_bits a) := fun _ _ _ _ _ _ _ _ h => h
def f_N_bits : SP := ai_M o_N_bits 0 5 k_N_bits
theorem mf_N_bits : ai_mono f_N_bits := M_mono mo_N_bits
abbrev cal_N_bits : List ai_I := []
theorem a_N_bits : ai_all "SuiteBenchModel" prog_14_method_111_code 5 kc_N cal_N_bits 0 0 false (some .int) k_N_bits = true := by decide +kernel
theorem w_N_bits : ai_CW i_N_bits := ⟨(tk_mem (l := [((Jvm.Cond.code ({ cls := "SuiteBenchModel", name := "bits", desc := "(J)I" } : Jvm.MethodName) prog_14_method_111_code (5 : Nat) (Option.some Jvm.ClassFile.FieldType.int)), 10, 27)]) (by decide +kernel) _ (List.mem_singleton.mpr rfl)), (tk_mem (l := [((Jvm.Cond.initialized "SuiteBenchModel"), 1, 15)]) (by decide +kernel) _ (List.mem_singleton.mpr rfl)), ⟨by decide +kernel, by decide +kernel, by decide +kernel⟩, (tk_mem (l := [((Jvm.Cond.static ({ cls := "SuiteBenchModel", name := "bits", desc := "(J)I" } : Jvm.MethodName)), 10, 26)]) (by decide +kernel) _ (List.mem_singleton.mpr rfl))⟩
theorem c_N_bits {E2 : (Nat → Nat) → State → Heap → Prop} (hE : ai_XH E2) : ai_S E2 i_N_bits f_N_bits := snd_M (by decide) rfl (by decide) a_N_bits kc_N_ok (by rfl) (by decide) (fun a i h => by simp [cal_N_bits, ai_nth] at h)
def k_N_newBy : ai_C := [
  [(0, .iconst 0, 1, 0, 0, 0, 0, 0, []), (1, .istore_n 2, 1, 2, 0, 0, 0, 0, []), (2, .iconst 0, 1, 0, 0, 0, 0, 0, []), (3, .istore_n 3, 1, 3, 0, 0, 0, 0, []), (4, .iload_n 3, 1, 3, 0, 0, 0, 0, []), (5, .iconst 4, 1, 0, 0, 0, 0, 4, []), (6, .if_icmp .ge 32, 3, 38, 0, 0, 0, 0, []), (9, .iload_n 2, 1, 2, 0, 0, 0, 0, []), (10, .aload_n 0, 1, 0, 0, 0, 0, 0, []), (11, .getfield 117, 3, 12, 56, 59, 2, 56, []), (14, .iconst 4, 1, 0, 0, 0, 0, 4, []), (15, .iload_n 1, 1, 1, 0, 0, 0, 0, [])],
  [(16, .imul, 1, 0, 0, 0, 0, 0, []), (17, .iload_n 3, 1, 3, 0, 0, 0, 0, []), (18, .iadd, 1, 0, 0, 0, 0, 0, []), (19, .laload, 1, 0, 0, 0, 0, 0, []), (20, .aload_n 0, 1, 0, 0, 0, 0, 0, []), (21, .getfield 121, 3, 12, 57, 60, 2, 57, []), (24, .iload_n 3, 1, 3, 0, 0, 0, 0, []), (25, .laload, 1, 0, 0, 0, 0, 0, []), (26, .land, 1, 0, 0, 0, 0, 0, []), (27, .invokestatic 485, 3, 0, 1, 157, 0, 0, [(0, 12)]), (30, .iadd, 1, 0, 0, 0, 0, 0, []), (31, .istore_n 2, 1, 2, 0, 0, 0, 0, [])],
  [(32, .iinc 3 1, 3, 3, 0, 0, 0, 1, []), (35, .goto (-31), 3, 4, 0, 0, 0, 0, []), (38, .iload_n 2, 1, 2, 0, 0, 0, 0, []), (39, .ireturn, 1, 0, 0, 0, 0, 0, [])]]
def i_N_newBy : ai_I := ((⟨"SuiteBenchModel", "newBy", "(I)I"⟩, prog_14_method_112_code, 4, (some .int), 0, 1, 24, 0, 1, 0, 12) : ai_I)
def o_N_newBy (a : Nat) : SP := match a with
  | 0 => f_N_bits
  | _ => fun _ _ _ _ _ => False
theorem mo_N_newBy : ∀ a, ai_mono (o_N_newBy a)
  | 0 => mf_N_bits
  | _ + 1 => fun _ _ _ _ _ _ _ h => h
def f_N_newBy : SP := ai_M o_N_newBy 0 4 k_N_newBy
theorem mf_N_newBy : ai_mono f_N_newBy := M_mono mo_N_newBy
abbrev cal_N_newBy : List ai_I := [i_N_bits]
theorem a_N_newBy : ai_all "SuiteBenchModel" prog_14_method_112_code 4 kc_N cal_N_newBy 1 24 false (some .int) k_N_newBy = true := by decide +kernel
theorem w_N_newBy : ai_CW i_N_newBy := ⟨(tk_mem (l := [((Jvm.Cond.code ({ cls := "SuiteBenchModel", name := "newBy", desc := "(I)I" } : Jvm.MethodName) prog_14_method_112_code (4 : Nat) (Option.some Jvm.ClassFile.FieldType.int)), 10, 24)]) (by decide +kernel) _ (List.mem_singleton.mpr rfl)), (tk_mem (l := [((Jvm.Cond.initialized "SuiteBenchModel"), 1, 15)]) (by decide +kernel) _ (List.mem_singleton.mpr rfl)), ⟨by decide +kernel, by decide +kernel, by decide +kernel⟩, ⟨(tk_mem (l := [((Jvm.Cond.instanceMethod ({ cls := "SuiteBenchModel", name := "newBy", desc := "(I)I" } : Jvm.MethodName)), 10, 23)]) (by decide +kernel) _ (List.mem_singleton.mpr rfl)), gw_sel 140 (by decide +kernel), .inl ⟨_, _, rfl⟩⟩⟩
theorem c_N_newBy {E2 : (Nat → Nat) → State → Heap → Prop} (hE : ai_XH E2) : ai_S E2 i_N_newBy f_N_newBy := snd_M (by decide) rfl (by decide) a_N_newBy kc_N_ok (by rfl) (by decide) (fun a i h => match a, h with
    | 0, h => by cases h; exact ⟨c_N_bits hE, w_N_bits⟩
    | _ + 1, h => by simp [cal_N_newBy, ai_nth] at h)
def k_N_covered : ai_C := [
  [(0, .aload_n 0, 1, 0, 0, 0, 0, 0, []), (1, .iconst 0, 1, 0, 0, 0, 0, 0, []), (2, .putfield 145, 3, 12, 0, 67, 0, 0, []), (5, .iload_n 1, 1, 1, 0, 0, 0, 0, []), (6, .invokestatic 409, 3, 0, 1, 132, 0, 0, [(0, 12)]), (9, .ifCond .ne 5, 3, 14, 0, 0, 0, 0, []), (12, .iconst (-1), 1, 0, 0, 0, 0, (-1), []), (13, .ireturn, 1, 0, 0, 0, 0, 0, []), (14, .aload_n 0, 1, 0, 0, 0, 0, 0, []), (15, .getfield 124, 3, 12, 58, 23, 2, 58, [])],
  [(18, .iload_n 1, 1, 1, 0, 0, 0, 0, []), (19, .iaload, 1, 0, 0, 0, 0, 0, []), (20, .ifCond .lt 10, 3, 30, 0, 0, 0, 0, []), (23, .aload_n 0, 1, 0, 0, 0, 0, 0, []), (24, .getfield 124, 3, 12, 58, 23, 2, 58, []), (27, .iload_n 1, 1, 1, 0, 0, 0, 0, []), (28, .iaload, 1, 0, 0, 0, 0, 0, []), (29, .ireturn, 1, 0, 0, 0, 0, 0, []), (30, .aload_n 0, 1, 0, 0, 0, 0, 0, []), (31, .iload_n 1, 1, 1, 0, 0, 0, 0, [])],
  [(32, .invokevirtual 400, 3, 1, 2, 128, 0, 0, [(0, 12)]), (35, .istore_n 2, 1, 2, 0, 0, 0, 0, []), (36, .aload_n 0, 1, 0, 0, 0, 0, 0, []), (37, .iload_n 2, 1, 2, 0, 0, 0, 0, []), (38, .invokevirtual 489, 3, 2, 2, 158, 9, 0, [(0, 12)]), (41, .iconst 0, 1, 0, 0, 0, 0, 0, []), (42, .istore_n 3, 1, 3, 0, 0, 0, 0, []), (43, .iload_n 3, 1, 3, 0, 0, 0, 0, []), (44, .iconst 4, 1, 0, 0, 0, 0, 4, []), (45, .if_icmp .ge 18, 3, 63, 0, 0, 0, 0, [])],
  [(48, .aload_n 0, 1, 0, 0, 0, 0, 0, []), (49, .getfield 121, 3, 12, 57, 60, 2, 57, []), (52, .iload_n 3, 1, 3, 0, 0, 0, 0, []), (53, .ldc2_w 323, 3, 0, 0, 110, 0, (-1), []), (56, .lastore, 1, 0, 0, 0, 0, 0, []), (57, .iinc 3 1, 3, 3, 0, 0, 0, 1, []), (60, .goto (-17), 3, 43, 0, 0, 0, 0, []), (63, .iconst 0, 1, 0, 0, 0, 0, 0, [])],
  [(64, .istore_n 3, 1, 3, 0, 0, 0, 0, []), (65, .iconst 0, 1, 0, 0, 0, 0, 0, []), (66, .istore 4, 2, 4, 0, 0, 0, 0, []), (68, .iload 4, 2, 4, 0, 0, 0, 0, []), (70, .iconst (-1), 1, 0, 0, 0, 0, (-1), []), (71, .if_icmp .eq 133, 3, 204, 0, 0, 0, 0, []), (74, .iconst (-1), 1, 0, 0, 0, 0, (-1), []), (75, .istore 4, 2, 4, 0, 0, 0, 0, []), (77, .iconst 0, 1, 0, 0, 0, 0, 0, []), (78, .istore 5, 2, 5, 0, 0, 0, 0, [])],
  [(80, .iconst 0, 1, 0, 0, 0, 0, 0, []), (81, .istore 6, 2, 6, 0, 0, 0, 0, []), (83, .iload 6, 2, 6, 0, 0, 0, 0, []), (85, .aload_n 0, 1, 0, 0, 0, 0, 0, []), (86, .getfield 84, 3, 12, 39, 24, 2, 39, []), (89, .iload_n 2, 1, 2, 0, 0, 0, 0, []), (90, .iaload, 1, 0, 0, 0, 0, 0, []), (91, .if_icmp .ge 49, 3, 140, 0, 0, 0, 0, []), (94, .aload_n 0, 1, 0, 0, 0, 0, 0, []), (95, .iload 6, 2, 6, 0, 0, 0, 0, [])],
  [(97, .invokevirtual 492, 3, 3, 2, 159, 0, 0, [(0, 12)]), (100, .istore 7, 2, 7, 0, 0, 0, 0, []), (102, .iload 7, 2, 7, 0, 0, 0, 0, []), (104, .iload 5, 2, 5, 0, 0, 0, 0, []), (106, .if_icmp .le 8, 3, 114, 0, 0, 0, 0, []), (109, .iload 6, 2, 6, 0, 0, 0, 0, []), (111, .goto 5, 3, 116, 0, 0, 0, 0, [])],
  [(114, .iload 4, 2, 4, 0, 0, 0, 0, []), (116, .istore 4, 2, 4, 0, 0, 0, 0, []), (118, .iload 7, 2, 7, 0, 0, 0, 0, []), (120, .iload 5, 2, 5, 0, 0, 0, 0, []), (122, .if_icmp .le 8, 3, 130, 0, 0, 0, 0, []), (125, .iload 7, 2, 7, 0, 0, 0, 0, []), (127, .goto 5, 3, 132, 0, 0, 0, 0, [])],
  [(130, .iload 5, 2, 5, 0, 0, 0, 0, []), (132, .istore 5, 2, 5, 0, 0, 0, 0, []), (134, .iinc 6 1, 3, 6, 0, 0, 0, 1, []), (137, .goto (-54), 3, 83, 0, 0, 0, 0, []), (140, .iconst 0, 1, 0, 0, 0, 0, 0, []), (141, .istore 6, 2, 6, 0, 0, 0, 0, []), (143, .iload 6, 2, 6, 0, 0, 0, 0, [])],
  [(145, .iconst 4, 1, 0, 0, 0, 0, 4, []), (146, .if_icmp .ge 41, 3, 187, 0, 0, 0, 0, []), (149, .iload 4, 2, 4, 0, 0, 0, 0, []), (151, .iconst (-1), 1, 0, 0, 0, 0, (-1), []), (152, .if_icmp .eq 35, 3, 187, 0, 0, 0, 0, []), (155, .aload_n 0, 1, 0, 0, 0, 0, 0, []), (156, .getfield 121, 3, 12, 57, 60, 2, 57, []), (159, .iload 6, 2, 6, 0, 0, 0, 0, [])],
  [(161, .dup2, 1, 0, 0, 0, 0, 0, []), (162, .laload, 1, 0, 0, 0, 0, 0, []), (163, .aload_n 0, 1, 0, 0, 0, 0, 0, []), (164, .getfield 117, 3, 12, 56, 59, 2, 56, []), (167, .iconst 4, 1, 0, 0, 0, 0, 4, []), (168, .iload 4, 2, 4, 0, 0, 0, 0, []), (170, .imul, 1, 0, 0, 0, 0, 0, []), (171, .iload 6, 2, 6, 0, 0, 0, 0, []), (173, .iadd, 1, 0, 0, 0, 0, 0, []), (174, .laload, 1, 0, 0, 0, 0, 0, []), (175, .ldc2_w 323, 3, 0, 0, 110, 0, (-1), [])],
  [(178, .lxor, 1, 0, 0, 0, 0, 0, []), (179, .land, 1, 0, 0, 0, 0, 0, []), (180, .lastore, 1, 0, 0, 0, 0, 0, []), (181, .iinc 6 1, 3, 6, 0, 0, 0, 1, []), (184, .goto (-41), 3, 143, 0, 0, 0, 0, []), (187, .iload_n 3, 1, 3, 0, 0, 0, 0, []), (188, .iload 4, 2, 4, 0, 0, 0, 0, []), (190, .iconst (-1), 1, 0, 0, 0, 0, (-1), []), (191, .if_icmp .ne 7, 3, 198, 0, 0, 0, 0, [])],
  [(194, .iconst 0, 1, 0, 0, 0, 0, 0, []), (195, .goto 4, 3, 199, 0, 0, 0, 0, []), (198, .iconst 1, 1, 0, 0, 0, 0, 1, []), (199, .iadd, 1, 0, 0, 0, 0, 0, []), (200, .istore_n 3, 1, 3, 0, 0, 0, 0, []), (201, .goto (-133), 3, 68, 0, 0, 0, 0, []), (204, .aload_n 0, 1, 0, 0, 0, 0, 0, []), (205, .getfield 124, 3, 12, 58, 23, 2, 58, [])],
  [(208, .iload_n 1, 1, 1, 0, 0, 0, 0, []), (209, .iload_n 3, 1, 3, 0, 0, 0, 0, []), (210, .iastore, 1, 0, 0, 0, 0, 0, []), (211, .iload_n 3, 1, 3, 0, 0, 0, 0, []), (212, .ireturn, 1, 0, 0, 0, 0, 0, [])]]
def i_N_covered : ai_I := ((⟨"SuiteBenchModel", "covered", "(I)I"⟩, prog_14_method_114_code, 8, (some .int), 0, 6, 140, 0, 1, 0, 12) : ai_I)
def o_N_covered (a : Nat) : SP := match a with
  | 0 => f_N_isOne
  | 1 => f_N_suiteOf
  | 2 => f_N_laysFails
  | 3 => f_N_newBy
  | _ => fun _ _ _ _ _ => False
theorem mo_N_covered : ∀ a, ai_mono (o_N_covered a)
  | 0 => mf_N_isOne
  | 1 => mf_N_suiteOf
  | 2 => mf_N_laysFails
  | 3 => mf_N_newBy
  | _ + 4 => fun _ _ _ _ _ _ _ h => h
def f_N_covered : SP := ai_M o_N_covered 0 8 k_N_covered
theorem mf_N_covered : ai_mono f_N_covered := M_mono mo_N_covered
abbrev cal_N_covered : List ai_I := [i_N_isOne, i_N_suiteOf, i_N_laysFails, i_N_newBy]
theorem a_N_covered : ai_all "SuiteBenchModel" prog_14_method_114_code 8 kc_N cal_N_covered 6 140 false (some .int) k_N_covered = true := by decide +kernel
theorem w_N_covered : ai_CW i_N_covered := ⟨(tk_mem (l := [((Jvm.Cond.code ({ cls := "SuiteBenchModel", name := "covered", desc := "(I)I" } : Jvm.MethodName) prog_14_method_114_code (8 : Nat) (Option.some Jvm.ClassFile.FieldType.int)), 10, 16)]) (by decide +kernel) _ (List.mem_singleton.mpr rfl)), (tk_mem (l := [((Jvm.Cond.initialized "SuiteBenchModel"), 1, 15)]) (by decide +kernel) _ (List.mem_singleton.mpr rfl)), ⟨by decide +kernel, by decide +kernel, by decide +kernel⟩, ⟨(tk_mem (l := [((Jvm.Cond.instanceMethod ({ cls := "SuiteBenchModel", name := "covered", desc := "(I)I" } : Jvm.MethodName)), 10, 14)]) (by decide +kernel) _ (List.mem_singleton.mpr rfl)), (tk_mem (l := [((Jvm.Cond.selects "SuiteBenchModel" ({ cls := "SuiteBenchModel", name := "covered", desc := "(I)I" } : Jvm.MethodName) ({ cls := "SuiteBenchModel", name := "covered", desc := "(I)I" } : Jvm.MethodName)), 10, 15)]) (by decide +kernel) _ (List.mem_singleton.mpr rfl)), .inl ⟨_, _, rfl⟩⟩⟩
theorem c_N_covered {E2 : (Nat → Nat) → State → Heap → Prop} (hE : ai_XH E2) : ai_S E2 i_N_covered f_N_covered := snd_M (by decide) rfl (by decide) a_N_covered kc_N_ok (by rfl) (by decide) (fun a i h => match a, h with
    | 0, h => by cases h; exact ⟨c_N_isOne hE, w_N_isOne⟩
    | 1, h => by cases h; exact ⟨c_N_suiteOf hE, w_N_suiteOf⟩
    | 2, h => by cases h; exact ⟨c_N_laysFails hE, w_N_laysFails⟩
    | 3, h => by cases h; exact ⟨c_N_newBy hE, w_N_newBy⟩
    | _ + 4, h => by simp [cal_N_covered, ai_nth] at h)
def k_L_add : ai_C := [
  [(0, .aload_n 0, 1, 0, 0, 0, 0, 0, []), (1, .getfield 19, 3, 0, 2, 5, 0, 2, []), (4, .bipush 20, 2, 0, 0, 0, 0, 20, []), (6, .if_icmp .ge 33, 3, 39, 0, 0, 0, 0, []), (9, .aload_n 0, 1, 0, 0, 0, 0, 0, []), (10, .getfield 9, 3, 0, 0, 2, 2, 0, []), (13, .aload_n 0, 1, 0, 0, 0, 0, 0, []), (14, .getfield 19, 3, 0, 2, 5, 0, 2, [])],
  [(17, .iload_n 1, 1, 1, 0, 0, 0, 0, []), (18, .iastore, 1, 0, 0, 0, 0, 0, []), (19, .aload_n 0, 1, 0, 0, 0, 0, 0, []), (20, .getfield 15, 3, 0, 1, 4, 2, 1, []), (23, .aload_n 0, 1, 0, 0, 0, 0, 0, []), (24, .getfield 19, 3, 0, 2, 5, 0, 2, []), (27, .lload_n 2, 1, 2, 0, 0, 0, 0, []), (28, .lastore, 1, 0, 0, 0, 0, 0, []), (29, .aload_n 0, 1, 0, 0, 0, 0, 0, []), (30, .dup, 1, 0, 0, 0, 0, 0, []), (31, .getfield 19, 3, 0, 2, 5, 0, 2, [])],
  [(34, .iconst 1, 1, 0, 0, 0, 0, 1, []), (35, .iadd, 1, 0, 0, 0, 0, 0, []), (36, .putfield 19, 3, 0, 2, 5, 0, 2, []), (39, .return_, 1, 0, 0, 0, 0, 0, [])]]
def i_L_add : ai_I := ((⟨"SuiteBench$Log", "add", "(IJ)V"⟩, prog_2_method_2_code, 4, none, 9, 0, 0, 0, 2, 0, 0) : ai_I)
def o_L_add (_ : Nat) : SP := fun _ _ _ _ _ => False
theorem mo_L_add : ∀ a, ai_mono (o_L_add a) := fun _ _ _ _ _ _ _ _ h => h
def f_L_add : SP := ai_M o_L_add 0 4 k_L_add
theorem mf_L_add : ai_mono f_L_add := M_mono mo_L_add
abbrev cal_L_add : List ai_I := []
theorem a_L_add : ai_all "SuiteBench$Log" prog_2_method_2_code 4 kc_L cal_L_add 0 0 false none k_L_add = true := by decide +kernel
theorem w_L_add : ai_CW i_L_add := ⟨(tk_mem (l := [((Jvm.Cond.code ({ cls := "SuiteBench$Log", name := "add", desc := "(IJ)V" } : Jvm.MethodName) prog_2_method_2_code (4 : Nat) (Option.none : Option Jvm.ClassFile.FieldType)), 6, 42)]) (by decide +kernel) _ (List.mem_singleton.mpr rfl)), (tk_mem (l := [((Jvm.Cond.initialized "SuiteBench$Log"), 1, 12)]) (by decide +kernel) _ (List.mem_singleton.mpr rfl)), ⟨by decide +kernel, by decide +kernel, by decide +kernel⟩, ⟨(tk_mem (l := [((Jvm.Cond.instanceMethod ({ cls := "SuiteBench$Log", name := "add", desc := "(IJ)V" } : Jvm.MethodName)), 6, 40)]) (by decide +kernel) _ (List.mem_singleton.mpr rfl)), (tk_mem (l := [((Jvm.Cond.selects "SuiteBench$Log" ({ cls := "SuiteBench$Log", name := "add", desc := "(IJ)V" } : Jvm.MethodName) ({ cls := "SuiteBench$Log", name := "add", desc := "(IJ)V" } : Jvm.MethodName)), 6, 41)]) (by decide +kernel) _ (List.mem_singleton.mpr rfl)), .inl ⟨_, _, rfl⟩⟩⟩
theorem c_L_add {E2 : (Nat → Nat) → State → Heap → Prop} (hE : ai_XH E2) : ai_S E2 i_L_add f_L_add := snd_M (by decide) rfl (by decide) a_L_add kc_L_ok (by rfl) (by decide) (fun a i h => by simp [cal_L_add, ai_nth] at h)
def k_B_ask : ai_C := [
  [(0, .aload_n 0, 1, 0, 0, 0, 0, 0, []), (1, .getfield 26, 3, 11, 1, 0, 2, 1, []), (4, .getfield 166, 3, 1, 2, 80, 0, 2, []), (7, .ifCond .eq 17, 3, 24, 0, 0, 0, 0, []), (10, .iload_n 1, 1, 1, 0, 0, 0, 0, []), (11, .aload_n 0, 1, 0, 0, 0, 0, 0, []), (12, .getfield 30, 3, 11, 2, 7, 2, 2, []), (15, .getfield 150, 3, 1, 3, 85, 0, 3, [])],
  [(18, .invokestatic 153, 3, 0, 2, 86, 0, 0, [(0, 11)]), (21, .ifCond .ne 7, 3, 28, 0, 0, 0, 0, []), (24, .ldc2_w 156, 3, 0, 0, 87, 0, (-1), []), (27, .lreturn, 1, 0, 0, 0, 0, 0, []), (28, .aload_n 0, 1, 0, 0, 0, 0, 0, []), (29, .getfield 70, 3, 11, 7, 19, 2, 7, [])],
  [(32, .getfield 297, 3, 0, 2, 20, 0, 2, []), (35, .bipush 20, 2, 0, 0, 0, 0, 20, []), (37, .if_icmp .lt 7, 3, 44, 0, 0, 0, 0, []), (40, .ldc2_w 298, 3, 0, 0, 130, 0, (-3), []), (43, .lreturn, 1, 0, 0, 0, 0, 0, []), (44, .aload_n 0, 1, 0, 0, 0, 0, 0, []), (45, .getfield 30, 3, 11, 2, 7, 2, 2, [])],
  [(48, .iconst 0, 1, 0, 0, 0, 0, 0, []), (49, .iload_n 1, 1, 1, 0, 0, 0, 0, []), (50, .invokevirtual 158, 3, 1, 3, 88, 1, 0, [(0, 1)]), (53, .lstore_n 2, 1, 2, 0, 0, 0, 0, []), (54, .aload_n 0, 1, 0, 0, 0, 0, 0, []), (55, .getfield 70, 3, 11, 7, 19, 2, 7, []), (58, .iload_n 1, 1, 1, 0, 0, 0, 0, []), (59, .lload_n 2, 1, 2, 0, 0, 0, 0, []), (60, .invokevirtual 300, 3, 2, 3, 131, 9, 0, [(0, 0)]), (63, .aload_n 0, 1, 0, 0, 0, 0, 0, [])],
  [(64, .getfield 79, 3, 11, 8, 21, 2, 8, []), (67, .invokevirtual 304, 3, 3, 1, 22, 9, 0, [(0, 7)]), (70, .lload_n 2, 1, 2, 0, 0, 0, 0, []), (71, .lreturn, 1, 0, 0, 0, 0, 0, [])]]
def i_B_ask : ai_I := ((⟨"SuiteBench", "ask", "(I)J"⟩, prog_1_method_31_code, 4, (some .long), 1, 2, 48, 0, 1, 0, 11) : ai_I)
def o_B_ask (a : Nat) : SP := match a with
  | 0 => f_B_isWord
  | 1 => f_M_tell
  | 2 => f_L_add
  | 3 => f_X_renew
  | _ => fun _ _ _ _ _ => False
theorem mo_B_ask : ∀ a, ai_mono (o_B_ask a)
  | 0 => mf_B_isWord
  | 1 => mf_M_tell
  | 2 => mf_L_add
  | 3 => mf_X_renew
  | _ + 4 => fun _ _ _ _ _ _ _ h => h
def f_B_ask : SP := ai_M o_B_ask 0 4 k_B_ask
theorem mf_B_ask : ai_mono f_B_ask := M_mono mo_B_ask
abbrev cal_B_ask : List ai_I := [i_B_isWord, i_M_tell, i_L_add, i_X_renew]
theorem a_B_ask : ai_all "SuiteBench" prog_1_method_31_code 4 kc_B cal_B_ask 2 48 false (some .long) k_B_ask = true := by decide +kernel
theorem w_B_ask : ai_CW i_B_ask := ⟨(tk_mem (l := [((Jvm.Cond.code ({ cls := "SuiteBench", name := "ask", desc := "(I)J" } : Jvm.MethodName) prog_1_method_31_code (4 : Nat) (Option.some Jvm.ClassFile.FieldType.long)), 6, 37)]) (by decide +kernel) _ (List.mem_singleton.mpr rfl)), (tk_mem (l := [((Jvm.Cond.initialized "SuiteBench"), 1, 1)]) (by decide +kernel) _ (List.mem_singleton.mpr rfl)), ⟨by decide +kernel, by decide +kernel, by decide +kernel⟩, ⟨(tk_mem (l := [((Jvm.Cond.instanceMethod ({ cls := "SuiteBench", name := "ask", desc := "(I)J" } : Jvm.MethodName)), 6, 35)]) (by decide +kernel) _ (List.mem_singleton.mpr rfl)), (tk_mem (l := [((Jvm.Cond.selects "SuiteBench" ({ cls := "SuiteBench", name := "ask", desc := "(I)J" } : Jvm.MethodName) ({ cls := "SuiteBench", name := "ask", desc := "(I)J" } : Jvm.MethodName)), 6, 36)]) (by decide +kernel) _ (List.mem_singleton.mpr rfl)), .inl ⟨_, _, rfl⟩⟩⟩
theorem c_B_ask {E2 : (Nat → Nat) → State → Heap → Prop} (hE : ai_XH E2) : ai_S E2 i_B_ask f_B_ask := snd_M (by decide) rfl (by decide) a_B_ask kc_B_ok (by rfl) (by decide) (fun a i h => match a, h with
    | 0, h => by cases h; exact ⟨c_B_isWord hE, w_B_isWord⟩
    | 1, h => by cases h; exact ⟨c_M_tell hE, w_M_tell⟩
    | 2, h => by cases h; exact ⟨c_L_add hE, w_L_add⟩
    | 3, h => by cases h; exact ⟨c_X_renew hE, w_X_renew⟩
    | _ + 4, h => by simp [cal_B_ask, ai_nth] at h)
def k_N_ask : ai_C := [
  [(0, .aload_n 0, 1, 0, 0, 0, 0, 0, []), (1, .iconst 0, 1, 0, 0, 0, 0, 0, []), (2, .putfield 145, 3, 12, 0, 67, 0, 0, []), (5, .aload_n 0, 1, 0, 0, 0, 0, 0, []), (6, .invokevirtual 272, 3, 0, 1, 2, 0, 0, [(0, 12)]), (9, .ifCond .eq 11, 3, 20, 0, 0, 0, 0, []), (12, .aload_n 0, 1, 0, 0, 0, 0, 0, []), (13, .iload_n 1, 1, 1, 0, 0, 0, 0, []), (14, .invokevirtual 316, 3, 1, 2, 109, 0, 0, [(0, 12)])],
  [(17, .ifCond .ne 7, 3, 24, 0, 0, 0, 0, []), (20, .ldc2_w 323, 3, 0, 0, 110, 0, (-1), []), (23, .lreturn, 1, 0, 0, 0, 0, 0, []), (24, .aload_n 0, 1, 0, 0, 0, 0, 0, []), (25, .getfield 275, 3, 12, 61, 32, 0, 61, []), (28, .bipush 20, 2, 0, 0, 0, 0, 20, []), (30, .if_icmp .ne 7, 3, 37, 0, 0, 0, 0, [])],
  [(33, .ldc2_w 495, 3, 0, 0, 160, 0, (-3), []), (36, .lreturn, 1, 0, 0, 0, 0, 0, []), (37, .aload_n 0, 1, 0, 0, 0, 0, 0, []), (38, .getfield 127, 3, 12, 59, 61, 2, 59, []), (41, .aload_n 0, 1, 0, 0, 0, 0, 0, []), (42, .getfield 275, 3, 12, 61, 32, 0, 61, []), (45, .iload_n 1, 1, 1, 0, 0, 0, 0, []), (46, .iastore, 1, 0, 0, 0, 0, 0, []), (47, .aload_n 0, 1, 0, 0, 0, 0, 0, [])],
  [(48, .getfield 130, 3, 12, 60, 62, 2, 60, []), (51, .aload_n 0, 1, 0, 0, 0, 0, 0, []), (52, .getfield 275, 3, 12, 61, 32, 0, 61, []), (55, .aload_n 0, 1, 0, 0, 0, 0, 0, []), (56, .bipush 24, 2, 0, 0, 0, 0, 24, []), (58, .iconst 0, 1, 0, 0, 0, 0, 0, []), (59, .iload_n 1, 1, 1, 0, 0, 0, 0, []), (60, .invokevirtual 319, 3, 2, 4, 18, 1, 0, [(0, 12)]), (63, .lastore, 1, 0, 0, 0, 0, 0, [])],
  [(64, .aload_n 0, 1, 0, 0, 0, 0, 0, []), (65, .dup, 1, 0, 0, 0, 0, 0, []), (66, .getfield 275, 3, 12, 61, 32, 0, 61, []), (69, .iconst 1, 1, 0, 0, 0, 0, 1, []), (70, .iadd, 1, 0, 0, 0, 0, 0, []), (71, .putfield 275, 3, 12, 61, 32, 0, 61, []), (74, .aload_n 0, 1, 0, 0, 0, 0, 0, []), (75, .getfield 130, 3, 12, 60, 62, 2, 60, []), (78, .aload_n 0, 1, 0, 0, 0, 0, 0, []), (79, .getfield 275, 3, 12, 61, 32, 0, 61, [])],
  [(82, .iconst 1, 1, 0, 0, 0, 0, 1, []), (83, .isub, 1, 0, 0, 0, 0, 0, []), (84, .laload, 1, 0, 0, 0, 0, 0, []), (85, .lreturn, 1, 0, 0, 0, 0, 0, [])]]
def i_N_ask : ai_I := ((⟨"SuiteBenchModel", "ask", "(I)J"⟩, prog_14_method_115_code, 2, (some .long), 1, 2, 51, 0, 1, 0, 12) : ai_I)
def o_N_ask (a : Nat) : SP := match a with
  | 0 => f_N_states
  | 1 => f_N_isWordNumber
  | 2 => f_N_answers
  | _ => fun _ _ _ _ _ => False
theorem mo_N_ask : ∀ a, ai_mono (o_N_ask a)
  | 0 => mf_N_states
  | 1 => mf_N_isWordNumber
  | 2 => mf_N_answers
  | _ + 3 => fun _ _ _ _ _ _ _ h => h
def f_N_ask : SP := ai_M o_N_ask 0 2 k_N_ask
theorem mf_N_ask : ai_mono f_N_ask := M_mono mo_N_ask
abbrev cal_N_ask : List ai_I := [i_N_states, i_N_isWordNumber, i_N_answers]
theorem a_N_ask : ai_all "SuiteBenchModel" prog_14_method_115_code 2 kc_N cal_N_ask 2 51 false (some .long) k_N_ask = true := by decide +kernel
theorem w_N_ask : ai_CW i_N_ask := ⟨(tk_mem (l := [((Jvm.Cond.code ({ cls := "SuiteBenchModel", name := "ask", desc := "(I)J" } : Jvm.MethodName) prog_14_method_115_code (2 : Nat) (Option.some Jvm.ClassFile.FieldType.long)), 10, 31)]) (by decide +kernel) _ (List.mem_singleton.mpr rfl)), (tk_mem (l := [((Jvm.Cond.initialized "SuiteBenchModel"), 1, 15)]) (by decide +kernel) _ (List.mem_singleton.mpr rfl)), ⟨by decide +kernel, by decide +kernel, by decide +kernel⟩, ⟨(tk_mem (l := [((Jvm.Cond.instanceMethod ({ cls := "SuiteBenchModel", name := "ask", desc := "(I)J" } : Jvm.MethodName)), 10, 29)]) (by decide +kernel) _ (List.mem_singleton.mpr rfl)), (tk_mem (l := [((Jvm.Cond.selects "SuiteBenchModel" ({ cls := "SuiteBenchModel", name := "ask", desc := "(I)J" } : Jvm.MethodName) ({ cls := "SuiteBenchModel", name := "ask", desc := "(I)J" } : Jvm.MethodName)), 10, 30)]) (by decide +kernel) _ (List.mem_singleton.mpr rfl)), .inl ⟨_, _, rfl⟩⟩⟩
theorem c_N_ask {E2 : (Nat → Nat) → State → Heap → Prop} (hE : ai_XH E2) : ai_S E2 i_N_ask f_N_ask := snd_M (by decide) rfl (by decide) a_N_ask kc_N_ok (by rfl) (by decide) (fun a i h => match a, h with
    | 0, h => by cases h; exact ⟨c_N_states hE, w_N_states⟩
    | 1, h => by cases h; exact ⟨c_N_isWordNumber hE, w_N_isWordNumber⟩
    | 2, h => by cases h; exact ⟨c_N_answers hE, w_N_answers⟩
    | _ + 3, h => by simp [cal_N_ask, ai_nth] at h)
def k_B_forget : ai_C := [
  [(0, .aload_n 0, 1, 0, 0, 0, 0, 0, []), (1, .getfield 70, 3, 11, 7, 19, 2, 7, []), (4, .getfield 297, 3, 0, 2, 20, 0, 2, []), (7, .istore_n 1, 1, 1, 0, 0, 0, 0, []), (8, .aload_n 0, 1, 0, 0, 0, 0, 0, []), (9, .getfield 70, 3, 11, 7, 19, 2, 7, []), (12, .iconst 0, 1, 0, 0, 0, 0, 0, []), (13, .putfield 297, 3, 0, 2, 20, 0, 2, [])],
  [(16, .aload_n 0, 1, 0, 0, 0, 0, 0, []), (17, .getfield 79, 3, 11, 8, 21, 2, 8, []), (20, .invokevirtual 304, 3, 0, 1, 22, 9, 0, [(0, 7)]), (23, .iload_n 1, 1, 1, 0, 0, 0, 0, []), (24, .ireturn, 1, 0, 0, 0, 0, 0, [])]]
def i_B_forget : ai_I := ((⟨"SuiteBench", "forget", "()I"⟩, prog_1_method_32_code, 2, (some .int), 0, 1, 20, 0, 0, 0, 11) : ai_I)
def o_B_forget (a : Nat) : SP := match a with
  | 0 => f_X_renew
  | _ => fun _ _ _ _ _ => False
theorem mo_B_forget : ∀ a, ai_mono (o_B_forget a)
  | 0 => mf_X_renew
  | _ + 1 => fun _ _ _ _ _ _ _ h => h
def f_B_forget : SP := ai_M o_B_forget 0 2 k_B_forget
theorem mf_B_forget : ai_mono f_B_forget := M_mono mo_B_forget
abbrev cal_B_forget : List ai_I := [i_X_renew]
theorem a_B_forget : ai_all "SuiteBench" prog_1_method_32_code 2 kc_B cal_B_forget 1 20 false (some .int) k_B_forget = true := by decide +kernel
theorem w_B_forget : ai_CW i_B_forget := ⟨(tk_mem (l := [((Jvm.Cond.code ({ cls := "SuiteBench", name := "forget", desc := "()I" } : Jvm.MethodName) prog_1_method_32_code (2 : Nat) (Option.some Jvm.ClassFile.FieldType.int)), 6, 46)]) (by decide +kernel) _ (List.mem_singleton.mpr rfl)), (tk_mem (l := [((Jvm.Cond.initialized "SuiteBench"), 1, 1)]) (by decide +kernel) _ (List.mem_singleton.mpr rfl)), ⟨by decide +kernel, by decide +kernel, by decide +kernel⟩, ⟨(tk_mem (l := [((Jvm.Cond.instanceMethod ({ cls := "SuiteBench", name := "forget", desc := "()I" } : Jvm.MethodName)), 6, 44)]) (by decide +kernel) _ (List.mem_singleton.mpr rfl)), (tk_mem (l := [((Jvm.Cond.selects "SuiteBench" ({ cls := "SuiteBench", name := "forget", desc := "()I" } : Jvm.MethodName) ({ cls := "SuiteBench", name := "forget", desc := "()I" } : Jvm.MethodName)), 6, 45)]) (by decide +kernel) _ (List.mem_singleton.mpr rfl)), .inl ⟨_, _, rfl⟩⟩⟩
theorem c_B_forget {E2 : (Nat → Nat) → State → Heap → Prop} (hE : ai_XH E2) : ai_S E2 i_B_forget f_B_forget := snd_M (by decide) rfl (by decide) a_B_forget kc_B_ok (by rfl) (by decide) (fun a i h => match a, h with
    | 0, h => by cases h; exact ⟨c_X_renew hE, w_X_renew⟩
    | _ + 1, h => by simp [cal_B_forget, ai_nth] at h)
def k_N_forget : ai_C := [
  [(0, .aload_n 0, 1, 0, 0, 0, 0, 0, []), (1, .iconst 0, 1, 0, 0, 0, 0, 0, []), (2, .putfield 145, 3, 12, 0, 67, 0, 0, []), (5, .aload_n 0, 1, 0, 0, 0, 0, 0, []), (6, .getfield 275, 3, 12, 61, 32, 0, 61, []), (9, .istore_n 1, 1, 1, 0, 0, 0, 0, []), (10, .aload_n 0, 1, 0, 0, 0, 0, 0, []), (11, .iconst 0, 1, 0, 0, 0, 0, 0, []), (12, .putfield 275, 3, 12, 61, 32, 0, 61, []), (15, .iload_n 1, 1, 1, 0, 0, 0, 0, [])],
  [(16, .ireturn, 1, 0, 0, 0, 0, 0, [])]]
def i_N_forget : ai_I := ((⟨"SuiteBenchModel", "forget", "()I"⟩, prog_14_method_116_code, 2, (some .int), 0, 0, 0, 0, 0, 0, 12) : ai_I)
def o_N_forget (_ : Nat) : SP := fun _ _ _ _ _ => False
theorem mo_N_forget : ∀ a, ai_mono (o_N_forget a) := fun _ _ _ _ _ _ _ _ h => h
def f_N_forget : SP := ai_M o_N_forget 0 2 k_N_forget
theorem mf_N_forget : ai_mono f_N_forget := M_mono mo_N_forget
abbrev cal_N_forget : List ai_I := []
theorem a_N_forget : ai_all "SuiteBenchModel" prog_14_method_116_code 2 kc_N cal_N_forget 0 0 false (some .int) k_N_forget = true := by decide +kernel
theorem w_N_forget : ai_CW i_N_forget := ⟨(tk_mem (l := [((Jvm.Cond.code ({ cls := "SuiteBenchModel", name := "forget", desc := "()I" } : Jvm.MethodName) prog_14_method_116_code (2 : Nat) (Option.some Jvm.ClassFile.FieldType.int)), 10, 36)]) (by decide +kernel) _ (List.mem_singleton.mpr rfl)), (tk_mem (l := [((Jvm.Cond.initialized "SuiteBenchModel"), 1, 15)]) (by decide +kernel) _ (List.mem_singleton.mpr rfl)), ⟨by decide +kernel, by decide +kernel, by decide +kernel⟩, ⟨(tk_mem (l := [((Jvm.Cond.instanceMethod ({ cls := "SuiteBenchModel", name := "forget", desc := "()I" } : Jvm.MethodName)), 10, 34)]) (by decide +kernel) _ (List.mem_singleton.mpr rfl)), (tk_mem (l := [((Jvm.Cond.selects "SuiteBenchModel" ({ cls := "SuiteBenchModel", name := "forget", desc := "()I" } : Jvm.MethodName) ({ cls := "SuiteBenchModel", name := "forget", desc := "()I" } : Jvm.MethodName)), 10, 35)]) (by decide +kernel) _ (List.mem_singleton.mpr rfl)), .inl ⟨_, _, rfl⟩⟩⟩
theorem c_N_forget {E2 : (Nat → Nat) → State → Heap → Prop} (hE : ai_XH E2) : ai_S E2 i_N_forget f_N_forget := snd_M (by decide) rfl (by decide) a_N_forget kc_N_ok (by rfl) (by decide) (fun a i h => by simp [cal_N_forget, ai_nth] at h)
def k_L_fits : ai_C := [
  [(0, .iconst 0, 1, 0, 0, 0, 0, 0, []), (1, .istore_n 2, 1, 2, 0, 0, 0, 0, []), (2, .iload_n 2, 1, 2, 0, 0, 0, 0, []), (3, .aload_n 0, 1, 0, 0, 0, 0, 0, []), (4, .getfield 19, 3, 0, 2, 5, 0, 2, []), (7, .if_icmp .ge 32, 3, 39, 0, 0, 0, 0, []), (10, .aload_n 1, 1, 1, 0, 0, 0, 0, []), (11, .iconst 0, 1, 0, 0, 0, 0, 0, []), (12, .aload_n 0, 1, 0, 0, 0, 0, 0, []), (13, .getfield 9, 3, 0, 0, 2, 2, 0, [])],
  [(16, .iload_n 2, 1, 2, 0, 0, 0, 0, []), (17, .iaload, 1, 0, 0, 0, 0, 0, []), (18, .invokevirtual 29, 3, 0, 3, 6, 1, 0, [(0, 1)]), (21, .aload_n 0, 1, 0, 0, 0, 0, 0, []), (22, .getfield 15, 3, 0, 1, 4, 2, 1, []), (25, .iload_n 2, 1, 2, 0, 0, 0, 0, []), (26, .laload, 1, 0, 0, 0, 0, 0, []), (27, .lcmp, 1, 0, 0, 0, 0, 0, []), (28, .ifCond .eq 5, 3, 33, 0, 0, 0, 0, []), (31, .iconst 0, 1, 0, 0, 0, 0, 0, [])],
  [(32, .ireturn, 1, 0, 0, 0, 3, 0, []), (33, .iinc 2 1, 3, 2, 0, 0, 0, 1, []), (36, .goto (-34), 3, 2, 0, 0, 0, 0, []), (39, .iconst 1, 1, 0, 0, 0, 0, 1, []), (40, .ireturn, 1, 0, 0, 0, 3, 0, [])]]
def i_L_fits : ai_I := ((⟨"SuiteBench$Log", "fits", "(LSuiteBench$Machine;)Z"⟩, prog_2_method_4_code, 3, (some .boolean), 3, 2, 48, 0, 1, 0, 0) : ai_I)
def o_L_fits (a : Nat) : SP := match a with
  | 0 => f_M_tell
  | _ => fun _ _ _ _ _ => False
theorem mo_L_fits : ∀ a, ai_mono (o_L_fits a)
  | 0 => mf_M_tell
  | _ + 1 => fun _ _ _ _ _ _ _ h => h
def f_L_fits : SP := ai_M o_L_fits 0 3 k_L_fits
theorem mf_L_fits : ai_mono f_L_fits := M_mono mo_L_fits
abbrev cal_L_fits : List ai_I := [i_M_tell]
theorem a_L_fits : ai_all "SuiteBench$Log" prog_2_method_4_code 3 kc_L cal_L_fits 2 48 false (some .boolean) k_L_fits = true := by decide +kernel
theorem w_L_fits : ai_CW i_L_fits := ⟨(tk_mem (l := [((Jvm.Cond.code ({ cls := "SuiteBench$Log", name := "fits", desc := "(LSuiteBench$Machine;)Z" } : Jvm.MethodName) prog_2_method_4_code (3 : Nat) (Option.some Jvm.ClassFile.FieldType.boolean)), 6, 68)]) (by decide +kernel) _ (List.mem_singleton.mpr rfl)), (tk_mem (l := [((Jvm.Cond.initialized "SuiteBench$Log"), 1, 12)]) (by decide +kernel) _ (List.mem_singleton.mpr rfl)), ⟨by decide +kernel, by decide +kernel, by decide +kernel⟩, ⟨(tk_mem (l := [((Jvm.Cond.instanceMethod ({ cls := "SuiteBench$Log", name := "fits", desc := "(LSuiteBench$Machine;)Z" } : Jvm.MethodName)), 6, 66)]) (by decide +kernel) _ (List.mem_singleton.mpr rfl)), (tk_mem (l := [((Jvm.Cond.selects "SuiteBench$Log" ({ cls := "SuiteBench$Log", name := "fits", desc := "(LSuiteBench$Machine;)Z" } : Jvm.MethodName) ({ cls := "SuiteBench$Log", name := "fits", desc := "(LSuiteBench$Machine;)Z" } : Jvm.MethodName)), 6, 67)]) (by decide +kernel) _ (List.mem_singleton.mpr rfl)), .inl ⟨_, _, rfl⟩⟩⟩
theorem c_L_fits {E2 : (Nat → Nat) → State → Heap → Prop} (hE : ai_XH E2) : ai_S E2 i_L_fits f_L_fits := snd_M (by decide) rfl (by decide) a_L_fits kc_L_ok (by rfl) (by decide) (fun a i h => match a, h with
    | 0, h => by cases h; exact ⟨c_M_tell hE, w_M_tell⟩
    | _ + 1, h => by simp [cal_L_fits, ai_nth] at h)
def k_X_addIfFitting : ai_C := [
  [(0, .aload_n 0, 1, 0, 0, 0, 0, 0, []), (1, .getfield 61, 3, 7, 14, 20, 0, 14, []), (4, .aload_n 0, 1, 0, 0, 0, 0, 0, []), (5, .getfield 18, 3, 7, 4, 7, 2, 4, []), (8, .arraylength, 1, 0, 0, 0, 50, 0, []), (9, .if_icmp .ge 37, 3, 46, 0, 0, 0, 0, []), (12, .aload_n 0, 1, 0, 0, 0, 0, 0, []), (13, .getfield 50, 3, 7, 2, 17, 2, 2, [])],
  [(16, .aload_n 0, 1, 0, 0, 0, 0, 0, []), (17, .getfield 12, 3, 7, 3, 5, 2, 3, []), (20, .invokevirtual 86, 3, 0, 2, 21, 0, 0, [(0, 0)]), (23, .ifCond .eq 23, 3, 46, 0, 0, 0, 0, []), (26, .aload_n 0, 1, 0, 0, 0, 0, 0, []), (27, .getfield 18, 3, 7, 4, 7, 2, 4, []), (30, .aload_n 0, 1, 0, 0, 0, 0, 0, []), (31, .getfield 61, 3, 7, 14, 20, 0, 14, [])],
  [(34, .iload_n 1, 1, 1, 0, 0, 0, 0, []), (35, .iastore, 1, 0, 0, 0, 0, 0, []), (36, .aload_n 0, 1, 0, 0, 0, 0, 0, []), (37, .dup, 1, 0, 0, 0, 0, 0, []), (38, .getfield 61, 3, 7, 14, 20, 0, 14, []), (41, .iconst 1, 1, 0, 0, 0, 0, 1, []), (42, .iadd, 1, 0, 0, 0, 0, 0, []), (43, .putfield 61, 3, 7, 14, 20, 0, 14, []), (46, .return_, 1, 0, 0, 0, 0, 0, [])]]
def i_X_addIfFitting : ai_I := ((⟨"SuiteBench$Suspects", "addIfFitting", "(I)V"⟩, prog_9_method_4_code, 2, none, 9, 3, 70, 0, 1, 0, 7) : ai_I)
def o_X_addIfFitting (a : Nat) : SP := match a with
  | 0 => f_L_fits
  | _ => fun _ _ _ _ _ => False
theorem mo_X_addIfFitting : ∀ a, ai_mono (o_X_addIfFitting a)
  | 0 => mf_L_fits
  | _ + 1 => fun _ _ _ _ _ _ _ h => h
def f_X_addIfFitting : SP := ai_M o_X_addIfFitting 0 2 k_X_addIfFitting
theorem mf_X_addIfFitting : ai_mono f_X_addIfFitting := M_mono mo_X_addIfFitting
abbrev cal_X_addIfFitting : List ai_I := [i_L_fits]
theorem a_X_addIfFitting : ai_all "SuiteBench$Suspects" prog_9_method_4_code 2 kc_X cal_X_addIfFitting 3 70 false none k_X_addIfFitting = true := by decide +kernel
theorem w_X_addIfFitting : ai_CW i_X_addIfFitting := ⟨(tk_mem (l := [((Jvm.Cond.code ({ cls := "SuiteBench$Suspects", name := "addIfFitting", desc := "(I)V" } : Jvm.MethodName) prog_9_method_4_code (2 : Nat) (Option.none : Option Jvm.ClassFile.FieldType)), 6, 64)]) (by decide +kernel) _ (List.mem_singleton.mpr rfl)), (tk_mem (l := [((Jvm.Cond.initialized "SuiteBench$Suspects"), 1, 13)]) (by decide +kernel) _ (List.mem_singleton.mpr rfl)), ⟨by decide +kernel, by decide +kernel, by decide +kernel⟩, ⟨(tk_mem (l := [((Jvm.Cond.instanceMethod ({ cls := "SuiteBench$Suspects", name := "addIfFitting", desc := "(I)V" } : Jvm.MethodName)), 6, 63)]) (by decide +kernel) _ (List.mem_singleton.mpr rfl)), gw_sel 58 (by decide +kernel), .inl ⟨_, _, rfl⟩⟩⟩
theorem c_X_addIfFitting {E2 : (Nat → Nat) → State → Heap → Prop} (hE : ai_XH E2) : ai_S E2 i_X_addIfFitting f_X_addIfFitting := snd_M (by decide) rfl (by decide) a_X_addIfFitting kc_X_ok (by rfl) (by decide) (fun a i h => match a, h with
    | 0, h => by cases h; exact ⟨c_L_fits hE, w_L_fits⟩
    | _ + 1, h => by simp [cal_X_addIfFitting, ai_nth] at h)
def k_X_learn : ai_C := [
  [(0, .aload_n 0, 1, 0, 0, 0, 0, 0, []), (1, .getfield 54, 3, 7, 16, 18, 3, 16, []), (4, .ifCond .eq 4, 3, 8, 0, 0, 0, 0, []), (7, .return_, 1, 0, 0, 0, 0, 0, []), (8, .aload_n 0, 1, 0, 0, 0, 0, 0, []), (9, .iconst 1, 1, 0, 0, 0, 0, 1, []), (10, .putfield 54, 3, 7, 16, 18, 3, 16, []), (13, .aload_n 0, 1, 0, 0, 0, 0, 0, []), (14, .iconst 0, 1, 0, 0, 0, 0, 0, []), (15, .putfield 61, 3, 7, 14, 20, 0, 14, [])],
  [(18, .aload_n 0, 1, 0, 0, 0, 0, 0, []), (19, .getfield 12, 3, 7, 3, 5, 2, 3, []), (22, .aload_n 0, 1, 0, 0, 0, 0, 0, []), (23, .getfield 43, 3, 7, 0, 15, 2, 0, []), (26, .invokevirtual 65, 3, 0, 2, 22, 9, 0, [(0, 1)]), (29, .iconst 0, 1, 0, 0, 0, 0, 0, []), (30, .istore_n 1, 1, 1, 0, 0, 0, 0, []), (31, .iload_n 1, 1, 1, 0, 0, 0, 0, [])],
  [(32, .aload_n 0, 1, 0, 0, 0, 0, 0, []), (33, .getfield 46, 3, 7, 1, 16, 2, 1, []), (36, .getfield 69, 3, 2, 15, 23, 0, 15, []), (39, .if_icmp .ge 38, 3, 77, 0, 0, 0, 0, []), (42, .aload_n 0, 1, 0, 0, 0, 0, 0, []), (43, .getfield 46, 3, 7, 1, 16, 2, 1, []), (46, .aload_n 0, 1, 0, 0, 0, 0, 0, []), (47, .getfield 12, 3, 7, 3, 5, 2, 3, [])],
  [(50, .iload_n 1, 1, 1, 0, 0, 0, 0, []), (51, .invokevirtual 72, 3, 1, 3, 24, 9, 0, [(0, 2)]), (54, .aload_n 0, 1, 0, 0, 0, 0, 0, []), (55, .iload_n 1, 1, 1, 0, 0, 0, 0, []), (56, .invokevirtual 76, 3, 2, 2, 25, 9, 0, [(0, 7)]), (59, .aload_n 0, 1, 0, 0, 0, 0, 0, []), (60, .getfield 46, 3, 7, 1, 16, 2, 1, []), (63, .aload_n 0, 1, 0, 0, 0, 0, 0, [])],
  [(64, .getfield 12, 3, 7, 3, 5, 2, 3, []), (67, .iload_n 1, 1, 1, 0, 0, 0, 0, []), (68, .invokevirtual 80, 3, 3, 3, 26, 9, 0, [(0, 2)]), (71, .iinc 1 1, 3, 1, 0, 0, 0, 1, []), (74, .goto (-43), 3, 31, 0, 0, 0, 0, []), (77, .aload_n 0, 1, 0, 0, 0, 0, 0, []), (78, .getfield 43, 3, 7, 0, 15, 2, 0, [])],
  [(81, .getfield 83, 3, 1, 2, 27, 0, 2, []), (84, .ifCond .le 10, 3, 94, 0, 0, 0, 0, []), (87, .aload_n 0, 1, 0, 0, 0, 0, 0, []), (88, .sipush 1000, 3, 0, 0, 0, 0, 1000, []), (91, .invokevirtual 76, 3, 2, 2, 25, 9, 0, [(0, 7)]), (94, .return_, 1, 0, 0, 0, 0, 0, [])]]
def i_X_learn : ai_I := ((⟨"SuiteBench$Suspects", "learn", "()V"⟩, prog_9_method_3_code, 2, none, 9, 4, 91, 0, 0, 0, 7) : ai_I)
def o_X_learn (a : Nat) : SP := match a with
  | 0 => f_M_copy
  | 1 => f_U_dress
  | 2 => f_X_addIfFitting
  | 3 => f_U_undress
  | _ => fun _ _ _ _ _ => False
theorem mo_X_learn : ∀ a, ai_mono (o_X_learn a)
  | 0 => mf_M_copy
  | 1 => mf_U_dress
  | 2 => mf_X_addIfFitting
  | 3 => mf_U_undress
  | _ + 4 => fun _ _ _ _ _ _ _ h => h
def f_X_learn : SP := ai_M o_X_learn 0 2 k_X_learn
theorem mf_X_learn : ai_mono f_X_learn := M_mono mo_X_learn
abbrev cal_X_learn : List ai_I := [i_M_copy, i_U_dress, i_X_addIfFitting, i_U_undress]
theorem a_X_learn : ai_all "SuiteBench$Suspects" prog_9_method_3_code 2 kc_X cal_X_learn 4 91 false none k_X_learn = true := by decide +kernel
theorem w_X_learn : ai_CW i_X_learn := ⟨(tk_mem (l := [((Jvm.Cond.code ({ cls := "SuiteBench$Suspects", name := "learn", desc := "()V" } : Jvm.MethodName) prog_9_method_3_code (2 : Nat) (Option.none : Option Jvm.ClassFile.FieldType)), 6, 58)]) (by decide +kernel) _ (List.mem_singleton.mpr rfl)), (tk_mem (l := [((Jvm.Cond.initialized "SuiteBench$Suspects"), 1, 13)]) (by decide +kernel) _ (List.mem_singleton.mpr rfl)), ⟨by decide +kernel, by decide +kernel, by decide +kernel⟩, ⟨(tk_mem (l := [((Jvm.Cond.instanceMethod ({ cls := "SuiteBench$Suspects", name := "learn", desc := "()V" } : Jvm.MethodName)), 6, 57)]) (by decide +kernel) _ (List.mem_singleton.mpr rfl)), gw_sel 57 (by decide +kernel), .inl ⟨_, _, rfl⟩⟩⟩
theorem c_X_learn {E2 : (Nat → Nat) → State → Heap → Prop} (hE : ai_XH E2) : ai_S E2 i_X_learn f_X_learn := snd_M (by decide) rfl (by decide) a_X_learn kc_X_ok (by rfl) (by decide) (fun a i h => match a, h with
    | 0, h => by cases h; exact ⟨c_M_copy hE, w_M_copy⟩
    | 1, h => by cases h; exact ⟨c_U_dress hE, w_U_dress⟩
    | 2, h => by cases h; exact ⟨c_X_addIfFitting hE, w_X_addIfFitting⟩
    | 3, h => by cases h; exact ⟨c_U_undress hE, w_U_undress⟩
    | _ + 4, h => by simp [cal_X_learn, ai_nth] at h)
def k_X_all : ai_C := [
  [(0, .aload_n 0, 1, 0, 0, 0, 0, 0, []), (1, .invokevirtual 92, 3, 0, 1, 28, 9, 0, [(0, 7)]), (4, .aload_n 0, 1, 0, 0, 0, 0, 0, []), (5, .getfield 61, 3, 7, 14, 20, 0, 14, []), (8, .ireturn, 1, 0, 0, 0, 0, 0, [])]]
def i_X_all : ai_I := ((⟨"SuiteBench$Suspects", "all", "()I"⟩, prog_9_method_6_code, 1, (some .int), 0, 5, 112, 0, 0, 0, 7) : ai_I)
def o_X_all (a : Nat) : SP := match a with
  | 0 => f_X_learn
  | _ => fun _ _ _ _ _ => False
theorem mo_X_all : ∀ a, ai_mono (o_X_all a)
  | 0 => mf_X_learn
  | _ + 1 => fun _ _ _ _ _ _ _ h => h
def f_X_all : SP := ai_M o_X_all 0 1 k_X_all
theorem mf_X_all : ai_mono f_X_all := M_mono mo_X_all
abbrev cal_X_all : List ai_I := [i_X_learn]
theorem a_X_all : ai_all "SuiteBench$Suspects" prog_9_method_6_code 1 kc_X cal_X_all 5 112 false (some .int) k_X_all = true := by decide +kernel
theorem w_X_all : ai_CW i_X_all := ⟨(tk_mem (l := [((Jvm.Cond.code ({ cls := "SuiteBench$Suspects", name := "all", desc := "()I" } : Jvm.MethodName) prog_9_method_6_code (1 : Nat) (Option.some Jvm.ClassFile.FieldType.int)), 6, 54)]) (by decide +kernel) _ (List.mem_singleton.mpr rfl)), (tk_mem (l := [((Jvm.Cond.initialized "SuiteBench$Suspects"), 1, 13)]) (by decide +kernel) _ (List.mem_singleton.mpr rfl)), ⟨by decide +kernel, by decide +kernel, by decide +kernel⟩, ⟨(tk_mem (l := [((Jvm.Cond.instanceMethod ({ cls := "SuiteBench$Suspects", name := "all", desc := "()I" } : Jvm.MethodName)), 6, 52)]) (by decide +kernel) _ (List.mem_singleton.mpr rfl)), (tk_mem (l := [((Jvm.Cond.selects "SuiteBench$Suspects" ({ cls := "SuiteBench$Suspects", name := "all", desc := "()I" } : Jvm.MethodName) ({ cls := "SuiteBench$Suspects", name := "all", desc := "()I" } : Jvm.MethodName)), 6, 53)]) (by decide +kernel) _ (List.mem_singleton.mpr rfl)), .inl ⟨_, _, rfl⟩⟩⟩
theorem c_X_all {E2 : (Nat → Nat) → State → Heap → Prop} (hE : ai_XH E2) : ai_S E2 i_X_all f_X_all := snd_M (by decide) rfl (by decide) a_X_all kc_X_ok (by rfl) (by decide) (fun a i h => match a, h with
    | 0, h => by cases h; exact ⟨c_X_learn hE, w_X_learn⟩
    | _ + 1, h => by simp [cal_X_all, ai_nth] at h)
def k_X_machineAmong : ai_C := [
  [(0, .aload_n 0, 1, 0, 0, 0, 0, 0, []), (1, .invokevirtual 92, 3, 0, 1, 28, 9, 0, [(0, 7)]), (4, .aload_n 0, 1, 0, 0, 0, 0, 0, []), (5, .getfield 61, 3, 7, 14, 20, 0, 14, []), (8, .ifCond .le 24, 3, 32, 0, 0, 0, 0, []), (11, .aload_n 0, 1, 0, 0, 0, 0, 0, []), (12, .getfield 18, 3, 7, 4, 7, 2, 4, []), (15, .aload_n 0, 1, 0, 0, 0, 0, 0, [])],
  [(16, .getfield 61, 3, 7, 14, 20, 0, 14, []), (19, .iconst 1, 1, 0, 0, 0, 0, 1, []), (20, .isub, 1, 0, 0, 0, 0, 0, []), (21, .iaload, 1, 0, 0, 0, 0, 0, []), (22, .sipush 1000, 3, 0, 0, 0, 0, 1000, []), (25, .if_icmp .ne 7, 3, 32, 0, 0, 0, 0, []), (28, .iconst 1, 1, 0, 0, 0, 0, 1, []), (29, .goto 4, 3, 33, 0, 0, 0, 0, [])],
  [(32, .iconst 0, 1, 0, 0, 0, 0, 0, []), (33, .ireturn, 1, 0, 0, 0, 0, 0, [])]]
def i_X_machineAmong : ai_I := ((⟨"SuiteBench$Suspects", "machineAmong", "()I"⟩, prog_9_method_5_code, 1, (some .int), 0, 5, 112, 0, 0, 0, 7) : ai_I)
def o_X_machineAmong (a : Nat) : SP := match a with
  | 0 => f_X_learn
  | _ => fun _ _ _ _ _ => False
theorem mo_X_machineAmong : ∀ a, ai_mono (o_X_machineAmong a)
  | 0 => mf_X_learn
  | _ + 1 => fun _ _ _ _ _ _ _ h => h
def f_X_machineAmong : SP := ai_M o_X_machineAmong 0 1 k_X_machineAmong
theorem mf_X_machineAmong : ai_mono f_X_machineAmong := M_mono mo_X_machineAmong
abbrev cal_X_machineAmong : List ai_I := [i_X_learn]
theorem a_X_machineAmong : ai_all "SuiteBench$Suspects" prog_9_method_5_code 1 kc_X cal_X_machineAmong 5 112 false (some .int) k_X_machineAmong = true := by decide +kernel
theorem w_X_machineAmong : ai_CW i_X_machineAmong := ⟨(tk_mem (l := [((Jvm.Cond.code ({ cls := "SuiteBench$Suspects", name := "machineAmong", desc := "()I" } : Jvm.MethodName) prog_9_method_5_code (1 : Nat) (Option.some Jvm.ClassFile.FieldType.int)), 6, 74)]) (by decide +kernel) _ (List.mem_singleton.mpr rfl)), (tk_mem (l := [((Jvm.Cond.initialized "SuiteBench$Suspects"), 1, 13)]) (by decide +kernel) _ (List.mem_singleton.mpr rfl)), ⟨by decide +kernel, by decide +kernel, by decide +kernel⟩, ⟨(tk_mem (l := [((Jvm.Cond.instanceMethod ({ cls := "SuiteBench$Suspects", name := "machineAmong", desc := "()I" } : Jvm.MethodName)), 6, 72)]) (by decide +kernel) _ (List.mem_singleton.mpr rfl)), (tk_mem (l := [((Jvm.Cond.selects "SuiteBench$Suspects" ({ cls := "SuiteBench$Suspects", name := "machineAmong", desc := "()I" } : Jvm.MethodName) ({ cls := "SuiteBench$Suspects", name := "machineAmong", desc := "()I" } : Jvm.MethodName)), 6, 73)]) (by decide +kernel) _ (List.mem_singleton.mpr rfl)), .inl ⟨_, _, rfl⟩⟩⟩
theorem c_X_machineAmong {E2 : (Nat → Nat) → State → Heap → Prop} (hE : ai_XH E2) : ai_S E2 i_X_machineAmong f_X_machineAmong := snd_M (by decide) rfl (by decide) a_X_machineAmong kc_X_ok (by rfl) (by decide) (fun a i h => match a, h with
    | 0, h => by cases h; exact ⟨c_X_learn hE, w_X_learn⟩
    | _ + 1, h => by simp [cal_X_machineAmong, ai_nth] at h)
def k_B_suspects : ai_C := [
  [(0, .iload_n 1, 1, 1, 0, 0, 0, 0, []), (1, .ifCond .ne 19, 3, 20, 0, 0, 0, 0, []), (4, .aload_n 0, 1, 0, 0, 0, 0, 0, []), (5, .getfield 79, 3, 11, 8, 21, 2, 8, []), (8, .invokevirtual 307, 3, 0, 1, 132, 0, 0, [(0, 7)]), (11, .aload_n 0, 1, 0, 0, 0, 0, 0, []), (12, .getfield 79, 3, 11, 8, 21, 2, 8, []), (15, .invokevirtual 310, 3, 1, 1, 133, 0, 0, [(0, 7)])],
  [(18, .isub, 1, 0, 0, 0, 0, 0, []), (19, .ireturn, 1, 0, 0, 0, 0, 0, []), (20, .iload_n 1, 1, 1, 0, 0, 0, 0, []), (21, .iconst 1, 1, 0, 0, 0, 0, 1, []), (22, .if_icmp .ne 13, 3, 35, 0, 0, 0, 0, []), (25, .aload_n 0, 1, 0, 0, 0, 0, 0, []), (26, .getfield 79, 3, 11, 8, 21, 2, 8, []), (29, .invokevirtual 310, 3, 1, 1, 133, 0, 0, [(0, 7)])],
  [(32, .goto 4, 3, 36, 0, 0, 0, 0, []), (35, .iconst (-1), 1, 0, 0, 0, 0, (-1), []), (36, .ireturn, 1, 0, 0, 0, 0, 0, [])]]
def i_B_suspects : ai_I := ((⟨"SuiteBench", "suspects", "(I)I"⟩, prog_1_method_33_code, 2, (some .int), 0, 6, 132, 0, 1, 0, 11) : ai_I)
def o_B_suspects (a : Nat) : SP := match a with
  | 0 => f_X_all
  | 1 => f_X_machineAmong
  | _ => fun _ _ _ _ _ => False
theorem mo_B_suspects : ∀ a, ai_mono (o_B_suspects a)
  | 0 => mf_X_all
  | 1 => mf_X_machineAmong
  | _ + 2 => fun _ _ _ _ _ _ _ h => h
def f_B_suspects : SP := ai_M o_B_suspects 0 2 k_B_suspects
theorem mf_B_suspects : ai_mono f_B_suspects := M_mono mo_B_suspects
abbrev cal_B_suspects : List ai_I := [i_X_all, i_X_machineAmong]
theorem a_B_suspects : ai_all "SuiteBench" prog_1_method_33_code 2 kc_B cal_B_suspects 6 132 false (some .int) k_B_suspects = true := by decide +kernel
theorem w_B_suspects : ai_CW i_B_suspects := ⟨(tk_mem (l := [((Jvm.Cond.code ({ cls := "SuiteBench", name := "suspects", desc := "(I)I" } : Jvm.MethodName) prog_1_method_33_code (2 : Nat) (Option.some Jvm.ClassFile.FieldType.int)), 6, 50)]) (by decide +kernel) _ (List.mem_singleton.mpr rfl)), (tk_mem (l := [((Jvm.Cond.initialized "SuiteBench"), 1, 1)]) (by decide +kernel) _ (List.mem_singleton.mpr rfl)), ⟨by decide +kernel, by decide +kernel, by decide +kernel⟩, ⟨(tk_mem (l := [((Jvm.Cond.instanceMethod ({ cls := "SuiteBench", name := "suspects", desc := "(I)I" } : Jvm.MethodName)), 6, 48)]) (by decide +kernel) _ (List.mem_singleton.mpr rfl)), (tk_mem (l := [((Jvm.Cond.selects "SuiteBench" ({ cls := "SuiteBench", name := "suspects", desc := "(I)I" } : Jvm.MethodName) ({ cls := "SuiteBench", name := "suspects", desc := "(I)I" } : Jvm.MethodName)), 6, 49)]) (by decide +kernel) _ (List.mem_singleton.mpr rfl)), .inl ⟨_, _, rfl⟩⟩⟩
theorem c_B_suspects {E2 : (Nat → Nat) → State → Heap → Prop} (hE : ai_XH E2) : ai_S E2 i_B_suspects f_B_suspects := snd_M (by decide) rfl (by decide) a_B_suspects kc_B_ok (by rfl) (by decide) (fun a i h => match a, h with
    | 0, h => by cases h; exact ⟨c_X_all hE, w_X_all⟩
    | 1, h => by cases h; exact ⟨c_X_machineAmong hE, w_X_machineAmong⟩
    | _ + 2, h => by simp [cal_B_suspects, ai_nth] at h)
def k_N_isSuspected : ai_C := [
  [(0, .iconst 0, 1, 0, 0, 0, 0, 0, []), (1, .istore_n 2, 1, 2, 0, 0, 0, 0, []), (2, .iload_n 2, 1, 2, 0, 0, 0, 0, []), (3, .aload_n 0, 1, 0, 0, 0, 0, 0, []), (4, .getfield 275, 3, 12, 61, 32, 0, 61, []), (7, .if_icmp .ge 33, 3, 40, 0, 0, 0, 0, []), (10, .aload_n 0, 1, 0, 0, 0, 0, 0, []), (11, .iload_n 1, 1, 1, 0, 0, 0, 0, []), (12, .iconst 0, 1, 0, 0, 0, 0, 0, []), (13, .aload_n 0, 1, 0, 0, 0, 0, 0, []), (14, .getfield 127, 3, 12, 59, 61, 2, 59, [])],
  [(17, .iload_n 2, 1, 2, 0, 0, 0, 0, []), (18, .iaload, 1, 0, 0, 0, 0, 0, []), (19, .invokevirtual 319, 3, 0, 4, 18, 1, 0, [(0, 12)]), (22, .aload_n 0, 1, 0, 0, 0, 0, 0, []), (23, .getfield 130, 3, 12, 60, 62, 2, 60, []), (26, .iload_n 2, 1, 2, 0, 0, 0, 0, []), (27, .laload, 1, 0, 0, 0, 0, 0, []), (28, .lcmp, 1, 0, 0, 0, 0, 0, []), (29, .ifCond .eq 5, 3, 34, 0, 0, 0, 0, [])],
  [(32, .iconst 0, 1, 0, 0, 0, 0, 0, []), (33, .ireturn, 1, 0, 0, 0, 3, 0, []), (34, .iinc 2 1, 3, 2, 0, 0, 0, 1, []), (37, .goto (-35), 3, 2, 0, 0, 0, 0, []), (40, .iconst 1, 1, 0, 0, 0, 0, 1, []), (41, .ireturn, 1, 0, 0, 0, 3, 0, [])]]
def i_N_isSuspected : ai_I := ((⟨"SuiteBenchModel", "isSuspected", "(I)Z"⟩, prog_14_method_117_code, 3, (some .boolean), 3, 2, 51, 0, 1, 0, 12) : ai_I)
def o_N_isSuspected (a : Nat) : SP := match a with
  | 0 => f_N_answers
  | _ => fun _ _ _ _ _ => False
theorem mo_N_isSuspected : ∀ a, ai_mono (o_N_isSuspected a)
  | 0 => mf_N_answers
  | _ + 1 => fun _ _ _ _ _ _ _ h => h
def f_N_isSuspected : SP := ai_M o_N_isSuspected 0 3 k_N_isSuspected
theorem mf_N_isSuspected : ai_mono f_N_isSuspected := M_mono mo_N_isSuspected
abbrev cal_N_isSuspected : List ai_I := [i_N_answers]
theorem a_N_isSuspected : ai_all "SuiteBenchModel" prog_14_method_117_code 3 kc_N cal_N_isSuspected 2 51 false (some .boolean) k_N_isSuspected = true := by decide +kernel
theorem w_N_isSuspected : ai_CW i_N_isSuspected := ⟨(tk_mem (l := [((Jvm.Cond.code ({ cls := "SuiteBenchModel", name := "isSuspected", desc := "(I)Z" } : Jvm.MethodName) prog_14_method_117_code (3 : Nat) (Option.some Jvm.ClassFile.FieldType.boolean)), 10, 48)]) (by decide +kernel) _ (List.mem_singleton.mpr rfl)), (tk_mem (l := [((Jvm.Cond.initialized "SuiteBenchModel"), 1, 15)]) (by decide +kernel) _ (List.mem_singleton.mpr rfl)), ⟨by decide +kernel, by decide +kernel, by decide +kernel⟩, ⟨(tk_mem (l := [((Jvm.Cond.instanceMethod ({ cls := "SuiteBenchModel", name := "isSuspected", desc := "(I)Z" } : Jvm.MethodName)), 10, 47)]) (by decide +kernel) _ (List.mem_singleton.mpr rfl)), gw_sel 142 (by decide +kernel), .inl ⟨_, _, rfl⟩⟩⟩
theorem c_N_isSuspected {E2 : (Nat → Nat) → State → Heap → Prop} (hE : ai_XH E2) : ai_S E2 i_N_isSuspected f_N_isSuspected := snd_M (by decide) rfl (by decide) a_N_isSuspected kc_N_ok (by rfl) (by decide) (fun a i h => match a, h with
    | 0, h => by cases h; exact ⟨c_N_answers hE, w_N_answers⟩
    | _ + 1, h => by simp [cal_N_isSuspected, ai_nth] at h)
def k_N_laysSuspects : ai_C := [
  [(0, .aload_n 0, 1, 0, 0, 0, 0, 0, []), (1, .iconst 0, 1, 0, 0, 0, 0, 0, []), (2, .putfield 497, 3, 12, 63, 161, 0, 63, []), (5, .aload_n 0, 1, 0, 0, 0, 0, 0, []), (6, .invokevirtual 449, 3, 0, 1, 145, 0, 0, [(0, 12)]), (9, .istore_n 1, 1, 1, 0, 0, 0, 0, []), (10, .iconst 0, 1, 0, 0, 0, 0, 0, []), (11, .istore_n 2, 1, 2, 0, 0, 0, 0, []), (12, .iload_n 2, 1, 2, 0, 0, 0, 0, []), (13, .iload_n 1, 1, 1, 0, 0, 0, 0, []), (14, .if_icmp .gt 80, 3, 94, 0, 0, 0, 0, [])],
  [(17, .aload_n 0, 1, 0, 0, 0, 0, 0, []), (18, .invokevirtual 272, 3, 1, 1, 2, 0, 0, [(0, 12)]), (21, .ifCond .le 73, 3, 94, 0, 0, 0, 0, []), (24, .iload_n 2, 1, 2, 0, 0, 0, 0, []), (25, .iload_n 1, 1, 1, 0, 0, 0, 0, []), (26, .if_icmp .ge 10, 3, 36, 0, 0, 0, 0, []), (29, .aload_n 0, 1, 0, 0, 0, 0, 0, []), (30, .iload_n 2, 1, 2, 0, 0, 0, 0, []), (31, .bipush 48, 2, 0, 0, 0, 0, 48, [])],
  [(33, .invokevirtual 452, 3, 2, 3, 146, 9, 0, [(0, 12)]), (36, .aload_n 0, 1, 0, 0, 0, 0, 0, []), (37, .iload_n 2, 1, 2, 0, 0, 0, 0, []), (38, .iload_n 1, 1, 1, 0, 0, 0, 0, []), (39, .if_icmp .ge 8, 3, 47, 0, 0, 0, 0, []), (42, .bipush 48, 2, 0, 0, 0, 0, 48, []), (44, .goto 4, 3, 48, 0, 0, 0, 0, []), (47, .iconst 0, 1, 0, 0, 0, 0, 0, [])],
  [(48, .invokevirtual 500, 3, 3, 2, 162, 0, 0, [(0, 12)]), (51, .ifCond .ne 6, 3, 57, 0, 0, 0, 0, []), (54, .goto 34, 3, 88, 0, 0, 0, 0, []), (57, .aload_n 0, 1, 0, 0, 0, 0, 0, []), (58, .getfield 133, 3, 12, 62, 63, 2, 62, []), (61, .aload_n 0, 1, 0, 0, 0, 0, 0, []), (62, .getfield 497, 3, 12, 63, 161, 0, 63, [])],
  [(65, .iload_n 2, 1, 2, 0, 0, 0, 0, []), (66, .iload_n 1, 1, 1, 0, 0, 0, 0, []), (67, .if_icmp .ge 7, 3, 74, 0, 0, 0, 0, []), (70, .iload_n 2, 1, 2, 0, 0, 0, 0, []), (71, .goto 6, 3, 77, 0, 0, 0, 0, []), (74, .sipush 1000, 3, 0, 0, 0, 0, 1000, []), (77, .iastore, 1, 0, 0, 0, 0, 0, []), (78, .aload_n 0, 1, 0, 0, 0, 0, 0, []), (79, .dup, 1, 0, 0, 0, 0, 0, [])],
  [(80, .getfield 497, 3, 12, 63, 161, 0, 63, []), (83, .iconst 1, 1, 0, 0, 0, 0, 1, []), (84, .iadd, 1, 0, 0, 0, 0, 0, []), (85, .putfield 497, 3, 12, 63, 161, 0, 63, []), (88, .iinc 2 1, 3, 2, 0, 0, 0, 1, []), (91, .goto (-79), 3, 12, 0, 0, 0, 0, []), (94, .return_, 1, 0, 0, 0, 0, 0, [])]]
def i_N_laysSuspects : ai_I := ((⟨"SuiteBenchModel", "laysSuspects", "()V"⟩, prog_14_method_118_code, 3, none, 9, 4, 92, 0, 0, 0, 12) : ai_I)
def o_N_laysSuspects (a : Nat) : SP := match a with
  | 0 => f_N_mutantMany
  | 1 => f_N_states
  | 2 => f_N_laysMutant
  | 3 => f_N_isSuspected
  | _ => fun _ _ _ _ _ => False
theorem mo_N_laysSuspects : ∀ a, ai_mono (o_N_laysSuspects a)
  | 0 => mf_N_mutantMany
  | 1 => mf_N_states
  | 2 => mf_N_laysMutant
  | 3 => mf_N_isSuspected
  | _ + 4 => fun _ _ _ _ _ _ _ h => h
def f_N_laysSuspects : SP := ai_M o_N_laysSuspects 0 3 k_N_laysSuspects
theorem mf_N_laysSuspects : ai_mono f_N_laysSuspects := M_mono mo_N_laysSuspects
abbrev cal_N_laysSuspects : List ai_I := [i_N_mutantMany, i_N_states, i_N_laysMutant, i_N_isSuspected]
theorem a_N_laysSuspects : ai_all "SuiteBenchModel" prog_14_method_118_code 3 kc_N cal_N_laysSuspects 4 92 false none k_N_laysSuspects = true := by decide +kernel
theorem w_N_laysSuspects : ai_CW i_N_laysSuspects := ⟨(tk_mem (l := [((Jvm.Cond.code ({ cls := "SuiteBenchModel", name := "laysSuspects", desc := "()V" } : Jvm.MethodName) prog_14_method_118_code (3 : Nat) (Option.none : Option Jvm.ClassFile.FieldType)), 10, 44)]) (by decide +kernel) _ (List.mem_singleton.mpr rfl)), (tk_mem (l := [((Jvm.Cond.initialized "SuiteBenchModel"), 1, 15)]) (by decide +kernel) _ (List.mem_singleton.mpr rfl)), ⟨by decide +kernel, by decide +kernel, by decide +kernel⟩, ⟨(tk_mem (l := [((Jvm.Cond.instanceMethod ({ cls := "SuiteBenchModel", name := "laysSuspects", desc := "()V" } : Jvm.MethodName)), 10, 43)]) (by decide +kernel) _ (List.mem_singleton.mpr rfl)), gw_sel 141 (by decide +kernel), .inl ⟨_, _, rfl⟩⟩⟩
theorem c_N_laysSuspects {E2 : (Nat → Nat) → State → Heap → Prop} (hE : ai_XH E2) : ai_S E2 i_N_laysSuspects f_N_laysSuspects := snd_M (by decide) rfl (by decide) a_N_laysSuspects kc_N_ok (by rfl) (by decide) (fun a i h => match a, h with
    | 0, h => by cases h; exact ⟨c_N_mutantMany hE, w_N_mutantMany⟩
    | 1, h => by cases h; exact ⟨c_N_states hE, w_N_states⟩
    | 2, h => by cases h; exact ⟨c_N_laysMutant hE, w_N_laysMutant⟩
    | 3, h => by cases h; exact ⟨c_N_isSuspected hE, w_N_isSuspected⟩
    | _ + 4, h => by simp [cal_N_laysSuspects, ai_nth] at h)
def k_N_suspects : ai_C := [
  [(0, .aload_n 0, 1, 0, 0, 0, 0, 0, []), (1, .iconst 0, 1, 0, 0, 0, 0, 0, []), (2, .putfield 145, 3, 12, 0, 67, 0, 0, []), (5, .iload_n 1, 1, 1, 0, 0, 0, 0, []), (6, .ifCond .lt 8, 3, 14, 0, 0, 0, 0, []), (9, .iload_n 1, 1, 1, 0, 0, 0, 0, []), (10, .iconst 1, 1, 0, 0, 0, 0, 1, []), (11, .if_icmp .le 5, 3, 16, 0, 0, 0, 0, []), (14, .iconst (-1), 1, 0, 0, 0, 0, (-1), []), (15, .ireturn, 1, 0, 0, 0, 0, 0, [])],
  [(16, .aload_n 0, 1, 0, 0, 0, 0, 0, []), (17, .invokevirtual 503, 3, 0, 1, 163, 9, 0, [(0, 12)]), (20, .aload_n 0, 1, 0, 0, 0, 0, 0, []), (21, .getfield 497, 3, 12, 63, 161, 0, 63, []), (24, .ifCond .le 24, 3, 48, 0, 0, 0, 0, []), (27, .aload_n 0, 1, 0, 0, 0, 0, 0, []), (28, .getfield 133, 3, 12, 62, 63, 2, 62, []), (31, .aload_n 0, 1, 0, 0, 0, 0, 0, [])],
  [(32, .getfield 497, 3, 12, 63, 161, 0, 63, []), (35, .iconst 1, 1, 0, 0, 0, 0, 1, []), (36, .isub, 1, 0, 0, 0, 0, 0, []), (37, .iaload, 1, 0, 0, 0, 0, 0, []), (38, .sipush 1000, 3, 0, 0, 0, 0, 1000, []), (41, .if_icmp .ne 7, 3, 48, 0, 0, 0, 0, []), (44, .iconst 1, 1, 0, 0, 0, 0, 1, []), (45, .goto 4, 3, 49, 0, 0, 0, 0, [])],
  [(48, .iconst 0, 1, 0, 0, 0, 0, 0, []), (49, .istore_n 2, 1, 2, 0, 0, 0, 0, []), (50, .iload_n 1, 1, 1, 0, 0, 0, 0, []), (51, .ifCond .ne 12, 3, 63, 0, 0, 0, 0, []), (54, .aload_n 0, 1, 0, 0, 0, 0, 0, []), (55, .getfield 497, 3, 12, 63, 161, 0, 63, []), (58, .iload_n 2, 1, 2, 0, 0, 0, 0, []), (59, .isub, 1, 0, 0, 0, 0, 0, []), (60, .goto 4, 3, 64, 0, 0, 0, 0, []), (63, .iload_n 2, 1, 2, 0, 0, 0, 0, [])],
  [(64, .ireturn, 1, 0, 0, 0, 0, 0, [])]]
def i_N_suspects : ai_I := ((⟨"SuiteBenchModel", "suspects", "(I)I"⟩, prog_14_method_119_code, 3, (some .int), 0, 5, 114, 0, 1, 0, 12) : ai_I)
def o_N_suspects (a : Nat) : SP := match a with
  | 0 => f_N_laysSuspects
  | _ => fun _ _ _ _ _ => False
theorem mo_N_suspects : ∀ a, ai_mono (o_N_suspects a)
  | 0 => mf_N_laysSuspects
  | _ + 1 => fun _ _ _ _ _ _ _ h => h
def f_N_suspects : SP := ai_M o_N_suspects 0 3 k_N_suspects
theorem mf_N_suspects : ai_mono f_N_suspects := M_mono mo_N_suspects
abbrev cal_N_suspects : List ai_I := [i_N_laysSuspects]
theorem a_N_suspects : ai_all "SuiteBenchModel" prog_14_method_119_code 3 kc_N cal_N_suspects 5 114 false (some .int) k_N_suspects = true := by decide +kernel
theorem w_N_suspects : ai_CW i_N_suspects := ⟨(tk_mem (l := [((Jvm.Cond.code ({ cls := "SuiteBenchModel", name := "suspects", desc := "(I)I" } : Jvm.MethodName) prog_14_method_119_code (3 : Nat) (Option.some Jvm.ClassFile.FieldType.int)), 10, 40)]) (by decide +kernel) _ (List.mem_singleton.mpr rfl)), (tk_mem (l := [((Jvm.Cond.initialized "SuiteBenchModel"), 1, 15)]) (by decide +kernel) _ (List.mem_singleton.mpr rfl)), ⟨by decide +kernel, by decide +kernel, by decide +kernel⟩, ⟨(tk_mem (l := [((Jvm.Cond.instanceMethod ({ cls := "SuiteBenchModel", name := "suspects", desc := "(I)I" } : Jvm.MethodName)), 10, 38)]) (by decide +kernel) _ (List.mem_singleton.mpr rfl)), (tk_mem (l := [((Jvm.Cond.selects "SuiteBenchModel" ({ cls := "SuiteBenchModel", name := "suspects", desc := "(I)I" } : Jvm.MethodName) ({ cls := "SuiteBenchModel", name := "suspects", desc := "(I)I" } : Jvm.MethodName)), 10, 39)]) (by decide +kernel) _ (List.mem_singleton.mpr rfl)), .inl ⟨_, _, rfl⟩⟩⟩
theorem c_N_suspects {E2 : (Nat → Nat) → State → Heap → Prop} (hE : ai_XH E2) : ai_S E2 i_N_suspects f_N_suspects := snd_M (by decide) rfl (by decide) a_N_suspects kc_N_ok (by rfl) (by decide) (fun a i h => match a, h with
    | 0, h => by cases h; exact ⟨c_N_laysSuspects hE, w_N_laysSuspects⟩
    | _ + 1, h => by simp [cal_N_suspects, ai_nth] at h)
def k_X_number : ai_C := [
  [(0, .aload_n 0, 1, 0, 0, 0, 0, 0, []), (1, .invokevirtual 92, 3, 0, 1, 28, 9, 0, [(0, 7)]), (4, .iload_n 1, 1, 1, 0, 0, 0, 0, []), (5, .aload_n 0, 1, 0, 0, 0, 0, 0, []), (6, .getfield 61, 3, 7, 14, 20, 0, 14, []), (9, .if_icmp .ge 12, 3, 21, 0, 0, 0, 0, []), (12, .aload_n 0, 1, 0, 0, 0, 0, 0, []), (13, .getfield 18, 3, 7, 4, 7, 2, 4, [])],
  [(16, .iload_n 1, 1, 1, 0, 0, 0, 0, []), (17, .iaload, 1, 0, 0, 0, 0, 0, []), (18, .goto 5, 3, 23, 0, 0, 0, 0, []), (21, .bipush (-2), 2, 0, 0, 0, 0, (-2), []), (23, .ireturn, 1, 0, 0, 0, 0, 0, [])]]
def i_X_number : ai_I := ((⟨"SuiteBench$Suspects", "number", "(I)I"⟩, prog_9_method_7_code, 2, (some .int), 0, 5, 112, 0, 1, 0, 7) : ai_I)
def o_X_number (a : Nat) : SP := match a with
  | 0 => f_X_learn
  | _ => fun _ _ _ _ _ => False
theorem mo_X_number : ∀ a, ai_mono (o_X_number a)
  | 0 => mf_X_learn
  | _ + 1 => fun _ _ _ _ _ _ _ h => h
def f_X_number : SP := ai_M o_X_number 0 2 k_X_number
theorem mf_X_number : ai_mono f_X_number := M_mono mo_X_number
abbrev cal_X_number : List ai_I := [i_X_learn]
theorem a_X_number : ai_all "SuiteBench$Suspects" prog_9_method_7_code 2 kc_X cal_X_number 5 112 false (some .int) k_X_number = true := by decide +kernel
theorem w_X_number : ai_CW i_X_number := ⟨(tk_mem (l := [((Jvm.Cond.code ({ cls := "SuiteBench$Suspects", name := "number", desc := "(I)I" } : Jvm.MethodName) prog_9_method_7_code (2 : Nat) (Option.some Jvm.ClassFile.FieldType.int)), 6, 82)]) (by decide +kernel) _ (List.mem_singleton.mpr rfl)), (tk_mem (l := [((Jvm.Cond.initialized "SuiteBench$Suspects"), 1, 13)]) (by decide +kernel) _ (List.mem_singleton.mpr rfl)), ⟨by decide +kernel, by decide +kernel, by decide +kernel⟩, ⟨(tk_mem (l := [((Jvm.Cond.instanceMethod ({ cls := "SuiteBench$Suspects", name := "number", desc := "(I)I" } : Jvm.MethodName)), 6, 80)]) (by decide +kernel) _ (List.mem_singleton.mpr rfl)), (tk_mem (l := [((Jvm.Cond.selects "SuiteBench$Suspects" ({ cls := "SuiteBench$Suspects", name := "number", desc := "(I)I" } : Jvm.MethodName) ({ cls := "SuiteBench$Suspects", name := "number", desc := "(I)I" } : Jvm.MethodName)), 6, 81)]) (by decide +kernel) _ (List.mem_singleton.mpr rfl)), .inl ⟨_, _, rfl⟩⟩⟩
theorem c_X_number {E2 : (Nat → Nat) → State → Heap → Prop} (hE : ai_XH E2) : ai_S E2 i_X_number f_X_number := snd_M (by decide) rfl (by decide) a_X_number kc_X_ok (by rfl) (by decide) (fun a i h => match a, h with
    | 0, h => by cases h; exact ⟨c_X_learn hE, w_X_learn⟩
    | _ + 1, h => by simp [cal_X_number, ai_nth] at h)
def k_B_suspect : ai_C := [
  [(0, .iload_n 1, 1, 1, 0, 0, 0, 0, []), (1, .ifCond .ge 7, 3, 8, 0, 0, 0, 0, []), (4, .iconst (-1), 1, 0, 0, 0, 0, (-1), []), (5, .goto 11, 3, 16, 0, 0, 0, 0, []), (8, .aload_n 0, 1, 0, 0, 0, 0, 0, []), (9, .getfield 79, 3, 11, 8, 21, 2, 8, []), (12, .iload_n 1, 1, 1, 0, 0, 0, 0, []), (13, .invokevirtual 313, 3, 0, 2, 134, 0, 0, [(0, 7)])],
  [(16, .ireturn, 1, 0, 0, 0, 0, 0, [])]]
def i_B_suspect : ai_I := ((⟨"SuiteBench", "suspect", "(I)I"⟩, prog_1_method_34_code, 2, (some .int), 0, 6, 133, 0, 1, 0, 11) : ai_I)
def o_B_suspect (a : Nat) : SP := match a with
  | 0 => f_X_number
  | _ => fun _ _ _ _ _ => False
theorem mo_B_suspect : ∀ a, ai_mono (o_B_suspect a)
  | 0 => mf_X_number
  | _ + 1 => fun _ _ _ _ _ _ _ h => h
def f_B_suspect : SP := ai_M o_B_suspect 0 2 k_B_suspect
theorem mf_B_suspect : ai_mono f_B_suspect := M_mono mo_B_suspect
abbrev cal_B_suspect : List ai_I := [i_X_number]
theorem a_B_suspect : ai_all "SuiteBench" prog_1_method_34_code 2 kc_B cal_B_suspect 6 133 false (some .int) k_B_suspect = true := by decide +kernel
theorem w_B_suspect : ai_CW i_B_suspect := ⟨(tk_mem (l := [((Jvm.Cond.code ({ cls := "SuiteBench", name := "suspect", desc := "(I)I" } : Jvm.MethodName) prog_1_method_34_code (2 : Nat) (Option.some Jvm.ClassFile.FieldType.int)), 6, 78)]) (by decide +kernel) _ (List.mem_singleton.mpr rfl)), (tk_mem (l := [((Jvm.Cond.initialized "SuiteBench"), 1, 1)]) (by decide +kernel) _ (List.mem_singleton.mpr rfl)), ⟨by decide +kernel, by decide +kernel, by decide +kernel⟩, ⟨(tk_mem (l := [((Jvm.Cond.instanceMethod ({ cls := "SuiteBench", name := "suspect", desc := "(I)I" } : Jvm.MethodName)), 6, 76)]) (by decide +kernel) _ (List.mem_singleton.mpr rfl)), (tk_mem (l := [((Jvm.Cond.selects "SuiteBench" ({ cls := "SuiteBench", name := "suspect", desc := "(I)I" } : Jvm.MethodName) ({ cls := "SuiteBench", name := "suspect", desc := "(I)I" } : Jvm.MethodName)), 6, 77)]) (by decide +kernel) _ (List.mem_singleton.mpr rfl)), .inl ⟨_, _, rfl⟩⟩⟩
theorem c_B_suspect {E2 : (Nat → Nat) → State → Heap → Prop} (hE : ai_XH E2) : ai_S E2 i_B_suspect f_B_suspect := snd_M (by decide) rfl (by decide) a_B_suspect kc_B_ok (by rfl) (by decide) (fun a i h => match a, h with
    | 0, h => by cases h; exact ⟨c_X_number hE, w_X_number⟩
    | _ + 1, h => by simp [cal_B_suspect, ai_nth] at h)
def k_N_suspect : ai_C := [
  [(0, .aload_n 0, 1, 0, 0, 0, 0, 0, []), (1, .iconst 0, 1, 0, 0, 0, 0, 0, []), (2, .putfield 145, 3, 12, 0, 67, 0, 0, []), (5, .iload_n 1, 1, 1, 0, 0, 0, 0, []), (6, .ifCond .ge 5, 3, 11, 0, 0, 0, 0, []), (9, .iconst (-1), 1, 0, 0, 0, 0, (-1), []), (10, .ireturn, 1, 0, 0, 0, 0, 0, []), (11, .aload_n 0, 1, 0, 0, 0, 0, 0, []), (12, .invokevirtual 503, 3, 0, 1, 163, 9, 0, [(0, 12)]), (15, .iload_n 1, 1, 1, 0, 0, 0, 0, [])],
  [(16, .aload_n 0, 1, 0, 0, 0, 0, 0, []), (17, .getfield 497, 3, 12, 63, 161, 0, 63, []), (20, .if_icmp .ge 12, 3, 32, 0, 0, 0, 0, []), (23, .aload_n 0, 1, 0, 0, 0, 0, 0, []), (24, .getfield 133, 3, 12, 62, 63, 2, 62, []), (27, .iload_n 1, 1, 1, 0, 0, 0, 0, []), (28, .iaload, 1, 0, 0, 0, 0, 0, []), (29, .goto 5, 3, 34, 0, 0, 0, 0, [])],
  [(32, .bipush (-2), 2, 0, 0, 0, 0, (-2), []), (34, .ireturn, 1, 0, 0, 0, 0, 0, [])]]
def i_N_suspect : ai_I := ((⟨"SuiteBenchModel", "suspect", "(I)I"⟩, prog_14_method_120_code, 2, (some .int), 0, 5, 114, 0, 1, 0, 12) : ai_I)
def o_N_suspect (a : Nat) : SP := match a with
  | 0 => f_N_laysSuspects
  | _ => fun _ _ _ _ _ => False
theorem mo_N_suspect : ∀ a, ai_mono (o_N_suspect a)
  | 0 => mf_N_laysSuspects
  | _ + 1 => fun _ _ _ _ _ _ _ h => h
def f_N_suspect : SP := ai_M o_N_suspect 0 2 k_N_suspect
theorem mf_N_suspect : ai_mono f_N_suspect := M_mono mo_N_suspect
abbrev cal_N_suspect : List ai_I := [i_N_laysSuspects]
theorem a_N_suspect : ai_all "SuiteBenchModel" prog_14_method_120_code 2 kc_N cal_N_suspect 5 114 false (some .int) k_N_suspect = true := by decide +kernel
theorem w_N_suspect : ai_CW i_N_suspect := ⟨(tk_mem (l := [((Jvm.Cond.code ({ cls := "SuiteBenchModel", name := "suspect", desc := "(I)I" } : Jvm.MethodName) prog_14_method_120_code (2 : Nat) (Option.some Jvm.ClassFile.FieldType.int)), 10, 52)]) (by decide +kernel) _ (List.mem_singleton.mpr rfl)), (tk_mem (l := [((Jvm.Cond.initialized "SuiteBenchModel"), 1, 15)]) (by decide +kernel) _ (List.mem_singleton.mpr rfl)), ⟨by decide +kernel, by decide +kernel, by decide +kernel⟩, ⟨(tk_mem (l := [((Jvm.Cond.instanceMethod ({ cls := "SuiteBenchModel", name := "suspect", desc := "(I)I" } : Jvm.MethodName)), 10, 50)]) (by decide +kernel) _ (List.mem_singleton.mpr rfl)), (tk_mem (l := [((Jvm.Cond.selects "SuiteBenchModel" ({ cls := "SuiteBenchModel", name := "suspect", desc := "(I)I" } : Jvm.MethodName) ({ cls := "SuiteBenchModel", name := "suspect", desc := "(I)I" } : Jvm.MethodName)), 10, 51)]) (by decide +kernel) _ (List.mem_singleton.mpr rfl)), .inl ⟨_, _, rfl⟩⟩⟩
theorem c_N_suspect {E2 : (Nat → Nat) → State → Heap → Prop} (hE : ai_XH E2) : ai_S E2 i_N_suspect f_N_suspect := snd_M (by decide) rfl (by decide) a_N_suspect kc_N_ok (by rfl) (by decide) (fun a i h => match a, h with
    | 0, h => by cases h; exact ⟨c_N_laysSuspects hE, w_N_laysSuspects⟩
    | _ + 1, h => by simp [cal_N_suspect, ai_nth] at h)
def k_U_code : ai_C := [
  [(0, .aload_n 0, 1, 0, 0, 0, 0, 0, []), (1, .getfield 21, 3, 2, 5, 8, 2, 5, []), (4, .iload_n 1, 1, 1, 0, 0, 0, 0, []), (5, .iaload, 1, 0, 0, 0, 0, 0, []), (6, .ireturn, 1, 0, 0, 0, 0, 0, [])]]
def i_U_code : ai_I := ((⟨"SuiteBench$Mutants", "code", "(I)I"⟩, prog_4_method_6_code, 2, (some .int), 0, 0, 0, 0, 1, 0, 2) : ai_I)
def o_U_code (_ : Nat) : SP := fun _ _ _ _ _ => False
theorem mo_U_code : ∀ a, ai_mono (o_U_code a) := fun _ _ _ _ _ _ _ _ h => h
def f_U_code : SP := ai_M o_U_code 0 2 k_U_code
theorem mf_U_code : ai_mono f_U_code := M_mono mo_U_code
abbrev cal_U_code : List ai_I := []
theorem a_U_code : ai_all "SuiteBench$Mutants" prog_4_method_6_code 2 kc_U cal_U_code 0 0 false (some .int) k_U_code = true := by decide +kernel
theorem w_U_code : ai_CW i_U_code := ⟨(tk_mem (l := [((Jvm.Cond.code ({ cls := "SuiteBench$Mutants", name := "code", desc := "(I)I" } : Jvm.MethodName) prog_4_method_6_code (2 : Nat) (Option.some Jvm.ClassFile.FieldType.int)), 6, 105)]) (by decide +kernel) _ (List.mem_singleton.mpr rfl)), (tk_mem (l := [((Jvm.Cond.initialized "SuiteBench$Mutants"), 1, 11)]) (by decide +kernel) _ (List.mem_singleton.mpr rfl)), ⟨by decide +kernel, by decide +kernel, by decide +kernel⟩, ⟨(tk_mem (l := [((Jvm.Cond.instanceMethod ({ cls := "SuiteBench$Mutants", name := "code", desc := "(I)I" } : Jvm.MethodName)), 6, 103)]) (by decide +kernel) _ (List.mem_singleton.mpr rfl)), (tk_mem (l := [((Jvm.Cond.selects "SuiteBench$Mutants" ({ cls := "SuiteBench$Mutants", name := "code", desc := "(I)I" } : Jvm.MethodName) ({ cls := "SuiteBench$Mutants", name := "code", desc := "(I)I" } : Jvm.MethodName)), 6, 104)]) (by decide +kernel) _ (List.mem_singleton.mpr rfl)), .inl ⟨_, _, rfl⟩⟩⟩
theorem c_U_code {E2 : (Nat → Nat) → State → Heap → Prop} (hE : ai_XH E2) : ai_S E2 i_U_code f_U_code := snd_M (by decide) rfl (by decide) a_U_code kc_U_ok (by rfl) (by decide) (fun a i h => by simp [cal_U_code, ai_nth] at h)
def k_X_gatherCrowd : ai_C := [
  [(0, .aload_n 0, 1, 0, 0, 0, 0, 0, []), (1, .aload_n 0, 1, 0, 0, 0, 0, 0, []), (2, .getfield 61, 3, 7, 14, 20, 0, 14, []), (5, .bipush 40, 2, 0, 0, 0, 0, 40, []), (7, .invokestatic 116, 3, 0, 0, 29, 23, 0, []), (10, .putfield 121, 3, 7, 13, 30, 0, 13, []), (13, .aload_n 0, 1, 0, 0, 0, 0, 0, []), (14, .getfield 25, 3, 7, 6, 9, 2, 6, [])],
  [(17, .iconst (-1), 1, 0, 0, 0, 0, (-1), []), (18, .invokestatic 124, 3, 0, 2, 31, 9, 0, [(0, 99)]), (21, .iconst 0, 1, 0, 0, 0, 0, 0, []), (22, .istore_n 1, 1, 1, 0, 0, 0, 0, []), (23, .iload_n 1, 1, 1, 0, 0, 0, 0, []), (24, .aload_n 0, 1, 0, 0, 0, 0, 0, []), (25, .getfield 121, 3, 7, 13, 30, 0, 13, []), (28, .if_icmp .ge 59, 3, 87, 0, 0, 0, 0, []), (31, .aload_n 0, 1, 0, 0, 0, 0, 0, [])],
  [(32, .getfield 22, 3, 7, 5, 8, 2, 5, []), (35, .iload_n 1, 1, 1, 0, 0, 0, 0, []), (36, .aload_n 0, 1, 0, 0, 0, 0, 0, []), (37, .getfield 18, 3, 7, 4, 7, 2, 4, []), (40, .iload_n 1, 1, 1, 0, 0, 0, 0, []), (41, .iaload, 1, 0, 0, 0, 0, 0, []), (42, .sipush 1000, 3, 0, 0, 0, 0, 1000, []), (45, .if_icmp .ne 8, 3, 53, 0, 0, 0, 0, [])],
  [(48, .ldc 130, 2, 0, 0, 32, 0, 65280, []), (50, .goto 16, 3, 66, 0, 0, 0, 0, []), (53, .aload_n 0, 1, 0, 0, 0, 0, 0, []), (54, .getfield 46, 3, 7, 1, 16, 2, 1, []), (57, .aload_n 0, 1, 0, 0, 0, 0, 0, []), (58, .getfield 18, 3, 7, 4, 7, 2, 4, []), (61, .iload_n 1, 1, 1, 0, 0, 0, 0, []), (62, .iaload, 1, 0, 0, 0, 0, 0, []), (63, .invokevirtual 131, 3, 1, 2, 33, 0, 0, [(0, 2)])],
  [(66, .iastore, 1, 0, 0, 0, 0, 0, []), (67, .aload_n 0, 1, 0, 0, 0, 0, 0, []), (68, .getfield 28, 3, 7, 7, 10, 2, 7, []), (71, .iload_n 1, 1, 1, 0, 0, 0, 0, []), (72, .iconst 0, 1, 0, 0, 0, 0, 0, []), (73, .iastore, 1, 0, 0, 0, 0, 0, []), (74, .aload_n 0, 1, 0, 0, 0, 0, 0, []), (75, .getfield 31, 3, 7, 8, 11, 2, 8, []), (78, .iload_n 1, 1, 1, 0, 0, 0, 0, []), (79, .iconst 0, 1, 0, 0, 0, 0, 0, [])],
  [(80, .iastore, 1, 0, 0, 0, 0, 0, []), (81, .iinc 1 1, 3, 1, 0, 0, 0, 1, []), (84, .goto (-61), 3, 23, 0, 0, 0, 0, []), (87, .return_, 1, 0, 0, 0, 0, 0, [])]]
def i_X_gatherCrowd : ai_I := ((⟨"SuiteBench$Suspects", "gatherCrowd", "()V"⟩, prog_9_method_10_code, 2, none, 9, 1, 23, 0, 0, 0, 7) : ai_I)
def o_X_gatherCrowd (a : Nat) : SP := match a with
  | 0 => f_J_fill
  | 1 => f_U_code
  | _ => fun _ _ _ _ _ => False
theorem mo_X_gatherCrowd : ∀ a, ai_mono (o_X_gatherCrowd a)
  | 0 => mf_J_fill
  | 1 => mf_U_code
  | _ + 2 => fun _ _ _ _ _ _ _ h => h
def f_X_gatherCrowd : SP := ai_M o_X_gatherCrowd 0 2 k_X_gatherCrowd
theorem mf_X_gatherCrowd : ai_mono f_X_gatherCrowd := M_mono mo_X_gatherCrowd
abbrev cal_X_gatherCrowd : List ai_I := [i_J_fill, i_U_code]
theorem a_X_gatherCrowd : ai_all "SuiteBench$Suspects" prog_9_method_10_code 2 kc_X cal_X_gatherCrowd 1 23 false none k_X_gatherCrowd = true := by decide +kernel
theorem w_X_gatherCrowd : ai_CW i_X_gatherCrowd := ⟨(tk_mem (l := [((Jvm.Cond.code ({ cls := "SuiteBench$Suspects", name := "gatherCrowd", desc := "()V" } : Jvm.MethodName) prog_9_method_10_code (2 : Nat) (Option.none : Option Jvm.ClassFile.FieldType)), 6, 98)]) (by decide +kernel) _ (List.mem_singleton.mpr rfl)), (tk_mem (l := [((Jvm.Cond.initialized "SuiteBench$Suspects"), 1, 13)]) (by decide +kernel) _ (List.mem_singleton.mpr rfl)), ⟨by decide +kernel, by decide +kernel, by decide +kernel⟩, ⟨(tk_mem (l := [((Jvm.Cond.instanceMethod ({ cls := "SuiteBench$Suspects", name := "gatherCrowd", desc := "()V" } : Jvm.MethodName)), 6, 97)]) (by decide +kernel) _ (List.mem_singleton.mpr rfl)), gw_sel 60 (by decide +kernel), .inl ⟨_, _, rfl⟩⟩⟩
theorem c_X_gatherCrowd {E2 : (Nat → Nat) → State → Heap → Prop} (hE : ai_XH E2) : ai_S E2 i_X_gatherCrowd f_X_gatherCrowd := snd_M (by decide) rfl (by decide) a_X_gatherCrowd kc_X_ok (by rfl) (by decide) (fun a i h => match a, h with
    | 0, h => by cases h; exact ⟨c_J_fill hE, w_J_fill⟩
    | 1, h => by cases h; exact ⟨c_U_code hE, w_U_code⟩
    | _ + 2, h => by simp [cal_X_gatherCrowd, ai_nth] at h)
def k_X_split : ai_C := [
  [(0, .iload_n 1, 1, 1, 0, 0, 0, 0, []), (1, .bipush 40, 2, 0, 0, 0, 0, 40, []), (3, .imul, 1, 0, 0, 0, 0, 0, []), (4, .istore_n 3, 1, 3, 0, 0, 0, 0, []), (5, .iload_n 3, 1, 3, 0, 0, 0, 0, []), (6, .bipush 40, 2, 0, 0, 0, 0, 40, []), (8, .iadd, 1, 0, 0, 0, 0, 0, []), (9, .istore 4, 2, 4, 0, 0, 0, 0, []), (11, .iconst 0, 1, 0, 0, 0, 0, 0, []), (12, .istore 5, 2, 5, 0, 0, 0, 0, []), (14, .aload_n 0, 1, 0, 0, 0, 0, 0, []), (15, .dup, 1, 0, 0, 0, 0, 0, [])],
  [(16, .getfield 145, 3, 7, 12, 34, 0, 12, []), (19, .iconst 1, 1, 0, 0, 0, 0, 1, []), (20, .iadd, 1, 0, 0, 0, 0, 0, []), (21, .putfield 145, 3, 7, 12, 34, 0, 12, []), (24, .iconst 0, 1, 0, 0, 0, 0, 0, []), (25, .istore 6, 2, 6, 0, 0, 0, 0, []), (27, .iload 6, 2, 6, 0, 0, 0, 0, []), (29, .aload_n 0, 1, 0, 0, 0, 0, 0, []), (30, .getfield 121, 3, 7, 13, 30, 0, 13, [])],
  [(33, .if_icmp .ge 187, 3, 220, 0, 0, 0, 0, []), (36, .aload_n 0, 1, 0, 0, 0, 0, 0, []), (37, .getfield 28, 3, 7, 7, 10, 2, 7, []), (40, .iload_n 3, 1, 3, 0, 0, 0, 0, []), (41, .iload 6, 2, 6, 0, 0, 0, 0, []), (43, .iadd, 1, 0, 0, 0, 0, 0, []), (44, .iaload, 1, 0, 0, 0, 0, 0, []), (45, .iconst 3, 1, 0, 0, 0, 0, 3, []), (46, .imul, 1, 0, 0, 0, 0, 0, []), (47, .iload_n 2, 1, 2, 0, 0, 0, 0, [])],
  [(48, .iadd, 1, 0, 0, 0, 0, 0, []), (49, .istore 7, 2, 7, 0, 0, 0, 0, []), (51, .iload 7, 2, 7, 0, 0, 0, 0, []), (53, .aload_n 0, 1, 0, 0, 0, 0, 0, []), (54, .getfield 22, 3, 7, 5, 8, 2, 5, []), (57, .iload 6, 2, 6, 0, 0, 0, 0, []), (59, .iaload, 1, 0, 0, 0, 0, 0, []), (60, .bipush 8, 2, 0, 0, 0, 0, 8, []), (62, .ishr, 1, 0, 0, 0, 0, 0, []), (63, .if_icmp .ne 7, 3, 70, 0, 0, 0, 0, [])],
  [(66, .iconst 1, 1, 0, 0, 0, 0, 1, []), (67, .goto 4, 3, 71, 0, 0, 0, 0, []), (70, .iconst 0, 1, 0, 0, 0, 0, 0, []), (71, .istore 8, 2, 8, 0, 0, 0, 0, []), (73, .iload 8, 2, 8, 0, 0, 0, 0, []), (75, .ifCond .eq 16, 3, 91, 0, 0, 0, 0, []), (78, .aload_n 0, 1, 0, 0, 0, 0, 0, []), (79, .getfield 22, 3, 7, 5, 8, 2, 5, [])],
  [(82, .iload 6, 2, 6, 0, 0, 0, 0, []), (84, .iaload, 1, 0, 0, 0, 0, 0, []), (85, .bipush 15, 2, 0, 0, 0, 0, 15, []), (87, .iand, 1, 0, 0, 0, 0, 0, []), (88, .goto 13, 3, 101, 0, 0, 0, 0, []), (91, .aload_n 0, 1, 0, 0, 0, 0, 0, []), (92, .getfield 43, 3, 7, 0, 15, 2, 0, []), (95, .getfield 148, 3, 1, 1, 35, 2, 1, [])],
  [(98, .iload 7, 2, 7, 0, 0, 0, 0, []), (100, .iaload, 1, 0, 0, 0, 0, 0, []), (101, .istore 9, 2, 9, 0, 0, 0, 0, []), (103, .aload_n 0, 1, 0, 0, 0, 0, 0, []), (104, .getfield 31, 3, 7, 8, 11, 2, 8, []), (107, .iload_n 3, 1, 3, 0, 0, 0, 0, []), (108, .iload 6, 2, 6, 0, 0, 0, 0, []), (110, .iadd, 1, 0, 0, 0, 0, 0, []), (111, .iaload, 1, 0, 0, 0, 0, 0, [])],
  [(112, .bipush 10, 2, 0, 0, 0, 0, 10, []), (114, .imul, 1, 0, 0, 0, 0, 0, []), (115, .iload 9, 2, 9, 0, 0, 0, 0, []), (117, .iadd, 1, 0, 0, 0, 0, 0, []), (118, .istore 10, 2, 10, 0, 0, 0, 0, []), (120, .aload_n 0, 1, 0, 0, 0, 0, 0, []), (121, .getfield 37, 3, 7, 10, 13, 2, 10, []), (124, .iload 10, 2, 10, 0, 0, 0, 0, []), (126, .iaload, 1, 0, 0, 0, 0, 0, []), (127, .aload_n 0, 1, 0, 0, 0, 0, 0, [])],
  [(128, .getfield 145, 3, 7, 12, 34, 0, 12, []), (131, .if_icmp .eq 26, 3, 157, 0, 0, 0, 0, []), (134, .aload_n 0, 1, 0, 0, 0, 0, 0, []), (135, .getfield 37, 3, 7, 10, 13, 2, 10, []), (138, .iload 10, 2, 10, 0, 0, 0, 0, []), (140, .aload_n 0, 1, 0, 0, 0, 0, 0, []), (141, .getfield 145, 3, 7, 12, 34, 0, 12, [])],
  [(144, .iastore, 1, 0, 0, 0, 0, 0, []), (145, .aload_n 0, 1, 0, 0, 0, 0, 0, []), (146, .getfield 34, 3, 7, 9, 12, 2, 9, []), (149, .iload 10, 2, 10, 0, 0, 0, 0, []), (151, .iload 5, 2, 5, 0, 0, 0, 0, []), (153, .iastore, 1, 0, 0, 0, 0, 0, []), (154, .iinc 5 1, 3, 5, 0, 0, 0, 1, []), (157, .aload_n 0, 1, 0, 0, 0, 0, 0, []), (158, .getfield 31, 3, 7, 8, 11, 2, 8, [])],
  [(161, .iload 4, 2, 4, 0, 0, 0, 0, []), (163, .iload 6, 2, 6, 0, 0, 0, 0, []), (165, .iadd, 1, 0, 0, 0, 0, 0, []), (166, .aload_n 0, 1, 0, 0, 0, 0, 0, []), (167, .getfield 34, 3, 7, 9, 12, 2, 9, []), (170, .iload 10, 2, 10, 0, 0, 0, 0, []), (172, .iaload, 1, 0, 0, 0, 0, 0, []), (173, .iastore, 1, 0, 0, 0, 0, 0, []), (174, .aload_n 0, 1, 0, 0, 0, 0, 0, []), (175, .getfield 28, 3, 7, 7, 10, 2, 7, [])],
  [(178, .iload 4, 2, 4, 0, 0, 0, 0, []), (180, .iload 6, 2, 6, 0, 0, 0, 0, []), (182, .iadd, 1, 0, 0, 0, 0, 0, []), (183, .iload 8, 2, 8, 0, 0, 0, 0, []), (185, .ifCond .eq 18, 3, 203, 0, 0, 0, 0, []), (188, .aload_n 0, 1, 0, 0, 0, 0, 0, []), (189, .getfield 22, 3, 7, 5, 8, 2, 5, [])],
  [(192, .iload 6, 2, 6, 0, 0, 0, 0, []), (194, .iaload, 1, 0, 0, 0, 0, 0, []), (195, .iconst 4, 1, 0, 0, 0, 0, 4, []), (196, .ishr, 1, 0, 0, 0, 0, 0, []), (197, .bipush 15, 2, 0, 0, 0, 0, 15, []), (199, .iand, 1, 0, 0, 0, 0, 0, []), (200, .goto 13, 3, 213, 0, 0, 0, 0, []), (203, .aload_n 0, 1, 0, 0, 0, 0, 0, []), (204, .getfield 43, 3, 7, 0, 15, 2, 0, []), (207, .getfield 151, 3, 1, 0, 36, 2, 0, [])],
  [(210, .iload 7, 2, 7, 0, 0, 0, 0, []), (212, .iaload, 1, 0, 0, 0, 0, 0, []), (213, .iastore, 1, 0, 0, 0, 0, 0, []), (214, .iinc 6 1, 3, 6, 0, 0, 0, 1, []), (217, .goto (-190), 3, 27, 0, 0, 0, 0, []), (220, .return_, 1, 0, 0, 0, 0, 0, [])]]
def i_X_split : ai_I := ((⟨"SuiteBench$Suspects", "split", "(II)V"⟩, prog_9_method_12_code, 11, none, 9, 0, 0, 0, 2, 0, 7) : ai_I)
def o_X_split (_ : Nat) : SP := fun _ _ _ _ _ => False
theorem mo_X_split : ∀ a, ai_mono (o_X_split a) := fun _ _ _ _ _ _ _ _ h => h
def f_X_split : SP := ai_M o_X_split 0 11 k_X_split
theorem mf_X_split : ai_mono f_X_split := M_mono mo_X_split
abbrev cal_X_split : List ai_I := []
theorem a_X_split : ai_all "SuiteBench$Suspects" prog_9_method_12_code 11 kc_X cal_X_split 0 0 false none k_X_split = true := by decide +kernel
theorem w_X_split : ai_CW i_X_split := ⟨(tk_mem (l := [((Jvm.Cond.code ({ cls := "SuiteBench$Suspects", name := "split", desc := "(II)V" } : Jvm.MethodName) prog_9_method_12_code (11 : Nat) (Option.none : Option Jvm.ClassFile.FieldType)), 6, 114)]) (by decide +kernel) _ (List.mem_singleton.mpr rfl)), (tk_mem (l := [((Jvm.Cond.initialized "SuiteBench$Suspects"), 1, 13)]) (by decide +kernel) _ (List.mem_singleton.mpr rfl)), ⟨by decide +kernel, by decide +kernel, by decide +kernel⟩, ⟨(tk_mem (l := [((Jvm.Cond.instanceMethod ({ cls := "SuiteBench$Suspects", name := "split", desc := "(II)V" } : Jvm.MethodName)), 6, 113)]) (by decide +kernel) _ (List.mem_singleton.mpr rfl)), gw_sel 62 (by decide +kernel), .inl ⟨_, _, rfl⟩⟩⟩
theorem c_X_split {E2 : (Nat → Nat) → State → Heap → Prop} (hE : ai_XH E2) : ai_S E2 i_X_split f_X_split := snd_M (by decide) rfl (by decide) a_X_split kc_X_ok (by rfl) (by decide) (fun a i h => by simp [cal_X_split, ai_nth] at h)
def k_X_greatestGroup : ai_C := [
  [(0, .iload_n 2, 1, 2, 0, 0, 0, 0, []), (1, .bipush 15, 2, 0, 0, 0, 0, 15, []), (3, .invokestatic 116, 3, 0, 0, 29, 23, 0, []), (6, .istore_n 3, 1, 3, 0, 0, 0, 0, []), (7, .iload_n 3, 1, 3, 0, 0, 0, 0, []), (8, .istore 4, 2, 4, 0, 0, 0, 0, []), (10, .iload_n 3, 1, 3, 0, 0, 0, 0, []), (11, .ifCond .le 26, 3, 37, 0, 0, 0, 0, []), (14, .aload_n 0, 1, 0, 0, 0, 0, 0, []), (15, .getfield 25, 3, 7, 6, 9, 2, 6, [])],
  [(18, .iload_n 3, 1, 3, 0, 0, 0, 0, []), (19, .iaload, 1, 0, 0, 0, 0, 0, []), (20, .iload_n 1, 1, 1, 0, 0, 0, 0, []), (21, .iconst 2, 1, 0, 0, 0, 0, 2, []), (22, .iload 4, 2, 4, 0, 0, 0, 0, []), (24, .iload_n 3, 1, 3, 0, 0, 0, 0, []), (25, .isub, 1, 0, 0, 0, 0, 0, []), (26, .imul, 1, 0, 0, 0, 0, 0, []), (27, .ishr, 1, 0, 0, 0, 0, 0, []), (28, .if_icmp .eq 9, 3, 37, 0, 0, 0, 0, []), (31, .iinc 3 (-1), 3, 3, 0, 0, 0, (-1), [])],
  [(34, .goto (-24), 3, 10, 0, 0, 0, 0, []), (37, .iload_n 3, 1, 3, 0, 0, 0, 0, []), (38, .iload 4, 2, 4, 0, 0, 0, 0, []), (40, .if_icmp .ge 42, 3, 82, 0, 0, 0, 0, []), (43, .aload_n 0, 1, 0, 0, 0, 0, 0, []), (44, .iload_n 3, 1, 3, 0, 0, 0, 0, []), (45, .iload_n 1, 1, 1, 0, 0, 0, 0, []), (46, .iload 4, 2, 4, 0, 0, 0, 0, [])],
  [(48, .iload_n 3, 1, 3, 0, 0, 0, 0, []), (49, .isub, 1, 0, 0, 0, 0, 0, []), (50, .iconst 1, 1, 0, 0, 0, 0, 1, []), (51, .isub, 1, 0, 0, 0, 0, 0, []), (52, .invokestatic 135, 3, 0, 2, 37, 0, 0, [(0, 11)]), (55, .invokevirtual 138, 3, 1, 3, 38, 9, 0, [(0, 7)]), (58, .aload_n 0, 1, 0, 0, 0, 0, 0, []), (59, .getfield 25, 3, 7, 6, 9, 2, 6, []), (62, .iload_n 3, 1, 3, 0, 0, 0, 0, []), (63, .iconst 1, 1, 0, 0, 0, 0, 1, [])],
  [(64, .iadd, 1, 0, 0, 0, 0, 0, []), (65, .iload_n 1, 1, 1, 0, 0, 0, 0, []), (66, .iconst 2, 1, 0, 0, 0, 0, 2, []), (67, .iload 4, 2, 4, 0, 0, 0, 0, []), (69, .iload_n 3, 1, 3, 0, 0, 0, 0, []), (70, .isub, 1, 0, 0, 0, 0, 0, []), (71, .iconst 1, 1, 0, 0, 0, 0, 1, []), (72, .isub, 1, 0, 0, 0, 0, 0, []), (73, .imul, 1, 0, 0, 0, 0, 0, []), (74, .ishr, 1, 0, 0, 0, 0, 0, []), (75, .iastore, 1, 0, 0, 0, 0, 0, []), (76, .iinc 3 1, 3, 3, 0, 0, 0, 1, []), (79, .goto (-42), 3, 37, 0, 0, 0, 0, [])],
  [(82, .aload_n 0, 1, 0, 0, 0, 0, 0, []), (83, .getfield 40, 3, 7, 11, 14, 2, 11, []), (86, .iconst 0, 1, 0, 0, 0, 0, 0, []), (87, .invokestatic 124, 3, 2, 2, 31, 9, 0, [(0, 99)]), (90, .iconst 0, 1, 0, 0, 0, 0, 0, []), (91, .istore 5, 2, 5, 0, 0, 0, 0, []), (93, .iconst 0, 1, 0, 0, 0, 0, 0, []), (94, .istore 6, 2, 6, 0, 0, 0, 0, [])],
  [(96, .iload 6, 2, 6, 0, 0, 0, 0, []), (98, .aload_n 0, 1, 0, 0, 0, 0, 0, []), (99, .getfield 121, 3, 7, 13, 30, 0, 13, []), (102, .if_icmp .ge 49, 3, 151, 0, 0, 0, 0, []), (105, .aload_n 0, 1, 0, 0, 0, 0, 0, []), (106, .getfield 31, 3, 7, 8, 11, 2, 8, []), (109, .iload 4, 2, 4, 0, 0, 0, 0, []), (111, .bipush 40, 2, 0, 0, 0, 0, 40, [])],
  [(113, .imul, 1, 0, 0, 0, 0, 0, []), (114, .iload 6, 2, 6, 0, 0, 0, 0, []), (116, .iadd, 1, 0, 0, 0, 0, 0, []), (117, .iaload, 1, 0, 0, 0, 0, 0, []), (118, .istore 7, 2, 7, 0, 0, 0, 0, []), (120, .aload_n 0, 1, 0, 0, 0, 0, 0, []), (121, .getfield 40, 3, 7, 11, 14, 2, 11, []), (124, .iload 7, 2, 7, 0, 0, 0, 0, []), (126, .dup2, 1, 0, 0, 0, 0, 0, []), (127, .iaload, 1, 0, 0, 0, 0, 0, [])],
  [(128, .iconst 1, 1, 0, 0, 0, 0, 1, []), (129, .iadd, 1, 0, 0, 0, 0, 0, []), (130, .iastore, 1, 0, 0, 0, 0, 0, []), (131, .iload 5, 2, 5, 0, 0, 0, 0, []), (133, .aload_n 0, 1, 0, 0, 0, 0, 0, []), (134, .getfield 40, 3, 7, 11, 14, 2, 11, []), (137, .iload 7, 2, 7, 0, 0, 0, 0, []), (139, .iaload, 1, 0, 0, 0, 0, 0, []), (140, .invokestatic 142, 3, 0, 0, 39, 22, 0, []), (143, .istore 5, 2, 5, 0, 0, 0, 0, [])],
  [(145, .iinc 6 1, 3, 6, 0, 0, 0, 1, []), (148, .goto (-52), 3, 96, 0, 0, 0, 0, []), (151, .iload 5, 2, 5, 0, 0, 0, 0, []), (153, .ireturn, 1, 0, 0, 0, 0, 0, [])]]
def i_X_greatestGroup : ai_I := ((⟨"SuiteBench$Suspects", "greatestGroup", "(II)I"⟩, prog_9_method_11_code, 8, (some .int), 0, 1, 30, 0, 2, 0, 7) : ai_I)
def o_X_greatestGroup (a : Nat) : SP := match a with
  | 0 => f_B_inputAt
  | 1 => f_X_split
  | 2 => f_J_fill
  | _ => fun _ _ _ _ _ => False
theorem mo_X_greatestGroup : ∀ a, ai_mono (o_X_greatestGroup a)
  | 0 => mf_B_inputAt
  | 1 => mf_X_split
  | 2 => mf_J_fill
  | _ + 3 => fun _ _ _ _ _ _ _ h => h
def f_X_greatestGroup : SP := ai_M o_X_greatestGroup 0 8 k_X_greatestGroup
theorem mf_X_greatestGroup : ai_mono f_X_greatestGroup := M_mono mo_X_greatestGroup
abbrev cal_X_greatestGroup : List ai_I := [i_B_inputAt, i_X_split, i_J_fill]
theorem a_X_greatestGroup : ai_all "SuiteBench$Suspects" prog_9_method_11_code 8 kc_X cal_X_greatestGroup 1 30 false (some .int) k_X_greatestGroup = true := by decide +kernel
theorem w_X_greatestGroup : ai_CW i_X_greatestGroup := ⟨(tk_mem (l := [((Jvm.Cond.code ({ cls := "SuiteBench$Suspects", name := "greatestGroup", desc := "(II)I" } : Jvm.MethodName) prog_9_method_11_code (8 : Nat) (Option.some Jvm.ClassFile.FieldType.int)), 6, 109)]) (by decide +kernel) _ (List.mem_singleton.mpr rfl)), (tk_mem (l := [((Jvm.Cond.initialized "SuiteBench$Suspects"), 1, 13)]) (by decide +kernel) _ (List.mem_singleton.mpr rfl)), ⟨by decide +kernel, by decide +kernel, by decide +kernel⟩, ⟨(tk_mem (l := [((Jvm.Cond.instanceMethod ({ cls := "SuiteBench$Suspects", name := "greatestGroup", desc := "(II)I" } : Jvm.MethodName)), 6, 108)]) (by decide +kernel) _ (List.mem_singleton.mpr rfl)), gw_sel 61 (by decide +kernel), .inl ⟨_, _, rfl⟩⟩⟩
theorem c_X_greatestGroup {E2 : (Nat → Nat) → State → Heap → Prop} (hE : ai_XH E2) : ai_S E2 i_X_greatestGroup f_X_greatestGroup := snd_M (by decide) rfl (by decide) a_X_greatestGroup kc_X_ok (by rfl) (by decide) (fun a i h => match a, h with
    | 0, h => by cases h; exact ⟨c_B_inputAt hE, w_B_inputAt⟩
    | 1, h => by cases h; exact ⟨c_X_split hE, w_X_split⟩
    | 2, h => by cases h; exact ⟨c_J_fill hE, w_J_fill⟩
    | _ + 3, h => by simp [cal_X_greatestGroup, ai_nth] at h)
def k_X_findNext : ai_C := [
  [(0, .aload_n 0, 1, 0, 0, 0, 0, 0, []), (1, .invokevirtual 102, 3, 0, 1, 40, 9, 0, [(0, 7)]), (4, .bipush (-2), 2, 0, 0, 0, 0, (-2), []), (6, .istore_n 2, 1, 2, 0, 0, 0, 0, []), (7, .bipush 41, 2, 0, 0, 0, 0, 41, []), (9, .istore_n 3, 1, 3, 0, 0, 0, 0, []), (10, .iconst 0, 1, 0, 0, 0, 0, 0, []), (11, .istore 4, 2, 4, 0, 0, 0, 0, []), (13, .iload 4, 2, 4, 0, 0, 0, 0, []), (15, .aload_n 1, 1, 1, 0, 0, 0, 0, [])],
  [(16, .getfield 105, 3, 8, 8, 41, 0, 8, []), (19, .if_icmp .ge 51, 3, 70, 0, 0, 0, 0, []), (22, .iload_n 3, 1, 3, 0, 0, 0, 0, []), (23, .iconst 1, 1, 0, 0, 0, 0, 1, []), (24, .if_icmp .le 46, 3, 70, 0, 0, 0, 0, []), (27, .aload_n 0, 1, 0, 0, 0, 0, 0, []), (28, .aload_n 1, 1, 1, 0, 0, 0, 0, []), (29, .getfield 108, 3, 8, 4, 42, 2, 4, [])],
  [(32, .iload 4, 2, 4, 0, 0, 0, 0, []), (34, .iaload, 1, 0, 0, 0, 0, 0, []), (35, .aload_n 1, 1, 1, 0, 0, 0, 0, []), (36, .getfield 111, 3, 8, 5, 43, 2, 5, []), (39, .iload 4, 2, 4, 0, 0, 0, 0, []), (41, .iaload, 1, 0, 0, 0, 0, 0, []), (42, .invokevirtual 112, 3, 1, 3, 44, 0, 0, [(0, 7)]), (45, .istore 5, 2, 5, 0, 0, 0, 0, []), (47, .iload 5, 2, 5, 0, 0, 0, 0, [])],
  [(49, .iload_n 3, 1, 3, 0, 0, 0, 0, []), (50, .if_icmp .ge 14, 3, 64, 0, 0, 0, 0, []), (53, .iload 5, 2, 5, 0, 0, 0, 0, []), (55, .istore_n 3, 1, 3, 0, 0, 0, 0, []), (56, .aload_n 1, 1, 1, 0, 0, 0, 0, []), (57, .getfield 108, 3, 8, 4, 42, 2, 4, []), (60, .iload 4, 2, 4, 0, 0, 0, 0, []), (62, .iaload, 1, 0, 0, 0, 0, 0, []), (63, .istore_n 2, 1, 2, 0, 0, 0, 0, [])],
  [(64, .iinc 4 1, 3, 4, 0, 0, 0, 1, []), (67, .goto (-54), 3, 13, 0, 0, 0, 0, []), (70, .iload_n 2, 1, 2, 0, 0, 0, 0, []), (71, .ireturn, 1, 0, 0, 0, 0, 0, [])]]
def i_X_findNext : ai_I := ((⟨"SuiteBench$Suspects", "findNext", "(LSuiteBench$Tests;)I"⟩, prog_9_method_9_code, 6, (some .int), 0, 2, 57, 0, 1, 0, 7) : ai_I)
def o_X_findNext (a : Nat) : SP := match a with
  | 0 => f_X_gatherCrowd
  | 1 => f_X_greatestGroup
  | _ => fun _ _ _ _ _ => False
theorem mo_X_findNext : ∀ a, ai_mono (o_X_findNext a)
  | 0 => mf_X_gatherCrowd
  | 1 => mf_X_greatestGroup
  | _ + 2 => fun _ _ _ _ _ _ _ h => h
def f_X_findNext : SP := ai_M o_X_findNext 0 6 k_X_findNext
theorem mf_X_findNext : ai_mono f_X_findNext := M_mono mo_X_findNext
abbrev cal_X_findNext : List ai_I := [i_X_gatherCrowd, i_X_greatestGroup]
theorem a_X_findNext : ai_all "SuiteBench$Suspects" prog_9_method_9_code 6 kc_X cal_X_findNext 2 57 false (some .int) k_X_findNext = true := by decide +kernel
theorem w_X_findNext : ai_CW i_X_findNext := ⟨(tk_mem (l := [((Jvm.Cond.code ({ cls := "SuiteBench$Suspects", name := "findNext", desc := "(LSuiteBench$Tests;)I" } : Jvm.MethodName) prog_9_method_9_code (6 : Nat) (Option.some Jvm.ClassFile.FieldType.int)), 6, 94)]) (by decide +kernel) _ (List.mem_singleton.mpr rfl)), (tk_mem (l := [((Jvm.Cond.initialized "SuiteBench$Suspects"), 1, 13)]) (by decide +kernel) _ (List.mem_singleton.mpr rfl)), ⟨by decide +kernel, by decide +kernel, by decide +kernel⟩, ⟨(tk_mem (l := [((Jvm.Cond.instanceMethod ({ cls := "SuiteBench$Suspects", name := "findNext", desc := "(LSuiteBench$Tests;)I" } : Jvm.MethodName)), 6, 93)]) (by decide +kernel) _ (List.mem_singleton.mpr rfl)), gw_sel 59 (by decide +kernel), .inl ⟨_, _, rfl⟩⟩⟩
theorem c_X_findNext {E2 : (Nat → Nat) → State → Heap → Prop} (hE : ai_XH E2) : ai_S E2 i_X_findNext f_X_findNext := snd_M (by decide) rfl (by decide) a_X_findNext kc_X_ok (by rfl) (by decide) (fun a i h => match a, h with
    | 0, h => by cases h; exact ⟨c_X_gatherCrowd hE, w_X_gatherCrowd⟩
    | 1, h => by cases h; exact ⟨c_X_greatestGroup hE, w_X_greatestGroup⟩
    | _ + 2, h => by simp [cal_X_findNext, ai_nth] at h)
def k_X_nextWord : ai_C := [
  [(0, .aload_n 0, 1, 0, 0, 0, 0, 0, []), (1, .getfield 58, 3, 7, 17, 19, 3, 17, []), (4, .ifCond .ne 17, 3, 21, 0, 0, 0, 0, []), (7, .aload_n 0, 1, 0, 0, 0, 0, 0, []), (8, .iconst 1, 1, 0, 0, 0, 0, 1, []), (9, .putfield 58, 3, 7, 17, 19, 3, 17, []), (12, .aload_n 0, 1, 0, 0, 0, 0, 0, []), (13, .aload_n 0, 1, 0, 0, 0, 0, 0, []), (14, .aload_n 1, 1, 1, 0, 0, 0, 0, []), (15, .invokevirtual 95, 3, 0, 2, 45, 0, 0, [(0, 7)])],
  [(18, .putfield 99, 3, 7, 15, 46, 0, 15, []), (21, .aload_n 0, 1, 0, 0, 0, 0, 0, []), (22, .getfield 99, 3, 7, 15, 46, 0, 15, []), (25, .ireturn, 1, 0, 0, 0, 0, 0, [])]]
def i_X_nextWord : ai_I := ((⟨"SuiteBench$Suspects", "nextWord", "(LSuiteBench$Tests;)I"⟩, prog_9_method_8_code, 2, (some .int), 0, 3, 82, 0, 1, 0, 7) : ai_I)
def o_X_nextWord (a : Nat) : SP := match a with
  | 0 => f_X_findNext
  | _ => fun _ _ _ _ _ => False
theorem mo_X_nextWord : ∀ a, ai_mono (o_X_nextWord a)
  | 0 => mf_X_findNext
  | _ + 1 => fun _ _ _ _ _ _ _ h => h
def f_X_nextWord : SP := ai_M o_X_nextWord 0 2 k_X_nextWord
theorem mf_X_nextWord : ai_mono f_X_nextWord := M_mono mo_X_nextWord
abbrev cal_X_nextWord : List ai_I := [i_X_findNext]
theorem a_X_nextWord : ai_all "SuiteBench$Suspects" prog_9_method_8_code 2 kc_X cal_X_nextWord 3 82 false (some .int) k_X_nextWord = true := by decide +kernel
theorem w_X_nextWord : ai_CW i_X_nextWord := ⟨(tk_mem (l := [((Jvm.Cond.code ({ cls := "SuiteBench$Suspects", name := "nextWord", desc := "(LSuiteBench$Tests;)I" } : Jvm.MethodName) prog_9_method_8_code (2 : Nat) (Option.some Jvm.ClassFile.FieldType.int)), 6, 90)]) (by decide +kernel) _ (List.mem_singleton.mpr rfl)), (tk_mem (l := [((Jvm.Cond.initialized "SuiteBench$Suspects"), 1, 13)]) (by decide +kernel) _ (List.mem_singleton.mpr rfl)), ⟨by decide +kernel, by decide +kernel, by decide +kernel⟩, ⟨(tk_mem (l := [((Jvm.Cond.instanceMethod ({ cls := "SuiteBench$Suspects", name := "nextWord", desc := "(LSuiteBench$Tests;)I" } : Jvm.MethodName)), 6, 88)]) (by decide +kernel) _ (List.mem_singleton.mpr rfl)), (tk_mem (l := [((Jvm.Cond.selects "SuiteBench$Suspects" ({ cls := "SuiteBench$Suspects", name := "nextWord", desc := "(LSuiteBench$Tests;)I" } : Jvm.MethodName) ({ cls := "SuiteBench$Suspects", name := "nextWord", desc := "(LSuiteBench$Tests;)I" } : Jvm.MethodName)), 6, 89)]) (by decide +kernel) _ (List.mem_singleton.mpr rfl)), .inl ⟨_, _, rfl⟩⟩⟩
theorem c_X_nextWord {E2 : (Nat → Nat) → State → Heap → Prop} (hE : ai_XH E2) : ai_S E2 i_X_nextWord f_X_nextWord := snd_M (by decide) rfl (by decide) a_X_nextWord kc_X_ok (by rfl) (by decide) (fun a i h => match a, h with
    | 0, h => by cases h; exact ⟨c_X_findNext hE, w_X_findNext⟩
    | _ + 1, h => by simp [cal_X_nextWord, ai_nth] at h)
