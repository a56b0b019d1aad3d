/-! the code of the methods, by program; what it rests on, looked at; the contracts -/
def k_B_settle : ai_C := [
  [(0, .aload_n 0, 1, 0, 0, 0, 0, 0, []), (1, .getfield 26, 3, 11, 1, 0, 2, 1, []), (4, .aload_n 0, 1, 0, 0, 0, 0, 0, []), (5, .getfield 19, 3, 11, 12, 1, 2, 12, []), (8, .getfield 386, 3, 3, 4, 2, 0, 4, []), (11, .aload_n 0, 1, 0, 0, 0, 0, 0, []), (12, .getfield 19, 3, 11, 12, 1, 2, 12, []), (15, .getfield 389, 3, 3, 6, 3, 0, 6, [])],
  [(18, .invokevirtual 390, 3, 0, 3, 4, 9, 0, [(0, 1)]), (21, .aload_n 0, 1, 0, 0, 0, 0, 0, []), (22, .getfield 26, 3, 11, 1, 0, 2, 1, []), (25, .aload_n 0, 1, 0, 0, 0, 0, 0, []), (26, .getfield 19, 3, 11, 12, 1, 2, 12, []), (29, .getfield 394, 3, 3, 2, 5, 2, 2, [])],
  [(32, .invokevirtual 397, 3, 1, 2, 6, 9, 0, [(0, 1)]), (35, .aload_n 0, 1, 0, 0, 0, 0, 0, []), (36, .getfield 30, 3, 11, 2, 7, 2, 2, []), (39, .aload_n 0, 1, 0, 0, 0, 0, 0, []), (40, .getfield 19, 3, 11, 12, 1, 2, 12, []), (43, .getfield 386, 3, 3, 4, 2, 0, 4, []), (46, .aload_n 0, 1, 0, 0, 0, 0, 0, []), (47, .getfield 19, 3, 11, 12, 1, 2, 12, [])],
  [(50, .getfield 401, 3, 3, 5, 8, 0, 5, []), (53, .iadd, 1, 0, 0, 0, 0, 0, []), (54, .aload_n 0, 1, 0, 0, 0, 0, 0, []), (55, .getfield 19, 3, 11, 12, 1, 2, 12, []), (58, .getfield 389, 3, 3, 6, 3, 0, 6, []), (61, .invokevirtual 390, 3, 0, 3, 4, 9, 0, [(0, 1)])],
  [(64, .aload_n 0, 1, 0, 0, 0, 0, 0, []), (65, .getfield 30, 3, 11, 2, 7, 2, 2, []), (68, .aload_n 0, 1, 0, 0, 0, 0, 0, []), (69, .getfield 19, 3, 11, 12, 1, 2, 12, []), (72, .getfield 394, 3, 3, 2, 5, 2, 2, []), (75, .invokevirtual 397, 3, 1, 2, 6, 9, 0, [(0, 1)]), (78, .aload_n 0, 1, 0, 0, 0, 0, 0, []), (79, .getfield 30, 3, 11, 2, 7, 2, 2, [])],
  [(82, .aload_n 0, 1, 0, 0, 0, 0, 0, []), (83, .getfield 19, 3, 11, 12, 1, 2, 12, []), (86, .getfield 404, 3, 3, 3, 9, 2, 3, []), (89, .invokevirtual 397, 3, 1, 2, 6, 9, 0, [(0, 1)]), (92, .aload_n 0, 1, 0, 0, 0, 0, 0, []), (93, .getfield 38, 3, 11, 3, 10, 2, 3, [])],
  [(96, .invokevirtual 407, 3, 2, 1, 11, 9, 0, [(0, 9)]), (99, .aload_n 0, 1, 0, 0, 0, 0, 0, []), (100, .getfield 47, 3, 11, 4, 12, 2, 4, []), (103, .invokevirtual 410, 3, 3, 1, 13, 9, 0, [(0, 5)]), (106, .aload_n 0, 1, 0, 0, 0, 0, 0, []), (107, .getfield 56, 3, 11, 5, 14, 2, 5, []), (110, .aload_n 0, 1, 0, 0, 0, 0, 0, []), (111, .getfield 19, 3, 11, 12, 1, 2, 12, [])],
  [(114, .getfield 360, 3, 3, 7, 15, 0, 7, []), (117, .invokevirtual 411, 3, 4, 2, 16, 9, 0, [(0, 6)]), (120, .aload_n 0, 1, 0, 0, 0, 0, 0, []), (121, .getfield 63, 3, 11, 6, 17, 2, 6, []), (124, .invokevirtual 413, 3, 5, 1, 18, 9, 0, [(0, 2)]), (127, .aload_n 0, 1, 0, 0, 0, 0, 0, [])],
  [(128, .getfield 70, 3, 11, 7, 19, 2, 7, []), (131, .iconst 0, 1, 0, 0, 0, 0, 0, []), (132, .putfield 297, 3, 0, 2, 20, 0, 2, []), (135, .aload_n 0, 1, 0, 0, 0, 0, 0, []), (136, .getfield 79, 3, 11, 8, 21, 2, 8, []), (139, .invokevirtual 304, 3, 6, 1, 22, 9, 0, [(0, 7)]), (142, .aload_n 0, 1, 0, 0, 0, 0, 0, []), (143, .iconst 0, 1, 0, 0, 0, 0, 0, [])],
  [(144, .putfield 416, 3, 11, 13, 23, 0, 13, []), (147, .aload_n 0, 1, 0, 0, 0, 0, 0, []), (148, .iconst 0, 1, 0, 0, 0, 0, 0, []), (149, .putfield 339, 3, 11, 14, 24, 0, 14, []), (152, .aload_n 0, 1, 0, 0, 0, 0, 0, []), (153, .iconst 0, 1, 0, 0, 0, 0, 0, []), (154, .putfield 356, 3, 11, 15, 25, 3, 15, []), (157, .return_, 1, 0, 0, 0, 0, 0, [])]]
def i_B_settle : ai_I := ((⟨"SuiteBench", "settle", "()V"⟩, prog_1_method_50_code, 1, none, 9, 5, 114, 0, 0, 0, 11) : ai_I)
def o_B_settle (a : Nat) : SP := match a with
  | 0 => f_M_still
  | 1 => f_M_tellArcs
  | 2 => f_A_learn
  | 3 => f_S_renew
  | 4 => f_T_renew
  | 5 => f_U_list
  | 6 => f_X_renew
  | _ => fun _ _ _ _ _ => False
theorem mo_B_settle : ∀ a, ai_mono (o_B_settle a)
  | 0 => mf_M_still
  | 1 => mf_M_tellArcs
  | 2 => mf_A_learn
  | 3 => mf_S_renew
  | 4 => mf_T_renew
  | 5 => mf_U_list
  | 6 => mf_X_renew
  | _ + 7 => fun _ _ _ _ _ _ _ h => h
def f_B_settle : SP := ai_M o_B_settle 0 1 k_B_settle
theorem mf_B_settle : ai_mono f_B_settle := M_mono mo_B_settle
abbrev cal_B_settle : List ai_I := [i_M_still, i_M_tellArcs, i_A_learn, i_S_renew, i_T_renew, i_U_list, i_X_renew]
theorem a_B_settle : ai_all "SuiteBench" prog_1_method_50_code 1 kc_B cal_B_settle 5 114 false none k_B_settle = true := by decide +kernel
theorem w_B_settle : ai_CW i_B_settle := ⟨(tk_mem (l := [((Jvm.Cond.code ({ cls := "SuiteBench", name := "settle", desc := "()V" } : Jvm.MethodName) prog_1_method_50_code (1 : Nat) (Option.none : Option Jvm.ClassFile.FieldType)), 3, 78)]) (by decide +kernel) _ (List.mem_singleton.mpr rfl)), (tk_mem (l := [((Jvm.Cond.initialized "SuiteBench"), 1, 1)]) (by decide +kernel) _ (List.mem_singleton.mpr rfl)), ⟨by decide +kernel, by decide +kernel, by decide +kernel⟩, ⟨(tk_mem (l := [((Jvm.Cond.instanceMethod ({ cls := "SuiteBench", name := "settle", desc := "()V" } : Jvm.MethodName)), 3, 77)]) (by decide +kernel) _ (List.mem_singleton.mpr rfl)), gw_sel 0 (by decide +kernel), .inl ⟨_, _, rfl⟩⟩⟩
theorem c_B_settle {E2 : (Nat → Nat) → State → Heap → Prop} (hE : ai_XH E2) : ai_S E2 i_B_settle f_B_settle := snd_M (by decide) rfl (by decide) a_B_settle kc_B_ok (by rfl) (by decide) (fun a i h => match a, h with
    | 0, h => by cases h; exact ⟨c_M_still hE, w_M_still⟩
    | 1, h => by cases h; exact ⟨c_M_tellArcs hE, w_M_tellArcs⟩
    | 2, h => by cases h; exact ⟨c_A_learn hE, w_A_learn⟩
    | 3, h => by cases h; exact ⟨c_S_renew hE, w_S_renew⟩
    | 4, h => by cases h; exact ⟨c_T_renew hE, w_T_renew⟩
    | 5, h => by cases h; exact ⟨c_U_list hE, w_U_list⟩
    | 6, h => by cases h; exact ⟨c_X_renew hE, w_X_renew⟩
    | _ + 7, h => by simp [cal_B_settle, ai_nth] at h)
def k_B_init : ai_C := [
  [(0, .aload_n 0, 1, 0, 0, 0, 0, 0, []), (1, .invokespecial 1, 3, 0, 0, 26, 30, 0, []), (4, .aload_n 0, 1, 0, 0, 0, 0, 0, []), (5, .new 7, 3, 4, 28, 27, 29, 0, []), (8, .dup, 1, 0, 0, 0, 0, 0, []), (9, .invokespecial 9, 3, 0, 1, 30, 9, 6, [(0, 4)]), (12, .putfield 10, 3, 11, 0, 31, 2, 0, []), (15, .aload_n 0, 1, 0, 0, 0, 0, 0, [])],
  [(16, .new 16, 3, 3, 33, 32, 34, 0, []), (19, .dup, 1, 0, 0, 0, 0, 0, []), (20, .invokespecial 18, 3, 1, 1, 35, 9, 4, [(0, 3)]), (23, .putfield 19, 3, 11, 12, 1, 2, 12, []), (26, .aload_n 0, 1, 0, 0, 0, 0, 0, []), (27, .new 23, 3, 1, 37, 36, 38, 0, []), (30, .dup, 1, 0, 0, 0, 0, 0, []), (31, .invokespecial 25, 3, 2, 1, 39, 9, 2, [(0, 1)])],
  [(34, .putfield 26, 3, 11, 1, 0, 2, 1, []), (37, .aload_n 0, 1, 0, 0, 0, 0, 0, []), (38, .new 23, 3, 1, 37, 36, 38, 0, []), (41, .dup, 1, 0, 0, 0, 0, 0, []), (42, .invokespecial 25, 3, 2, 1, 39, 9, 2, [(0, 1)]), (45, .putfield 30, 3, 11, 2, 7, 2, 2, [])],
  [(48, .aload_n 0, 1, 0, 0, 0, 0, 0, []), (49, .new 33, 3, 9, 41, 40, 42, 0, []), (52, .dup, 1, 0, 0, 0, 0, 0, []), (53, .aload_n 0, 1, 0, 0, 0, 0, 0, []), (54, .getfield 26, 3, 11, 1, 0, 2, 1, []), (57, .invokespecial 35, 3, 3, 2, 43, 9, 7, [(0, 9)]), (60, .putfield 38, 3, 11, 3, 10, 2, 3, []), (63, .aload_n 0, 1, 0, 0, 0, 0, 0, [])],
  [(64, .new 42, 3, 5, 45, 44, 46, 0, []), (67, .dup, 1, 0, 0, 0, 0, 0, []), (68, .aload_n 0, 1, 0, 0, 0, 0, 0, []), (69, .getfield 26, 3, 11, 1, 0, 2, 1, []), (72, .aload_n 0, 1, 0, 0, 0, 0, 0, []), (73, .getfield 38, 3, 11, 3, 10, 2, 3, []), (76, .invokespecial 44, 3, 4, 3, 47, 9, 7, [(0, 5)]), (79, .putfield 47, 3, 11, 4, 12, 2, 4, [])],
  [(82, .aload_n 0, 1, 0, 0, 0, 0, 0, []), (83, .new 51, 3, 6, 49, 48, 50, 0, []), (86, .dup, 1, 0, 0, 0, 0, 0, []), (87, .aload_n 0, 1, 0, 0, 0, 0, 0, []), (88, .getfield 26, 3, 11, 1, 0, 2, 1, []), (91, .aload_n 0, 1, 0, 0, 0, 0, 0, []), (92, .getfield 38, 3, 11, 3, 10, 2, 3, []), (95, .aload_n 0, 1, 0, 0, 0, 0, 0, [])],
  [(96, .getfield 47, 3, 11, 4, 12, 2, 4, []), (99, .invokespecial 53, 3, 5, 4, 51, 9, 66, [(0, 6)]), (102, .putfield 56, 3, 11, 5, 14, 2, 5, []), (105, .aload_n 0, 1, 0, 0, 0, 0, 0, []), (106, .new 60, 3, 2, 53, 52, 54, 0, []), (109, .dup, 1, 0, 0, 0, 0, 0, []), (110, .aload_n 0, 1, 0, 0, 0, 0, 0, []), (111, .getfield 26, 3, 11, 1, 0, 2, 1, [])],
  [(114, .aload_n 0, 1, 0, 0, 0, 0, 0, []), (115, .getfield 38, 3, 11, 3, 10, 2, 3, []), (118, .aload_n 0, 1, 0, 0, 0, 0, 0, []), (119, .getfield 47, 3, 11, 4, 12, 2, 4, []), (122, .invokespecial 62, 3, 6, 4, 55, 9, 15, [(0, 2)]), (125, .putfield 63, 3, 11, 6, 17, 2, 6, [])],
  [(128, .aload_n 0, 1, 0, 0, 0, 0, 0, []), (129, .new 67, 3, 0, 57, 56, 58, 0, []), (132, .dup, 1, 0, 0, 0, 0, 0, []), (133, .invokespecial 69, 3, 7, 1, 59, 9, 2, [(0, 0)]), (136, .putfield 70, 3, 11, 7, 19, 2, 7, []), (139, .aload_n 0, 1, 0, 0, 0, 0, 0, []), (140, .new 74, 3, 7, 61, 60, 62, 0, []), (143, .dup, 1, 0, 0, 0, 0, 0, [])],
  [(144, .aload_n 0, 1, 0, 0, 0, 0, 0, []), (145, .getfield 26, 3, 11, 1, 0, 2, 1, []), (148, .aload_n 0, 1, 0, 0, 0, 0, 0, []), (149, .getfield 63, 3, 11, 6, 17, 2, 6, []), (152, .aload_n 0, 1, 0, 0, 0, 0, 0, []), (153, .getfield 70, 3, 11, 7, 19, 2, 7, []), (156, .invokespecial 76, 3, 8, 4, 63, 9, 11, [(0, 7)]), (159, .putfield 79, 3, 11, 8, 21, 2, 8, [])],
  [(162, .aload_n 0, 1, 0, 0, 0, 0, 0, []), (163, .sipush 480, 3, 0, 0, 0, 0, 480, []), (166, .newarray .int, 2, 0, 0, 64, 50, 0, []), (168, .putfield 83, 3, 11, 9, 65, 2, 9, []), (171, .aload_n 0, 1, 0, 0, 0, 0, 0, []), (172, .bipush 24, 2, 0, 0, 0, 0, 24, []), (174, .newarray .int, 2, 0, 0, 64, 50, 0, [])],
  [(176, .putfield 87, 3, 11, 10, 66, 2, 10, []), (179, .aload_n 0, 1, 0, 0, 0, 0, 0, []), (180, .new 67, 3, 0, 57, 56, 58, 0, []), (183, .dup, 1, 0, 0, 0, 0, 0, []), (184, .invokespecial 69, 3, 7, 1, 59, 9, 2, [(0, 0)]), (187, .putfield 90, 3, 11, 11, 67, 2, 11, []), (190, .aload_n 0, 1, 0, 0, 0, 0, 0, []), (191, .invokevirtual 93, 3, 9, 1, 68, 9, 0, [(0, 11)])],
  [(194, .return_, 1, 0, 0, 0, 0, 0, [])]]
def i_B_init : ai_I := ((⟨"SuiteBench", "<init>", "()V"⟩, prog_1_method_1_code, 1, none, 9, 6, 134, 137, 0, 2, 11) : ai_I)
def o_B_init (a : Nat) : SP := match a with
  | 0 => f_R_init
  | 1 => f_P_init
  | 2 => f_M_init
  | 3 => f_A_init
  | 4 => f_S_init
  | 5 => f_T_init
  | 6 => f_U_init
  | 7 => f_L_init
  | 8 => f_X_init
  | 9 => f_B_settle
  | _ => fun _ _ _ _ _ => False
theorem mo_B_init : ∀ a, ai_mono (o_B_init a)
  | 0 => mf_R_init
  | 1 => mf_P_init
  | 2 => mf_M_init
  | 3 => mf_A_init
  | 4 => mf_S_init
  | 5 => mf_T_init
  | 6 => mf_U_init
  | 7 => mf_L_init
  | 8 => mf_X_init
  | 9 => mf_B_settle
  | _ + 10 => fun _ _ _ _ _ _ _ h => h
def f_B_init : SP := ai_M o_B_init 137 1 k_B_init
theorem mf_B_init : ai_mono f_B_init := M_mono mo_B_init
abbrev cal_B_init : List ai_I := [i_R_init, i_P_init, i_M_init, i_A_init, i_S_init, i_T_init, i_U_init, i_L_init, i_X_init, i_B_settle]
theorem a_B_init : ai_all "SuiteBench" prog_1_method_1_code 1 kc_B cal_B_init 6 134 true none k_B_init = true := by decide +kernel
theorem w_B_init : ai_CW i_B_init := ⟨(tk_mem (l := [((Jvm.Cond.code ({ cls := "SuiteBench", name := "<init>", desc := "()V" } : Jvm.MethodName) prog_1_method_1_code (1 : Nat) (Option.none : Option Jvm.ClassFile.FieldType)), 1, 31)]) (by decide +kernel) _ (List.mem_singleton.mpr rfl)), (tk_mem (l := [((Jvm.Cond.initialized "SuiteBench"), 1, 1)]) (by decide +kernel) _ (List.mem_singleton.mpr rfl)), ⟨by decide +kernel, by decide +kernel, by decide +kernel⟩, ⟨(tk_mem (l := [((Jvm.Cond.instanceMethod ({ cls := "SuiteBench", name := "<init>", desc := "()V" } : Jvm.MethodName)), 1, 30)]) (by decide +kernel) _ (List.mem_singleton.mpr rfl)), rfl, rfl⟩⟩
theorem c_B_init {E2 : (Nat → Nat) → State → Heap → Prop} (hE : ai_XH E2) : ai_S E2 i_B_init f_B_init := snd_M (by decide) rfl (by decide) a_B_init kc_B_ok (by rfl) (by decide) (fun a i h => match a, h with
    | 0, h => by cases h; exact ⟨c_R_init hE, w_R_init⟩
    | 1, h => by cases h; exact ⟨c_P_init hE, w_P_init⟩
    | 2, h => by cases h; exact ⟨c_M_init hE, w_M_init⟩
    | 3, h => by cases h; exact ⟨c_A_init hE, w_A_init⟩
    | 4, h => by cases h; exact ⟨c_S_init hE, w_S_init⟩
    | 5, h => by cases h; exact ⟨c_T_init hE, w_T_init⟩
    | 6, h => by cases h; exact ⟨c_U_init hE, w_U_init⟩
    | 7, h => by cases h; exact ⟨c_L_init hE, w_L_init⟩
    | 8, h => by cases h; exact ⟨c_X_init hE, w_X_init⟩
    | 9, h => by cases h; exact ⟨c_B_settle hE, w_B_settle⟩
    | _ + 10, h => by simp [cal_B_init, ai_nth] at h)
def k_N_states : ai_C := [
  [(0, .aload_n 0, 1, 0, 0, 0, 0, 0, []), (1, .getfield 13, 3, 12, 3, 0, 2, 3, []), (4, .iconst 0, 1, 0, 0, 0, 0, 0, []), (5, .iaload, 1, 0, 0, 0, 0, 0, []), (6, .ireturn, 1, 0, 0, 0, 0, 0, [])]]
def i_N_states : ai_I := ((⟨"SuiteBenchModel", "states", "()I"⟩, prog_14_method_29_code, 1, (some .int), 0, 0, 0, 0, 0, 0, 12) : ai_I)
def o_N_states (_ : Nat) : SP := fun _ _ _ _ _ => False
theorem mo_N_states : ∀ a, ai_mono (o_N_states a) := fun _ _ _ _ _ _ _ _ h => h
def f_N_states : SP := ai_M o_N_states 0 1 k_N_states
theorem mf_N_states : ai_mono f_N_states := M_mono mo_N_states
abbrev cal_N_states : List ai_I := []
theorem a_N_states : ai_all "SuiteBenchModel" prog_14_method_29_code 1 kc_N cal_N_states 0 0 false (some .int) k_N_states = true := by decide +kernel
theorem w_N_states : ai_CW i_N_states := ⟨(tk_mem (l := [((Jvm.Cond.code ({ cls := "SuiteBenchModel", name := "states", desc := "()I" } : Jvm.MethodName) prog_14_method_29_code (1 : Nat) (Option.some Jvm.ClassFile.FieldType.int)), 7, 47)]) (by decide +kernel) _ (List.mem_singleton.mpr rfl)), (tk_mem (l := [((Jvm.Cond.initialized "SuiteBenchModel"), 1, 15)]) (by decide +kernel) _ (List.mem_singleton.mpr rfl)), ⟨by decide +kernel, by decide +kernel, by decide +kernel⟩, ⟨(tk_mem (l := [((Jvm.Cond.instanceMethod ({ cls := "SuiteBenchModel", name := "states", desc := "()I" } : Jvm.MethodName)), 7, 46)]) (by decide +kernel) _ (List.mem_singleton.mpr rfl)), gw_sel 67 (by decide +kernel), .inl ⟨_, _, rfl⟩⟩⟩
theorem c_N_states {E2 : (Nat → Nat) → State → Heap → Prop} (hE : ai_XH E2) : ai_S E2 i_N_states f_N_states := snd_M (by decide) rfl (by decide) a_N_states kc_N_ok (by rfl) (by decide) (fun a i h => by simp [cal_N_states, ai_nth] at h)
def k_N_inputs : ai_C := [
  [(0, .aload_n 0, 1, 0, 0, 0, 0, 0, []), (1, .getfield 13, 3, 12, 3, 0, 2, 3, []), (4, .iconst 1, 1, 0, 0, 0, 0, 1, []), (5, .iaload, 1, 0, 0, 0, 0, 0, []), (6, .ireturn, 1, 0, 0, 0, 0, 0, [])]]
def i_N_inputs : ai_I := ((⟨"SuiteBenchModel", "inputs", "()I"⟩, prog_14_method_30_code, 1, (some .int), 0, 0, 0, 0, 0, 0, 12) : ai_I)
def o_N_inputs (_ : Nat) : SP := fun _ _ _ _ _ => False
theorem mo_N_inputs : ∀ a, ai_mono (o_N_inputs a) := fun _ _ _ _ _ _ _ _ h => h
def f_N_inputs : SP := ai_M o_N_inputs 0 1 k_N_inputs
theorem mf_N_inputs : ai_mono f_N_inputs := M_mono mo_N_inputs
abbrev cal_N_inputs : List ai_I := []
theorem a_N_inputs : ai_all "SuiteBenchModel" prog_14_method_30_code 1 kc_N cal_N_inputs 0 0 false (some .int) k_N_inputs = true := by decide +kernel
theorem w_N_inputs : ai_CW i_N_inputs := ⟨(tk_mem (l := [((Jvm.Cond.code ({ cls := "SuiteBenchModel", name := "inputs", desc := "()I" } : Jvm.MethodName) prog_14_method_30_code (1 : Nat) (Option.some Jvm.ClassFile.FieldType.int)), 7, 55)]) (by decide +kernel) _ (List.mem_singleton.mpr rfl)), (tk_mem (l := [((Jvm.Cond.initialized "SuiteBenchModel"), 1, 15)]) (by decide +kernel) _ (List.mem_singleton.mpr rfl)), ⟨by decide +kernel, by decide +kernel, by decide +kernel⟩, ⟨(tk_mem (l := [((Jvm.Cond.instanceMethod ({ cls := "SuiteBenchModel", name := "inputs", desc := "()I" } : Jvm.MethodName)), 7, 54)]) (by decide +kernel) _ (List.mem_singleton.mpr rfl)), gw_sel 69 (by decide +kernel), .inl ⟨_, _, rfl⟩⟩⟩
theorem c_N_inputs {E2 : (Nat → Nat) → State → Heap → Prop} (hE : ai_XH E2) : ai_S E2 i_N_inputs f_N_inputs := snd_M (by decide) rfl (by decide) a_N_inputs kc_N_ok (by rfl) (by decide) (fun a i h => by simp [cal_N_inputs, ai_nth] at h)
def k_N_isReached : ai_C := [
  [(0, .aload_n 0, 1, 0, 0, 0, 0, 0, []), (1, .getfield 44, 3, 12, 22, 1, 2, 22, []), (4, .iload_n 1, 1, 1, 0, 0, 0, 0, []), (5, .iaload, 1, 0, 0, 0, 0, 0, []), (6, .ifCond .lt 7, 3, 13, 0, 0, 0, 0, []), (9, .iconst 1, 1, 0, 0, 0, 0, 1, []), (10, .goto 4, 3, 14, 0, 0, 0, 0, []), (13, .iconst 0, 1, 0, 0, 0, 0, 0, []), (14, .ireturn, 1, 0, 0, 0, 3, 0, [])]]
def i_N_isReached : ai_I := ((⟨"SuiteBenchModel", "isReached", "(I)Z"⟩, prog_14_method_48_code, 2, (some .boolean), 3, 0, 0, 0, 1, 0, 12) : ai_I)
def o_N_isReached (_ : Nat) : SP := fun _ _ _ _ _ => False
theorem mo_N_isReached : ∀ a, ai_mono (o_N_isReached a) := fun _ _ _ _ _ _ _ _ h => h
def f_N_isReached : SP := ai_M o_N_isReached 0 2 k_N_isReached
theorem mf_N_isReached : ai_mono f_N_isReached := M_mono mo_N_isReached
abbrev cal_N_isReached : List ai_I := []
theorem a_N_isReached : ai_all "SuiteBenchModel" prog_14_method_48_code 2 kc_N cal_N_isReached 0 0 false (some .boolean) k_N_isReached = true := by decide +kernel
theorem w_N_isReached : ai_CW i_N_isReached := ⟨(tk_mem (l := [((Jvm.Cond.code ({ cls := "SuiteBenchModel", name := "isReached", desc := "(I)Z" } : Jvm.MethodName) prog_14_method_48_code (2 : Nat) (Option.some Jvm.ClassFile.FieldType.boolean)), 7, 59)]) (by decide +kernel) _ (List.mem_singleton.mpr rfl)), (tk_mem (l := [((Jvm.Cond.initialized "SuiteBenchModel"), 1, 15)]) (by decide +kernel) _ (List.mem_singleton.mpr rfl)), ⟨by decide +kernel, by decide +kernel, by decide +kernel⟩, ⟨(tk_mem (l := [((Jvm.Cond.instanceMethod ({ cls := "SuiteBenchModel", name := "isReached", desc := "(I)Z" } : Jvm.MethodName)), 7, 58)]) (by decide +kernel) _ (List.mem_singleton.mpr rfl)), gw_sel 70 (by decide +kernel), .inl ⟨_, _, rfl⟩⟩⟩
theorem c_N_isReached {E2 : (Nat → Nat) → State → Heap → Prop} (hE : ai_XH E2) : ai_S E2 i_N_isReached f_N_isReached := snd_M (by decide) rfl (by decide) a_N_isReached kc_N_ok (by rfl) (by decide) (fun a i h => by simp [cal_N_isReached, ai_nth] at h)
def k_N_laysAccess : ai_C := [
  [(0, .iconst 0, 1, 0, 0, 0, 0, 0, []), (1, .istore_n 1, 1, 1, 0, 0, 0, 0, []), (2, .iload_n 1, 1, 1, 0, 0, 0, 0, []), (3, .bipush 6, 2, 0, 0, 0, 0, 6, []), (5, .if_icmp .ge 32, 3, 37, 0, 0, 0, 0, []), (8, .aload_n 0, 1, 0, 0, 0, 0, 0, []), (9, .getfield 44, 3, 12, 22, 1, 2, 22, []), (12, .iload_n 1, 1, 1, 0, 0, 0, 0, []), (13, .iload_n 1, 1, 1, 0, 0, 0, 0, []), (14, .ifCond .ne 14, 3, 28, 0, 0, 0, 0, [])],
  [(17, .aload_n 0, 1, 0, 0, 0, 0, 0, []), (18, .invokevirtual 272, 3, 0, 1, 2, 0, 0, [(0, 12)]), (21, .ifCond .le 7, 3, 28, 0, 0, 0, 0, []), (24, .iconst 0, 1, 0, 0, 0, 0, 0, []), (25, .goto 5, 3, 30, 0, 0, 0, 0, []), (28, .bipush (-2), 2, 0, 0, 0, 0, (-2), []), (30, .iastore, 1, 0, 0, 0, 0, 0, []), (31, .iinc 1 1, 3, 1, 0, 0, 0, 1, [])],
  [(34, .goto (-32), 3, 2, 0, 0, 0, 0, []), (37, .iconst 0, 1, 0, 0, 0, 0, 0, []), (38, .istore_n 1, 1, 1, 0, 0, 0, 0, []), (39, .iload_n 1, 1, 1, 0, 0, 0, 0, []), (40, .bipush 6, 2, 0, 0, 0, 0, 6, []), (42, .if_icmp .ge 109, 3, 151, 0, 0, 0, 0, []), (45, .iconst 0, 1, 0, 0, 0, 0, 0, []), (46, .istore_n 2, 1, 2, 0, 0, 0, 0, []), (47, .iload_n 2, 1, 2, 0, 0, 0, 0, [])],
  [(48, .aload_n 0, 1, 0, 0, 0, 0, 0, []), (49, .invokevirtual 272, 3, 0, 1, 2, 0, 0, [(0, 12)]), (52, .if_icmp .ge 93, 3, 145, 0, 0, 0, 0, []), (55, .iconst 0, 1, 0, 0, 0, 0, 0, []), (56, .istore_n 3, 1, 3, 0, 0, 0, 0, []), (57, .iload_n 3, 1, 3, 0, 0, 0, 0, []), (58, .aload_n 0, 1, 0, 0, 0, 0, 0, []), (59, .invokevirtual 269, 3, 1, 1, 3, 0, 0, [(0, 12)]), (62, .if_icmp .ge 77, 3, 139, 0, 0, 0, 0, [])],
  [(65, .aload_n 0, 1, 0, 0, 0, 0, 0, []), (66, .getfield 44, 3, 12, 22, 1, 2, 22, []), (69, .iload_n 2, 1, 2, 0, 0, 0, 0, []), (70, .iaload, 1, 0, 0, 0, 0, 0, []), (71, .ifCond .lt 68, 3, 139, 0, 0, 0, 0, []), (74, .aload_n 0, 1, 0, 0, 0, 0, 0, []), (75, .getfield 38, 3, 12, 20, 4, 2, 20, []), (78, .iconst 0, 1, 0, 0, 0, 0, 0, []), (79, .iconst 3, 1, 0, 0, 0, 0, 3, [])],
  [(80, .iload_n 2, 1, 2, 0, 0, 0, 0, []), (81, .imul, 1, 0, 0, 0, 0, 0, []), (82, .iadd, 1, 0, 0, 0, 0, 0, []), (83, .iload_n 3, 1, 3, 0, 0, 0, 0, []), (84, .iadd, 1, 0, 0, 0, 0, 0, []), (85, .iaload, 1, 0, 0, 0, 0, 0, []), (86, .istore 4, 2, 4, 0, 0, 0, 0, []), (88, .iconst 4, 1, 0, 0, 0, 0, 4, []), (89, .aload_n 0, 1, 0, 0, 0, 0, 0, []), (90, .getfield 44, 3, 12, 22, 1, 2, 22, []), (93, .iload_n 2, 1, 2, 0, 0, 0, 0, []), (94, .iaload, 1, 0, 0, 0, 0, 0, []), (95, .imul, 1, 0, 0, 0, 0, 0, [])],
  [(96, .iload_n 3, 1, 3, 0, 0, 0, 0, []), (97, .iadd, 1, 0, 0, 0, 0, 0, []), (98, .iconst 1, 1, 0, 0, 0, 0, 1, []), (99, .iadd, 1, 0, 0, 0, 0, 0, []), (100, .istore 5, 2, 5, 0, 0, 0, 0, []), (102, .aload_n 0, 1, 0, 0, 0, 0, 0, []), (103, .getfield 44, 3, 12, 22, 1, 2, 22, []), (106, .iload 4, 2, 4, 0, 0, 0, 0, []), (108, .iaload, 1, 0, 0, 0, 0, 0, []), (109, .ifCond .lt 15, 3, 124, 0, 0, 0, 0, [])],
  [(112, .iload 5, 2, 5, 0, 0, 0, 0, []), (114, .aload_n 0, 1, 0, 0, 0, 0, 0, []), (115, .getfield 44, 3, 12, 22, 1, 2, 22, []), (118, .iload 4, 2, 4, 0, 0, 0, 0, []), (120, .iaload, 1, 0, 0, 0, 0, 0, []), (121, .if_icmp .ge 12, 3, 133, 0, 0, 0, 0, []), (124, .aload_n 0, 1, 0, 0, 0, 0, 0, []), (125, .getfield 44, 3, 12, 22, 1, 2, 22, [])],
  [(128, .iload 4, 2, 4, 0, 0, 0, 0, []), (130, .iload 5, 2, 5, 0, 0, 0, 0, []), (132, .iastore, 1, 0, 0, 0, 0, 0, []), (133, .iinc 3 1, 3, 3, 0, 0, 0, 1, []), (136, .goto (-79), 3, 57, 0, 0, 0, 0, []), (139, .iinc 2 1, 3, 2, 0, 0, 0, 1, []), (142, .goto (-95), 3, 47, 0, 0, 0, 0, [])],
  [(145, .iinc 1 1, 3, 1, 0, 0, 0, 1, []), (148, .goto (-109), 3, 39, 0, 0, 0, 0, []), (151, .aload_n 0, 1, 0, 0, 0, 0, 0, []), (152, .iconst 0, 1, 0, 0, 0, 0, 0, []), (153, .putfield 328, 3, 12, 23, 5, 0, 23, []), (156, .iconst 0, 1, 0, 0, 0, 0, 0, []), (157, .istore_n 1, 1, 1, 0, 0, 0, 0, []), (158, .iload_n 1, 1, 1, 0, 0, 0, 0, []), (159, .aload_n 0, 1, 0, 0, 0, 0, 0, [])],
  [(160, .invokevirtual 272, 3, 0, 1, 2, 0, 0, [(0, 12)]), (163, .if_icmp .ge 31, 3, 194, 0, 0, 0, 0, []), (166, .aload_n 0, 1, 0, 0, 0, 0, 0, []), (167, .dup, 1, 0, 0, 0, 0, 0, []), (168, .getfield 328, 3, 12, 23, 5, 0, 23, []), (171, .aload_n 0, 1, 0, 0, 0, 0, 0, []), (172, .iload_n 1, 1, 1, 0, 0, 0, 0, []), (173, .invokevirtual 331, 3, 2, 2, 6, 0, 0, [(0, 12)])],
  [(176, .ifCond .eq 7, 3, 183, 0, 0, 0, 0, []), (179, .iconst 1, 1, 0, 0, 0, 0, 1, []), (180, .goto 4, 3, 184, 0, 0, 0, 0, []), (183, .iconst 0, 1, 0, 0, 0, 0, 0, []), (184, .iadd, 1, 0, 0, 0, 0, 0, []), (185, .putfield 328, 3, 12, 23, 5, 0, 23, []), (188, .iinc 1 1, 3, 1, 0, 0, 0, 1, []), (191, .goto (-33), 3, 158, 0, 0, 0, 0, [])],
  [(194, .return_, 1, 0, 0, 0, 0, 0, [])]]
def i_N_laysAccess : ai_I := ((⟨"SuiteBenchModel", "laysAccess", "()V"⟩, prog_14_method_49_code, 6, none, 9, 1, 21, 0, 0, 0, 12) : ai_I)
def o_N_laysAccess (a : Nat) : SP := match a with
  | 0 => f_N_states
  | 1 => f_N_inputs
  | 2 => f_N_isReached
  | _ => fun _ _ _ _ _ => False
theorem mo_N_laysAccess : ∀ a, ai_mono (o_N_laysAccess a)
  | 0 => mf_N_states
  | 1 => mf_N_inputs
  | 2 => mf_N_isReached
  | _ + 3 => fun _ _ _ _ _ _ _ h => h
def f_N_laysAccess : SP := ai_M o_N_laysAccess 0 6 k_N_laysAccess
theorem mf_N_laysAccess : ai_mono f_N_laysAccess := M_mono mo_N_laysAccess
abbrev cal_N_laysAccess : List ai_I := [i_N_states, i_N_inputs, i_N_isReached]
theorem a_N_laysAccess : ai_all "SuiteBenchModel" prog_14_method_49_code 6 kc_N cal_N_laysAccess 1 21 false none k_N_laysAccess = true := by decide +kernel
theorem w_N_laysAccess : ai_CW i_N_laysAccess := ⟨(tk_mem (l := [((Jvm.Cond.code ({ cls := "SuiteBenchModel", name := "laysAccess", desc := "()V" } : Jvm.MethodName) prog_14_method_49_code (6 : Nat) (Option.none : Option Jvm.ClassFile.FieldType)), 7, 51)]) (by decide +kernel) _ (List.mem_singleton.mpr rfl)), (tk_mem (l := [((Jvm.Cond.initialized "SuiteBenchModel"), 1, 15)]) (by decide +kernel) _ (List.mem_singleton.mpr rfl)), ⟨by decide +kernel, by decide +kernel, by decide +kernel⟩, ⟨(tk_mem (l := [((Jvm.Cond.instanceMethod ({ cls := "SuiteBenchModel", name := "laysAccess", desc := "()V" } : Jvm.MethodName)), 7, 50)]) (by decide +kernel) _ (List.mem_singleton.mpr rfl)), gw_sel 68 (by decide +kernel), .inl ⟨_, _, rfl⟩⟩⟩
theorem c_N_laysAccess {E2 : (Nat → Nat) → State → Heap → Prop} (hE : ai_XH E2) : ai_S E2 i_N_laysAccess f_N_laysAccess := snd_M (by decide) rfl (by decide) a_N_laysAccess kc_N_ok (by rfl) (by decide) (fun a i h => match a, h with
    | 0, h => by cases h; exact ⟨c_N_states hE, w_N_states⟩
    | 1, h => by cases h; exact ⟨c_N_inputs hE, w_N_inputs⟩
    | 2, h => by cases h; exact ⟨c_N_isReached hE, w_N_isReached⟩
    | _ + 3, h => by simp [cal_N_laysAccess, ai_nth] at h)
def k_N_unlike : ai_C := [
  [(0, .iconst 0, 1, 0, 0, 0, 0, 0, []), (1, .istore 5, 2, 5, 0, 0, 0, 0, []), (3, .iload 5, 2, 5, 0, 0, 0, 0, []), (5, .bipush 64, 2, 0, 0, 0, 0, 64, []), (7, .if_icmp .ge 17, 3, 24, 0, 0, 0, 0, []), (10, .aload_n 0, 1, 0, 0, 0, 0, 0, []), (11, .getfield 53, 3, 12, 26, 7, 2, 26, []), (14, .iload 5, 2, 5, 0, 0, 0, 0, [])],
  [(16, .iconst 0, 1, 0, 0, 0, 0, 0, []), (17, .bastore, 1, 0, 0, 0, 52, 0, []), (18, .iinc 5 1, 3, 5, 0, 0, 0, 1, []), (21, .goto (-18), 3, 3, 0, 0, 0, 0, []), (24, .aload_n 0, 1, 0, 0, 0, 0, 0, []), (25, .getfield 47, 3, 12, 24, 8, 2, 24, []), (28, .iconst 0, 1, 0, 0, 0, 0, 0, []), (29, .bipush 8, 2, 0, 0, 0, 0, 8, []), (31, .iload_n 2, 1, 2, 0, 0, 0, 0, [])],
  [(32, .imul, 1, 0, 0, 0, 0, 0, []), (33, .iload 4, 2, 4, 0, 0, 0, 0, []), (35, .iadd, 1, 0, 0, 0, 0, 0, []), (36, .iastore, 1, 0, 0, 0, 0, 0, []), (37, .aload_n 0, 1, 0, 0, 0, 0, 0, []), (38, .getfield 50, 3, 12, 25, 9, 2, 25, []), (41, .iconst 0, 1, 0, 0, 0, 0, 0, []), (42, .iconst 0, 1, 0, 0, 0, 0, 0, []), (43, .iastore, 1, 0, 0, 0, 0, 0, []), (44, .aload_n 0, 1, 0, 0, 0, 0, 0, []), (45, .getfield 53, 3, 12, 26, 7, 2, 26, [])],
  [(48, .aload_n 0, 1, 0, 0, 0, 0, 0, []), (49, .getfield 47, 3, 12, 24, 8, 2, 24, []), (52, .iconst 0, 1, 0, 0, 0, 0, 0, []), (53, .iaload, 1, 0, 0, 0, 0, 0, []), (54, .iconst 1, 1, 0, 0, 0, 0, 1, []), (55, .bastore, 1, 0, 0, 0, 52, 0, []), (56, .iconst 1, 1, 0, 0, 0, 0, 1, []), (57, .istore 5, 2, 5, 0, 0, 0, 0, []), (59, .iconst 0, 1, 0, 0, 0, 0, 0, []), (60, .istore 6, 2, 6, 0, 0, 0, 0, []), (62, .iload 6, 2, 6, 0, 0, 0, 0, [])],
  [(64, .iload 5, 2, 5, 0, 0, 0, 0, []), (66, .if_icmp .ge 163, 3, 229, 0, 0, 0, 0, []), (69, .iconst 0, 1, 0, 0, 0, 0, 0, []), (70, .istore 7, 2, 7, 0, 0, 0, 0, []), (72, .iload 7, 2, 7, 0, 0, 0, 0, []), (74, .aload_n 0, 1, 0, 0, 0, 0, 0, []), (75, .invokevirtual 269, 3, 0, 1, 3, 0, 0, [(0, 12)]), (78, .if_icmp .ge 145, 3, 223, 0, 0, 0, 0, [])],
  [(81, .iload_n 1, 1, 1, 0, 0, 0, 0, []), (82, .iconst 3, 1, 0, 0, 0, 0, 3, []), (83, .aload_n 0, 1, 0, 0, 0, 0, 0, []), (84, .getfield 47, 3, 12, 24, 8, 2, 24, []), (87, .iload 6, 2, 6, 0, 0, 0, 0, []), (89, .iaload, 1, 0, 0, 0, 0, 0, []), (90, .bipush 8, 2, 0, 0, 0, 0, 8, []), (92, .idiv, 1, 0, 0, 0, 0, 0, []), (93, .imul, 1, 0, 0, 0, 0, 0, []), (94, .iadd, 1, 0, 0, 0, 0, 0, []), (95, .iload 7, 2, 7, 0, 0, 0, 0, [])],
  [(97, .iadd, 1, 0, 0, 0, 0, 0, []), (98, .istore 8, 2, 8, 0, 0, 0, 0, []), (100, .iload_n 3, 1, 3, 0, 0, 0, 0, []), (101, .iconst 3, 1, 0, 0, 0, 0, 3, []), (102, .aload_n 0, 1, 0, 0, 0, 0, 0, []), (103, .getfield 47, 3, 12, 24, 8, 2, 24, []), (106, .iload 6, 2, 6, 0, 0, 0, 0, []), (108, .iaload, 1, 0, 0, 0, 0, 0, []), (109, .bipush 8, 2, 0, 0, 0, 0, 8, []), (111, .irem, 1, 0, 0, 0, 0, 0, [])],
  [(112, .imul, 1, 0, 0, 0, 0, 0, []), (113, .iadd, 1, 0, 0, 0, 0, 0, []), (114, .iload 7, 2, 7, 0, 0, 0, 0, []), (116, .iadd, 1, 0, 0, 0, 0, 0, []), (117, .istore 9, 2, 9, 0, 0, 0, 0, []), (119, .iconst 4, 1, 0, 0, 0, 0, 4, []), (120, .aload_n 0, 1, 0, 0, 0, 0, 0, []), (121, .getfield 50, 3, 12, 25, 9, 2, 25, []), (124, .iload 6, 2, 6, 0, 0, 0, 0, []), (126, .iaload, 1, 0, 0, 0, 0, 0, []), (127, .imul, 1, 0, 0, 0, 0, 0, [])],
  [(128, .iload 7, 2, 7, 0, 0, 0, 0, []), (130, .iadd, 1, 0, 0, 0, 0, 0, []), (131, .iconst 1, 1, 0, 0, 0, 0, 1, []), (132, .iadd, 1, 0, 0, 0, 0, 0, []), (133, .istore 10, 2, 10, 0, 0, 0, 0, []), (135, .aload_n 0, 1, 0, 0, 0, 0, 0, []), (136, .getfield 41, 3, 12, 21, 10, 2, 21, []), (139, .iload 8, 2, 8, 0, 0, 0, 0, []), (141, .iaload, 1, 0, 0, 0, 0, 0, []), (142, .aload_n 0, 1, 0, 0, 0, 0, 0, []), (143, .getfield 41, 3, 12, 21, 10, 2, 21, [])],
  [(146, .iload 9, 2, 9, 0, 0, 0, 0, []), (148, .iaload, 1, 0, 0, 0, 0, 0, []), (149, .if_icmp .eq 6, 3, 155, 0, 0, 0, 0, []), (152, .iload 10, 2, 10, 0, 0, 0, 0, []), (154, .ireturn, 1, 0, 0, 0, 0, 0, []), (155, .bipush 8, 2, 0, 0, 0, 0, 8, []), (157, .aload_n 0, 1, 0, 0, 0, 0, 0, []), (158, .getfield 38, 3, 12, 20, 4, 2, 20, [])],
  [(161, .iload 8, 2, 8, 0, 0, 0, 0, []), (163, .iaload, 1, 0, 0, 0, 0, 0, []), (164, .imul, 1, 0, 0, 0, 0, 0, []), (165, .aload_n 0, 1, 0, 0, 0, 0, 0, []), (166, .getfield 38, 3, 12, 20, 4, 2, 20, []), (169, .iload 9, 2, 9, 0, 0, 0, 0, []), (171, .iaload, 1, 0, 0, 0, 0, 0, []), (172, .iadd, 1, 0, 0, 0, 0, 0, []), (173, .istore 11, 2, 11, 0, 0, 0, 0, []), (175, .aload_n 0, 1, 0, 0, 0, 0, 0, [])],
  [(176, .getfield 53, 3, 12, 26, 7, 2, 26, []), (179, .iload 11, 2, 11, 0, 0, 0, 0, []), (181, .baload, 1, 0, 0, 0, 52, 0, []), (182, .ifCond .eq 6, 3, 188, 0, 0, 0, 0, []), (185, .goto 32, 3, 217, 0, 0, 0, 0, []), (188, .aload_n 0, 1, 0, 0, 0, 0, 0, []), (189, .getfield 53, 3, 12, 26, 7, 2, 26, [])],
  [(192, .iload 11, 2, 11, 0, 0, 0, 0, []), (194, .iconst 1, 1, 0, 0, 0, 0, 1, []), (195, .bastore, 1, 0, 0, 0, 52, 0, []), (196, .aload_n 0, 1, 0, 0, 0, 0, 0, []), (197, .getfield 47, 3, 12, 24, 8, 2, 24, []), (200, .iload 5, 2, 5, 0, 0, 0, 0, []), (202, .iload 11, 2, 11, 0, 0, 0, 0, []), (204, .iastore, 1, 0, 0, 0, 0, 0, []), (205, .aload_n 0, 1, 0, 0, 0, 0, 0, []), (206, .getfield 50, 3, 12, 25, 9, 2, 25, [])],
  [(209, .iload 5, 2, 5, 0, 0, 0, 0, []), (211, .iload 10, 2, 10, 0, 0, 0, 0, []), (213, .iastore, 1, 0, 0, 0, 0, 0, []), (214, .iinc 5 1, 3, 5, 0, 0, 0, 1, []), (217, .iinc 7 1, 3, 7, 0, 0, 0, 1, []), (220, .goto (-148), 3, 72, 0, 0, 0, 0, []), (223, .iinc 6 1, 3, 6, 0, 0, 0, 1, [])],
  [(226, .goto (-164), 3, 62, 0, 0, 0, 0, []), (229, .bipush (-2), 2, 0, 0, 0, 0, (-2), []), (231, .ireturn, 1, 0, 0, 0, 0, 0, [])]]
def i_N_unlike : ai_I := ((⟨"SuiteBenchModel", "unlike", "(IIII)I"⟩, prog_14_method_50_code, 12, (some .int), 0, 1, 20, 0, 4, 0, 12) : ai_I)
def o_N_unlike (a : Nat) : SP := match a with
  | 0 => f_N_inputs
  | _ => fun _ _ _ _ _ => False
theorem mo_N_unlike : ∀ a, ai_mono (o_N_unlike a)
  | 0 => mf_N_inputs
  | _ + 1 => fun _ _ _ _ _ _ _ h => h
def f_N_unlike : SP := ai_M o_N_unlike 0 12 k_N_unlike
theorem mf_N_unlike : ai_mono f_N_unlike := M_mono mo_N_unlike
abbrev cal_N_unlike : List ai_I := [i_N_inputs]
theorem a_N_unlike : ai_all "SuiteBenchModel" prog_14_method_50_code 12 kc_N cal_N_unlike 1 20 false (some .int) k_N_unlike = true := by decide +kernel
theorem w_N_unlike : ai_CW i_N_unlike := ⟨(tk_mem (l := [((Jvm.Cond.code ({ cls := "SuiteBenchModel", name := "unlike", desc := "(IIII)I" } : Jvm.MethodName) prog_14_method_50_code (12 : Nat) (Option.some Jvm.ClassFile.FieldType.int)), 7, 67)]) (by decide +kernel) _ (List.mem_singleton.mpr rfl)), (tk_mem (l := [((Jvm.Cond.initialized "SuiteBenchModel"), 1, 15)]) (by decide +kernel) _ (List.mem_singleton.mpr rfl)), ⟨by decide +kernel, by decide +kernel, by decide +kernel⟩, ⟨(tk_mem (l := [((Jvm.Cond.instanceMethod ({ cls := "SuiteBenchModel", name := "unlike", desc := "(IIII)I" } : Jvm.MethodName)), 7, 66)]) (by decide +kernel) _ (List.mem_singleton.mpr rfl)), gw_sel 72 (by decide +kernel), .inl ⟨_, _, rfl⟩⟩⟩
theorem c_N_unlike {E2 : (Nat → Nat) → State → Heap → Prop} (hE : ai_XH E2) : ai_S E2 i_N_unlike f_N_unlike := snd_M (by decide) rfl (by decide) a_N_unlike kc_N_ok (by rfl) (by decide) (fun a i h => match a, h with
    | 0, h => by cases h; exact ⟨c_N_inputs hE, w_N_inputs⟩
    | _ + 1, h => by simp [cal_N_unlike, ai_nth] at h)
def k_N_laysSeparators : ai_C := [
  [(0, .iconst 0, 1, 0, 0, 0, 0, 0, []), (1, .istore_n 1, 1, 1, 0, 0, 0, 0, []), (2, .iload_n 1, 1, 1, 0, 0, 0, 0, []), (3, .aload_n 0, 1, 0, 0, 0, 0, 0, []), (4, .invokevirtual 272, 3, 0, 1, 2, 0, 0, [(0, 12)]), (7, .if_icmp .ge 44, 3, 51, 0, 0, 0, 0, []), (10, .iconst 0, 1, 0, 0, 0, 0, 0, []), (11, .istore_n 2, 1, 2, 0, 0, 0, 0, []), (12, .iload_n 2, 1, 2, 0, 0, 0, 0, []), (13, .aload_n 0, 1, 0, 0, 0, 0, 0, []), (14, .invokevirtual 272, 3, 0, 1, 2, 0, 0, [(0, 12)])],
  [(17, .if_icmp .ge 28, 3, 45, 0, 0, 0, 0, []), (20, .aload_n 0, 1, 0, 0, 0, 0, 0, []), (21, .getfield 57, 3, 12, 27, 11, 2, 27, []), (24, .bipush 6, 2, 0, 0, 0, 0, 6, []), (26, .iload_n 1, 1, 1, 0, 0, 0, 0, []), (27, .imul, 1, 0, 0, 0, 0, 0, []), (28, .iload_n 2, 1, 2, 0, 0, 0, 0, []), (29, .iadd, 1, 0, 0, 0, 0, 0, []), (30, .aload_n 0, 1, 0, 0, 0, 0, 0, []), (31, .iconst 0, 1, 0, 0, 0, 0, 0, [])],
  [(32, .iload_n 1, 1, 1, 0, 0, 0, 0, []), (33, .iconst 0, 1, 0, 0, 0, 0, 0, []), (34, .iload_n 2, 1, 2, 0, 0, 0, 0, []), (35, .invokevirtual 334, 3, 1, 5, 12, 0, 0, [(0, 12)]), (38, .iastore, 1, 0, 0, 0, 0, 0, []), (39, .iinc 2 1, 3, 2, 0, 0, 0, 1, []), (42, .goto (-30), 3, 12, 0, 0, 0, 0, []), (45, .iinc 1 1, 3, 1, 0, 0, 0, 1, [])],
  [(48, .goto (-46), 3, 2, 0, 0, 0, 0, []), (51, .return_, 1, 0, 0, 0, 0, 0, [])]]
def i_N_laysSeparators : ai_I := ((⟨"SuiteBenchModel", "laysSeparators", "()V"⟩, prog_14_method_51_code, 3, none, 9, 2, 51, 0, 0, 0, 12) : ai_I)
def o_N_laysSeparators (a : Nat) : SP := match a with
  | 0 => f_N_states
  | 1 => f_N_unlike
  | _ => fun _ _ _ _ _ => False
theorem mo_N_laysSeparators : ∀ a, ai_mono (o_N_laysSeparators a)
  | 0 => mf_N_states
  | 1 => mf_N_unlike
  | _ + 2 => fun _ _ _ _ _ _ _ h => h
def f_N_laysSeparators : SP := ai_M o_N_laysSeparators 0 3 k_N_laysSeparators
theorem mf_N_laysSeparators : ai_mono f_N_laysSeparators := M_mono mo_N_laysSeparators
abbrev cal_N_laysSeparators : List ai_I := [i_N_states, i_N_unlike]
theorem a_N_laysSeparators : ai_all "SuiteBenchModel" prog_14_method_51_code 3 kc_N cal_N_laysSeparators 2 51 false none k_N_laysSeparators = true := by decide +kernel
theorem w_N_laysSeparators : ai_CW i_N_laysSeparators := ⟨(tk_mem (l := [((Jvm.Cond.code ({ cls := "SuiteBenchModel", name := "laysSeparators", desc := "()V" } : Jvm.MethodName) prog_14_method_51_code (3 : Nat) (Option.none : Option Jvm.ClassFile.FieldType)), 7, 63)]) (by decide +kernel) _ (List.mem_singleton.mpr rfl)), (tk_mem (l := [((Jvm.Cond.initialized "SuiteBenchModel"), 1, 15)]) (by decide +kernel) _ (List.mem_singleton.mpr rfl)), ⟨by decide +kernel, by decide +kernel, by decide +kernel⟩, ⟨(tk_mem (l := [((Jvm.Cond.instanceMethod ({ cls := "SuiteBenchModel", name := "laysSeparators", desc := "()V" } : Jvm.MethodName)), 7, 62)]) (by decide +kernel) _ (List.mem_singleton.mpr rfl)), gw_sel 71 (by decide +kernel), .inl ⟨_, _, rfl⟩⟩⟩
theorem c_N_laysSeparators {E2 : (Nat → Nat) → State → Heap → Prop} (hE : ai_XH E2) : ai_S E2 i_N_laysSeparators f_N_laysSeparators := snd_M (by decide) rfl (by decide) a_N_laysSeparators kc_N_ok (by rfl) (by decide) (fun a i h => match a, h with
    | 0, h => by cases h; exact ⟨c_N_states hE, w_N_states⟩
    | 1, h => by cases h; exact ⟨c_N_unlike hE, w_N_unlike⟩
    | _ + 2, h => by simp [cal_N_laysSeparators, ai_nth] at h)
def k_N_long1 : ai_C := [
  [(0, .iconst 0, 1, 0, 0, 0, 0, 0, []), (1, .istore_n 1, 1, 1, 0, 0, 0, 0, []), (2, .iload_n 0, 1, 0, 0, 0, 0, 0, []), (3, .istore_n 2, 1, 2, 0, 0, 0, 0, []), (4, .iload_n 2, 1, 2, 0, 0, 0, 0, []), (5, .ifCond .le 13, 3, 18, 0, 0, 0, 0, []), (8, .iinc 1 1, 3, 1, 0, 0, 0, 1, []), (11, .iload_n 2, 1, 2, 0, 0, 0, 0, []), (12, .iconst 2, 1, 0, 0, 0, 0, 2, []), (13, .ishr, 1, 0, 0, 0, 0, 0, []), (14, .istore_n 2, 1, 2, 0, 0, 0, 0, []), (15, .goto (-11), 3, 4, 0, 0, 0, 0, [])],
  [(18, .iload_n 1, 1, 1, 0, 0, 0, 0, []), (19, .ireturn, 1, 0, 0, 0, 0, 0, [])]]
def i_N_long1 : ai_I := ((⟨"SuiteBenchModel", "long1", "(I)I"⟩, prog_14_method_35_code, 3, (some .int), 0, 0, 0, 0, 1, 1, 12) : ai_I)
def o_N_long1 (_ : Nat) : SP := fun _ _ _ _ _ => False
theorem mo_N_long1 : ∀ a, ai_mono (o_N_long1 a) := fun _ _ _ _ _ _ _ _ h => h
def f_N_long1 : SP := ai_M o_N_long1 0 3 k_N_long1
theorem mf_N_long1 : ai_mono f_N_long1 := M_mono mo_N_long1
abbrev cal_N_long1 : List ai_I := []
theorem a_N_long1 : ai_all "SuiteBenchModel" prog_14_method_35_code 3 kc_N cal_N_long1 0 0 false (some .int) k_N_long1 = true := by decide +kernel
theorem w_N_long1 : ai_CW i_N_long1 := ⟨(tk_mem (l := [((Jvm.Cond.code ({ cls := "SuiteBenchModel", name := "long1", desc := "(I)I" } : Jvm.MethodName) prog_14_method_35_code (3 : Nat) (Option.some Jvm.ClassFile.FieldType.int)), 7, 82)]) (by decide +kernel) _ (List.mem_singleton.mpr rfl)), (tk_mem (l := [((Jvm.Cond.initialized "SuiteBenchModel"), 1, 15)]) (by decide +kernel) _ (List.mem_singleton.mpr rfl)), ⟨by decide +kernel, by decide +kernel, by decide +kernel⟩, (tk_mem (l := [((Jvm.Cond.static ({ cls := "SuiteBenchModel", name := "long1", desc := "(I)I" } : Jvm.MethodName)), 7, 81)]) (by decide +kernel) _ (List.mem_singleton.mpr rfl))⟩
theorem c_N_long1 {E2 : (Nat → Nat) → State → Heap → Prop} (hE : ai_XH E2) : ai_S E2 i_N_long1 f_N_long1 := snd_M (by decide) rfl (by decide) a_N_long1 kc_N_ok (by rfl) (by decide) (fun a i h => by simp [cal_N_long1, ai_nth] at h)
def k_N_inputAt : ai_C := [
  [(0, .iload_n 0, 1, 0, 0, 0, 0, 0, []), (1, .iconst 2, 1, 0, 0, 0, 0, 2, []), (2, .iload_n 1, 1, 1, 0, 0, 0, 0, []), (3, .iconst 1, 1, 0, 0, 0, 0, 1, []), (4, .isub, 1, 0, 0, 0, 0, 0, []), (5, .iload_n 2, 1, 2, 0, 0, 0, 0, []), (6, .isub, 1, 0, 0, 0, 0, 0, []), (7, .imul, 1, 0, 0, 0, 0, 0, []), (8, .ishr, 1, 0, 0, 0, 0, 0, []), (9, .iconst 3, 1, 0, 0, 0, 0, 3, []), (10, .iand, 1, 0, 0, 0, 0, 0, []), (11, .iconst 1, 1, 0, 0, 0, 0, 1, []), (12, .isub, 1, 0, 0, 0, 0, 0, []), (13, .ireturn, 1, 0, 0, 0, 0, 0, [])]]
def i_N_inputAt : ai_I := ((⟨"SuiteBenchModel", "inputAt", "(III)I"⟩, prog_14_method_36_code, 3, (some .int), 0, 0, 0, 0, 3, 1, 12) : ai_I)
def o_N_inputAt (_ : Nat) : SP := fun _ _ _ _ _ => False
theorem mo_N_inputAt : ∀ a, ai_mono (o_N_inputAt a) := fun _ _ _ _ _ _ _ _ h => h
def f_N_inputAt : SP := ai_M o_N_inputAt 0 3 k_N_inputAt
theorem mf_N_inputAt : ai_mono f_N_inputAt := M_mono mo_N_inputAt
abbrev cal_N_inputAt : List ai_I := []
theorem a_N_inputAt : ai_all "SuiteBenchModel" prog_14_method_36_code 3 kc_N cal_N_inputAt 0 0 false (some .int) k_N_inputAt = true := by decide +kernel
theorem w_N_inputAt : ai_CW i_N_inputAt := ⟨(tk_mem (l := [((Jvm.Cond.code ({ cls := "SuiteBenchModel", name := "inputAt", desc := "(III)I" } : Jvm.MethodName) prog_14_method_36_code (3 : Nat) (Option.some Jvm.ClassFile.FieldType.int)), 7, 85)]) (by decide +kernel) _ (List.mem_singleton.mpr rfl)), (tk_mem (l := [((Jvm.Cond.initialized "SuiteBenchModel"), 1, 15)]) (by decide +kernel) _ (List.mem_singleton.mpr rfl)), ⟨by decide +kernel, by decide +kernel, by decide +kernel⟩, (tk_mem (l := [((Jvm.Cond.static ({ cls := "SuiteBenchModel", name := "inputAt", desc := "(III)I" } : Jvm.MethodName)), 7, 84)]) (by decide +kernel) _ (List.mem_singleton.mpr rfl))⟩
theorem c_N_inputAt {E2 : (Nat → Nat) → State → Heap → Prop} (hE : ai_XH E2) : ai_S E2 i_N_inputAt f_N_inputAt := snd_M (by decide) rfl (by decide) a_N_inputAt kc_N_ok (by rfl) (by decide) (fun a i h => by simp [cal_N_inputAt, ai_nth] at h)
def k_N_answers : ai_C := [
  [(0, .iload_n 3, 1, 3, 0, 0, 0, 0, []), (1, .invokestatic 298, 3, 0, 1, 13, 0, 0, [(0, 12)]), (4, .istore 4, 2, 4, 0, 0, 0, 0, []), (6, .iload_n 2, 1, 2, 0, 0, 0, 0, []), (7, .istore 5, 2, 5, 0, 0, 0, 0, []), (9, .lconst 0, 1, 0, 0, 0, 0, 0, []), (10, .lstore 6, 2, 6, 0, 0, 0, 0, []), (12, .iconst 0, 1, 0, 0, 0, 0, 0, []), (13, .istore 8, 2, 8, 0, 0, 0, 0, []), (15, .iload 8, 2, 8, 0, 0, 0, 0, [])],
  [(17, .iload 4, 2, 4, 0, 0, 0, 0, []), (19, .if_icmp .ge 52, 3, 71, 0, 0, 0, 0, []), (22, .iload_n 1, 1, 1, 0, 0, 0, 0, []), (23, .iconst 3, 1, 0, 0, 0, 0, 3, []), (24, .iload 5, 2, 5, 0, 0, 0, 0, []), (26, .imul, 1, 0, 0, 0, 0, 0, []), (27, .iadd, 1, 0, 0, 0, 0, 0, []), (28, .iload_n 3, 1, 3, 0, 0, 0, 0, []), (29, .iload 4, 2, 4, 0, 0, 0, 0, []), (31, .iload 8, 2, 8, 0, 0, 0, 0, [])],
  [(33, .invokestatic 301, 3, 1, 3, 14, 0, 0, [(0, 12)]), (36, .iadd, 1, 0, 0, 0, 0, 0, []), (37, .istore 9, 2, 9, 0, 0, 0, 0, []), (39, .ldc2_w 305, 3, 0, 0, 15, 0, 10, []), (42, .lload 6, 2, 6, 0, 0, 0, 0, []), (44, .lmul, 1, 0, 0, 0, 0, 0, []), (45, .aload_n 0, 1, 0, 0, 0, 0, 0, []), (46, .getfield 41, 3, 12, 21, 10, 2, 21, [])],
  [(49, .iload 9, 2, 9, 0, 0, 0, 0, []), (51, .iaload, 1, 0, 0, 0, 0, 0, []), (52, .i2l, 1, 0, 0, 0, 0, 0, []), (53, .ladd, 1, 0, 0, 0, 0, 0, []), (54, .lstore 6, 2, 6, 0, 0, 0, 0, []), (56, .aload_n 0, 1, 0, 0, 0, 0, 0, []), (57, .getfield 38, 3, 12, 20, 4, 2, 20, []), (60, .iload 9, 2, 9, 0, 0, 0, 0, []), (62, .iaload, 1, 0, 0, 0, 0, 0, []), (63, .istore 5, 2, 5, 0, 0, 0, 0, [])],
  [(65, .iinc 8 1, 3, 8, 0, 0, 0, 1, []), (68, .goto (-53), 3, 15, 0, 0, 0, 0, []), (71, .lload 6, 2, 6, 0, 0, 0, 0, []), (73, .lreturn, 1, 0, 0, 0, 0, 0, [])]]
def i_N_answers : ai_I := ((⟨"SuiteBenchModel", "answers", "(III)J"⟩, prog_14_method_39_code, 10, (some .long), 1, 1, 22, 0, 3, 0, 12) : ai_I)
def o_N_answers (a : Nat) : SP := match a with
  | 0 => f_N_long1
  | 1 => f_N_inputAt
  | _ => fun _ _ _ _ _ => False
theorem mo_N_answers : ∀ a, ai_mono (o_N_answers a)
  | 0 => mf_N_long1
  | 1 => mf_N_inputAt
  | _ + 2 => fun _ _ _ _ _ _ _ h => h
def f_N_answers : SP := ai_M o_N_answers 0 10 k_N_answers
theorem mf_N_answers : ai_mono f_N_answers := M_mono mo_N_answers
abbrev cal_N_answers : List ai_I := [i_N_long1, i_N_inputAt]
theorem a_N_answers : ai_all "SuiteBenchModel" prog_14_method_39_code 10 kc_N cal_N_answers 1 22 false (some .long) k_N_answers = true := by decide +kernel
theorem w_N_answers : ai_CW i_N_answers := ⟨(tk_mem (l := [((Jvm.Cond.code ({ cls := "SuiteBenchModel", name := "answers", desc := "(III)J" } : Jvm.MethodName) prog_14_method_39_code (10 : Nat) (Option.some Jvm.ClassFile.FieldType.long)), 7, 79)]) (by decide +kernel) _ (List.mem_singleton.mpr rfl)), (tk_mem (l := [((Jvm.Cond.initialized "SuiteBenchModel"), 1, 15)]) (by decide +kernel) _ (List.mem_singleton.mpr rfl)), ⟨by decide +kernel, by decide +kernel, by decide +kernel⟩, ⟨(tk_mem (l := [((Jvm.Cond.instanceMethod ({ cls := "SuiteBenchModel", name := "answers", desc := "(III)J" } : Jvm.MethodName)), 7, 78)]) (by decide +kernel) _ (List.mem_singleton.mpr rfl)), gw_sel 75 (by decide +kernel), .inl ⟨_, _, rfl⟩⟩⟩
theorem c_N_answers {E2 : (Nat → Nat) → State → Heap → Prop} (hE : ai_XH E2) : ai_S E2 i_N_answers f_N_answers := snd_M (by decide) rfl (by decide) a_N_answers kc_N_ok (by rfl) (by decide) (fun a i h => match a, h with
    | 0, h => by cases h; exact ⟨c_N_long1 hE, w_N_long1⟩
    | 1, h => by cases h; exact ⟨c_N_inputAt hE, w_N_inputAt⟩
    | _ + 2, h => by simp [cal_N_answers, ai_nth] at h)
def k_N_isSplit : ai_C := [
  [(0, .iconst 0, 1, 0, 0, 0, 0, 0, []), (1, .istore_n 3, 1, 3, 0, 0, 0, 0, []), (2, .iload_n 3, 1, 3, 0, 0, 0, 0, []), (3, .aload_n 0, 1, 0, 0, 0, 0, 0, []), (4, .getfield 341, 3, 12, 29, 16, 0, 29, []), (7, .if_icmp .ge 39, 3, 46, 0, 0, 0, 0, []), (10, .aload_n 0, 1, 0, 0, 0, 0, 0, []), (11, .iconst 0, 1, 0, 0, 0, 0, 0, []), (12, .iload_n 1, 1, 1, 0, 0, 0, 0, []), (13, .aload_n 0, 1, 0, 0, 0, 0, 0, []), (14, .getfield 60, 3, 12, 28, 17, 2, 28, [])],
  [(17, .iload_n 3, 1, 3, 0, 0, 0, 0, []), (18, .iaload, 1, 0, 0, 0, 0, 0, []), (19, .invokevirtual 319, 3, 0, 4, 18, 1, 0, [(0, 12)]), (22, .aload_n 0, 1, 0, 0, 0, 0, 0, []), (23, .iconst 0, 1, 0, 0, 0, 0, 0, []), (24, .iload_n 2, 1, 2, 0, 0, 0, 0, []), (25, .aload_n 0, 1, 0, 0, 0, 0, 0, []), (26, .getfield 60, 3, 12, 28, 17, 2, 28, []), (29, .iload_n 3, 1, 3, 0, 0, 0, 0, []), (30, .iaload, 1, 0, 0, 0, 0, 0, []), (31, .invokevirtual 319, 3, 0, 4, 18, 1, 0, [(0, 12)])],
  [(34, .lcmp, 1, 0, 0, 0, 0, 0, []), (35, .ifCond .eq 5, 3, 40, 0, 0, 0, 0, []), (38, .iconst 1, 1, 0, 0, 0, 0, 1, []), (39, .ireturn, 1, 0, 0, 0, 3, 0, []), (40, .iinc 3 1, 3, 3, 0, 0, 0, 1, []), (43, .goto (-41), 3, 2, 0, 0, 0, 0, []), (46, .iconst 0, 1, 0, 0, 0, 0, 0, []), (47, .ireturn, 1, 0, 0, 0, 3, 0, [])]]
def i_N_isSplit : ai_I := ((⟨"SuiteBenchModel", "isSplit", "(II)Z"⟩, prog_14_method_57_code, 4, (some .boolean), 3, 2, 51, 0, 2, 0, 12) : ai_I)
def o_N_isSplit (a : Nat) : SP := match a with
  | 0 => f_N_answers
  | _ => fun _ _ _ _ _ => False
theorem mo_N_isSplit : ∀ a, ai_mono (o_N_isSplit a)
  | 0 => mf_N_answers
  | _ + 1 => fun _ _ _ _ _ _ _ h => h
def f_N_isSplit : SP := ai_M o_N_isSplit 0 4 k_N_isSplit
theorem mf_N_isSplit : ai_mono f_N_isSplit := M_mono mo_N_isSplit
abbrev cal_N_isSplit : List ai_I := [i_N_answers]
theorem a_N_isSplit : ai_all "SuiteBenchModel" prog_14_method_57_code 4 kc_N cal_N_isSplit 2 51 false (some .boolean) k_N_isSplit = true := by decide +kernel
theorem w_N_isSplit : ai_CW i_N_isSplit := ⟨(tk_mem (l := [((Jvm.Cond.code ({ cls := "SuiteBenchModel", name := "isSplit", desc := "(II)Z" } : Jvm.MethodName) prog_14_method_57_code (4 : Nat) (Option.some Jvm.ClassFile.FieldType.boolean)), 7, 75)]) (by decide +kernel) _ (List.mem_singleton.mpr rfl)), (tk_mem (l := [((Jvm.Cond.initialized "SuiteBenchModel"), 1, 15)]) (by decide +kernel) _ (List.mem_singleton.mpr rfl)), ⟨by decide +kernel, by decide +kernel, by decide +kernel⟩, ⟨(tk_mem (l := [((Jvm.Cond.instanceMethod ({ cls := "SuiteBenchModel", name := "isSplit", desc := "(II)Z" } : Jvm.MethodName)), 7, 74)]) (by decide +kernel) _ (List.mem_singleton.mpr rfl)), gw_sel 74 (by decide +kernel), .inl ⟨_, _, rfl⟩⟩⟩
theorem c_N_isSplit {E2 : (Nat → Nat) → State → Heap → Prop} (hE : ai_XH E2) : ai_S E2 i_N_isSplit f_N_isSplit := snd_M (by decide) rfl (by decide) a_N_isSplit kc_N_ok (by rfl) (by decide) (fun a i h => match a, h with
    | 0, h => by cases h; exact ⟨c_N_answers hE, w_N_answers⟩
    | _ + 1, h => by simp [cal_N_isSplit, ai_nth] at h)
def k_N_laysSplitters : ai_C := [
  [(0, .aload_n 0, 1, 0, 0, 0, 0, 0, []), (1, .iconst 0, 1, 0, 0, 0, 0, 0, []), (2, .putfield 341, 3, 12, 29, 16, 0, 29, []), (5, .iconst 0, 1, 0, 0, 0, 0, 0, []), (6, .istore_n 1, 1, 1, 0, 0, 0, 0, []), (7, .iload_n 1, 1, 1, 0, 0, 0, 0, []), (8, .aload_n 0, 1, 0, 0, 0, 0, 0, []), (9, .invokevirtual 272, 3, 0, 1, 2, 0, 0, [(0, 12)]), (12, .if_icmp .ge 101, 3, 113, 0, 0, 0, 0, []), (15, .iload_n 1, 1, 1, 0, 0, 0, 0, [])],
  [(16, .iconst 1, 1, 0, 0, 0, 0, 1, []), (17, .iadd, 1, 0, 0, 0, 0, 0, []), (18, .istore_n 2, 1, 2, 0, 0, 0, 0, []), (19, .iload_n 2, 1, 2, 0, 0, 0, 0, []), (20, .aload_n 0, 1, 0, 0, 0, 0, 0, []), (21, .invokevirtual 272, 3, 0, 1, 2, 0, 0, [(0, 12)]), (24, .if_icmp .ge 83, 3, 107, 0, 0, 0, 0, []), (27, .aload_n 0, 1, 0, 0, 0, 0, 0, []), (28, .iload_n 1, 1, 1, 0, 0, 0, 0, []), (29, .invokevirtual 331, 3, 1, 2, 6, 0, 0, [(0, 12)])],
  [(32, .ifCond .eq 69, 3, 101, 0, 0, 0, 0, []), (35, .aload_n 0, 1, 0, 0, 0, 0, 0, []), (36, .iload_n 2, 1, 2, 0, 0, 0, 0, []), (37, .invokevirtual 331, 3, 1, 2, 6, 0, 0, [(0, 12)]), (40, .ifCond .eq 61, 3, 101, 0, 0, 0, 0, []), (43, .aload_n 0, 1, 0, 0, 0, 0, 0, []), (44, .getfield 57, 3, 12, 27, 11, 2, 27, []), (47, .bipush 6, 2, 0, 0, 0, 0, 6, [])],
  [(49, .iload_n 1, 1, 1, 0, 0, 0, 0, []), (50, .imul, 1, 0, 0, 0, 0, 0, []), (51, .iload_n 2, 1, 2, 0, 0, 0, 0, []), (52, .iadd, 1, 0, 0, 0, 0, 0, []), (53, .iaload, 1, 0, 0, 0, 0, 0, []), (54, .bipush (-2), 2, 0, 0, 0, 0, (-2), []), (56, .if_icmp .eq 45, 3, 101, 0, 0, 0, 0, []), (59, .aload_n 0, 1, 0, 0, 0, 0, 0, []), (60, .iload_n 1, 1, 1, 0, 0, 0, 0, []), (61, .iload_n 2, 1, 2, 0, 0, 0, 0, []), (62, .invokevirtual 344, 3, 2, 3, 19, 0, 0, [(0, 12)])],
  [(65, .ifCond .eq 6, 3, 71, 0, 0, 0, 0, []), (68, .goto 33, 3, 101, 0, 0, 0, 0, []), (71, .aload_n 0, 1, 0, 0, 0, 0, 0, []), (72, .getfield 60, 3, 12, 28, 17, 2, 28, []), (75, .aload_n 0, 1, 0, 0, 0, 0, 0, []), (76, .getfield 341, 3, 12, 29, 16, 0, 29, []), (79, .aload_n 0, 1, 0, 0, 0, 0, 0, [])],
  [(80, .getfield 57, 3, 12, 27, 11, 2, 27, []), (83, .bipush 6, 2, 0, 0, 0, 0, 6, []), (85, .iload_n 1, 1, 1, 0, 0, 0, 0, []), (86, .imul, 1, 0, 0, 0, 0, 0, []), (87, .iload_n 2, 1, 2, 0, 0, 0, 0, []), (88, .iadd, 1, 0, 0, 0, 0, 0, []), (89, .iaload, 1, 0, 0, 0, 0, 0, []), (90, .iastore, 1, 0, 0, 0, 0, 0, []), (91, .aload_n 0, 1, 0, 0, 0, 0, 0, []), (92, .dup, 1, 0, 0, 0, 0, 0, []), (93, .getfield 341, 3, 12, 29, 16, 0, 29, [])],
  [(96, .iconst 1, 1, 0, 0, 0, 0, 1, []), (97, .iadd, 1, 0, 0, 0, 0, 0, []), (98, .putfield 341, 3, 12, 29, 16, 0, 29, []), (101, .iinc 2 1, 3, 2, 0, 0, 0, 1, []), (104, .goto (-85), 3, 19, 0, 0, 0, 0, []), (107, .iinc 1 1, 3, 1, 0, 0, 0, 1, []), (110, .goto (-103), 3, 7, 0, 0, 0, 0, [])],
  [(113, .aload_n 0, 1, 0, 0, 0, 0, 0, []), (114, .getfield 341, 3, 12, 29, 16, 0, 29, []), (117, .ifCond .ne 22, 3, 139, 0, 0, 0, 0, []), (120, .aload_n 0, 1, 0, 0, 0, 0, 0, []), (121, .invokevirtual 272, 3, 0, 1, 2, 0, 0, [(0, 12)]), (124, .ifCond .le 15, 3, 139, 0, 0, 0, 0, []), (127, .aload_n 0, 1, 0, 0, 0, 0, 0, [])],
  [(128, .getfield 60, 3, 12, 28, 17, 2, 28, []), (131, .iconst 0, 1, 0, 0, 0, 0, 0, []), (132, .iconst 0, 1, 0, 0, 0, 0, 0, []), (133, .iastore, 1, 0, 0, 0, 0, 0, []), (134, .aload_n 0, 1, 0, 0, 0, 0, 0, []), (135, .iconst 1, 1, 0, 0, 0, 0, 1, []), (136, .putfield 341, 3, 12, 29, 16, 0, 29, []), (139, .return_, 1, 0, 0, 0, 0, 0, [])]]
def i_N_laysSplitters : ai_I := ((⟨"SuiteBenchModel", "laysSplitters", "()V"⟩, prog_14_method_58_code, 3, none, 9, 3, 74, 0, 0, 0, 12) : ai_I)
def o_N_laysSplitters (a : Nat) : SP := match a with
  | 0 => f_N_states
  | 1 => f_N_isReached
  | 2 => f_N_isSplit
  | _ => fun _ _ _ _ _ => False
theorem mo_N_laysSplitters : ∀ a, ai_mono (o_N_laysSplitters a)
  | 0 => mf_N_states
  | 1 => mf_N_isReached
  | 2 => mf_N_isSplit
  | _ + 3 => fun _ _ _ _ _ _ _ h => h
def f_N_laysSplitters : SP := ai_M o_N_laysSplitters 0 3 k_N_laysSplitters
theorem mf_N_laysSplitters : ai_mono f_N_laysSplitters := M_mono mo_N_laysSplitters
abbrev cal_N_laysSplitters : List ai_I := [i_N_states, i_N_isReached, i_N_isSplit]
theorem a_N_laysSplitters : ai_all "SuiteBenchModel" prog_14_method_58_code 3 kc_N cal_N_laysSplitters 3 74 false none k_N_laysSplitters = true := by decide +kernel
theorem w_N_laysSplitters : ai_CW i_N_laysSplitters := ⟨(tk_mem (l := [((Jvm.Cond.code ({ cls := "SuiteBenchModel", name := "laysSplitters", desc := "()V" } : Jvm.MethodName) prog_14_method_58_code (3 : Nat) (Option.none : Option Jvm.ClassFile.FieldType)), 7, 71)]) (by decide +kernel) _ (List.mem_singleton.mpr rfl)), (tk_mem (l := [((Jvm.Cond.initialized "SuiteBenchModel"), 1, 15)]) (by decide +kernel) _ (List.mem_singleton.mpr rfl)), ⟨by decide +kernel, by decide +kernel, by decide +kernel⟩, ⟨(tk_mem (l := [((Jvm.Cond.instanceMethod ({ cls := "SuiteBenchModel", name := "laysSplitters", desc := "()V" } : Jvm.MethodName)), 7, 70)]) (by decide +kernel) _ (List.mem_singleton.mpr rfl)), gw_sel 73 (by decide +kernel), .inl ⟨_, _, rfl⟩⟩⟩
theorem c_N_laysSplitters {E2 : (Nat → Nat) → State → Heap → Prop} (hE : ai_XH E2) : ai_S E2 i_N_laysSplitters f_N_laysSplitters := snd_M (by decide) rfl (by decide) a_N_laysSplitters kc_N_ok (by rfl) (by decide) (fun a i h => match a, h with
    | 0, h => by cases h; exact ⟨c_N_states hE, w_N_states⟩
    | 1, h => by cases h; exact ⟨c_N_isReached hE, w_N_isReached⟩
    | 2, h => by cases h; exact ⟨c_N_isSplit hE, w_N_isSplit⟩
    | _ + 3, h => by simp [cal_N_laysSplitters, ai_nth] at h)
def k_N_forgets : ai_C := [
  [(0, .aload_n 0, 1, 0, 0, 0, 0, 0, []), (1, .iconst 0, 1, 0, 0, 0, 0, 0, []), (2, .putfield 352, 3, 12, 31, 20, 3, 31, []), (5, .iconst 0, 1, 0, 0, 0, 0, 0, []), (6, .istore_n 1, 1, 1, 0, 0, 0, 0, []), (7, .iload_n 1, 1, 1, 0, 0, 0, 0, []), (8, .iconst 2, 1, 0, 0, 0, 0, 2, []), (9, .if_icmp .ge 30, 3, 39, 0, 0, 0, 0, []), (12, .aload_n 0, 1, 0, 0, 0, 0, 0, []), (13, .getfield 72, 3, 12, 34, 21, 2, 34, [])],
  [(16, .iload_n 1, 1, 1, 0, 0, 0, 0, []), (17, .iconst 0, 1, 0, 0, 0, 0, 0, []), (18, .bastore, 1, 0, 0, 0, 52, 0, []), (19, .aload_n 0, 1, 0, 0, 0, 0, 0, []), (20, .getfield 69, 3, 12, 33, 22, 2, 33, []), (23, .iload_n 1, 1, 1, 0, 0, 0, 0, []), (24, .iconst 0, 1, 0, 0, 0, 0, 0, []), (25, .iastore, 1, 0, 0, 0, 0, 0, []), (26, .aload_n 0, 1, 0, 0, 0, 0, 0, []), (27, .getfield 124, 3, 12, 58, 23, 2, 58, []), (30, .iload_n 1, 1, 1, 0, 0, 0, 0, []), (31, .iconst (-1), 1, 0, 0, 0, 0, (-1), [])],
  [(32, .iastore, 1, 0, 0, 0, 0, 0, []), (33, .iinc 1 1, 3, 1, 0, 0, 0, 1, []), (36, .goto (-29), 3, 7, 0, 0, 0, 0, []), (39, .iconst 0, 1, 0, 0, 0, 0, 0, []), (40, .istore_n 1, 1, 1, 0, 0, 0, 0, []), (41, .iload_n 1, 1, 1, 0, 0, 0, 0, []), (42, .bipush 6, 2, 0, 0, 0, 0, 6, []), (44, .if_icmp .ge 16, 3, 60, 0, 0, 0, 0, []), (47, .aload_n 0, 1, 0, 0, 0, 0, 0, [])],
  [(48, .getfield 84, 3, 12, 39, 24, 2, 39, []), (51, .iload_n 1, 1, 1, 0, 0, 0, 0, []), (52, .iconst (-1), 1, 0, 0, 0, 0, (-1), []), (53, .iastore, 1, 0, 0, 0, 0, 0, []), (54, .iinc 1 1, 3, 1, 0, 0, 0, 1, []), (57, .goto (-16), 3, 41, 0, 0, 0, 0, []), (60, .iconst 0, 1, 0, 0, 0, 0, 0, []), (61, .istore_n 1, 1, 1, 0, 0, 0, 0, []), (62, .iload_n 1, 1, 1, 0, 0, 0, 0, []), (63, .iconst 4, 1, 0, 0, 0, 0, 4, [])],
  [(64, .if_icmp .ge 23, 3, 87, 0, 0, 0, 0, []), (67, .aload_n 0, 1, 0, 0, 0, 0, 0, []), (68, .getfield 93, 3, 12, 48, 25, 2, 48, []), (71, .iload_n 1, 1, 1, 0, 0, 0, 0, []), (72, .iconst 0, 1, 0, 0, 0, 0, 0, []), (73, .bastore, 1, 0, 0, 0, 52, 0, []), (74, .aload_n 0, 1, 0, 0, 0, 0, 0, []), (75, .getfield 99, 3, 12, 50, 26, 2, 50, []), (78, .iload_n 1, 1, 1, 0, 0, 0, 0, []), (79, .iconst 0, 1, 0, 0, 0, 0, 0, [])],
  [(80, .bastore, 1, 0, 0, 0, 52, 0, []), (81, .iinc 1 1, 3, 1, 0, 0, 0, 1, []), (84, .goto (-22), 3, 62, 0, 0, 0, 0, []), (87, .iconst 0, 1, 0, 0, 0, 0, 0, []), (88, .istore_n 1, 1, 1, 0, 0, 0, 0, []), (89, .iload_n 1, 1, 1, 0, 0, 0, 0, []), (90, .iconst 3, 1, 0, 0, 0, 0, 3, []), (91, .if_icmp .ge 16, 3, 107, 0, 0, 0, 0, []), (94, .aload_n 0, 1, 0, 0, 0, 0, 0, []), (95, .getfield 114, 3, 12, 55, 27, 2, 55, [])],
  [(98, .iload_n 1, 1, 1, 0, 0, 0, 0, []), (99, .iconst 0, 1, 0, 0, 0, 0, 0, []), (100, .bastore, 1, 0, 0, 0, 52, 0, []), (101, .iinc 1 1, 3, 1, 0, 0, 0, 1, []), (104, .goto (-15), 3, 89, 0, 0, 0, 0, []), (107, .return_, 1, 0, 0, 0, 0, 0, [])]]
def i_N_forgets : ai_I := ((⟨"SuiteBenchModel", "forgets", "()V"⟩, prog_14_method_134_code, 2, none, 9, 0, 0, 0, 0, 0, 12) : ai_I)
def o_N_forgets (_ : Nat) : SP := fun _ _ _ _ _ => False
theorem mo_N_forgets : ∀ a, ai_mono (o_N_forgets a) := fun _ _ _ _ _ _ _ _ h => h
def f_N_forgets : SP := ai_M o_N_forgets 0 2 k_N_forgets
theorem mf_N_forgets : ai_mono f_N_forgets := M_mono mo_N_forgets
abbrev cal_N_forgets : List ai_I := []
theorem a_N_forgets : ai_all "SuiteBenchModel" prog_14_method_134_code 2 kc_N cal_N_forgets 0 0 false none k_N_forgets = true := by decide +kernel
theorem w_N_forgets : ai_CW i_N_forgets := ⟨(tk_mem (l := [((Jvm.Cond.code ({ cls := "SuiteBenchModel", name := "forgets", desc := "()V" } : Jvm.MethodName) prog_14_method_134_code (2 : Nat) (Option.none : Option Jvm.ClassFile.FieldType)), 7, 90)]) (by decide +kernel) _ (List.mem_singleton.mpr rfl)), (tk_mem (l := [((Jvm.Cond.initialized "SuiteBenchModel"), 1, 15)]) (by decide +kernel) _ (List.mem_singleton.mpr rfl)), ⟨by decide +kernel, by decide +kernel, by decide +kernel⟩, ⟨(tk_mem (l := [((Jvm.Cond.instanceMethod ({ cls := "SuiteBenchModel", name := "forgets", desc := "()V" } : Jvm.MethodName)), 7, 89)]) (by decide +kernel) _ (List.mem_singleton.mpr rfl)), gw_sel 76 (by decide +kernel), .inl ⟨_, _, rfl⟩⟩⟩
theorem c_N_forgets {E2 : (Nat → Nat) → State → Heap → Prop} (hE : ai_XH E2) : ai_S E2 i_N_forgets f_N_forgets := snd_M (by decide) rfl (by decide) a_N_forgets kc_N_ok (by rfl) (by decide) (fun a i h => by simp [cal_N_forgets, ai_nth] at h)
def k_N_lays : ai_C := [
  [(0, .iconst 0, 1, 0, 0, 0, 0, 0, []), (1, .istore_n 1, 1, 1, 0, 0, 0, 0, []), (2, .iload_n 1, 1, 1, 0, 0, 0, 0, []), (3, .bipush 8, 2, 0, 0, 0, 0, 8, []), (5, .if_icmp .ge 178, 3, 183, 0, 0, 0, 0, []), (8, .iconst 0, 1, 0, 0, 0, 0, 0, []), (9, .istore_n 2, 1, 2, 0, 0, 0, 0, []), (10, .iload_n 2, 1, 2, 0, 0, 0, 0, []), (11, .iconst 3, 1, 0, 0, 0, 0, 3, []), (12, .if_icmp .ge 165, 3, 177, 0, 0, 0, 0, []), (15, .iconst 3, 1, 0, 0, 0, 0, 3, [])],
  [(16, .iload_n 1, 1, 1, 0, 0, 0, 0, []), (17, .imul, 1, 0, 0, 0, 0, 0, []), (18, .iload_n 2, 1, 2, 0, 0, 0, 0, []), (19, .iadd, 1, 0, 0, 0, 0, 0, []), (20, .istore_n 3, 1, 3, 0, 0, 0, 0, []), (21, .iload_n 1, 1, 1, 0, 0, 0, 0, []), (22, .bipush 6, 2, 0, 0, 0, 0, 6, []), (24, .if_icmp .ge 24, 3, 48, 0, 0, 0, 0, []), (27, .aload_n 0, 1, 0, 0, 0, 0, 0, []), (28, .getfield 22, 3, 12, 6, 28, 2, 6, []), (31, .iload_n 3, 1, 3, 0, 0, 0, 0, [])],
  [(32, .iaload, 1, 0, 0, 0, 0, 0, []), (33, .ifCond .eq 15, 3, 48, 0, 0, 0, 0, []), (36, .iload_n 1, 1, 1, 0, 0, 0, 0, []), (37, .aload_n 0, 1, 0, 0, 0, 0, 0, []), (38, .invokevirtual 272, 3, 0, 1, 2, 0, 0, [(0, 12)]), (41, .if_icmp .ge 7, 3, 48, 0, 0, 0, 0, []), (44, .iconst 1, 1, 0, 0, 0, 0, 1, []), (45, .goto 4, 3, 49, 0, 0, 0, 0, [])],
  [(48, .iconst 0, 1, 0, 0, 0, 0, 0, []), (49, .istore 4, 2, 4, 0, 0, 0, 0, []), (51, .aload_n 0, 1, 0, 0, 0, 0, 0, []), (52, .getfield 38, 3, 12, 20, 4, 2, 20, []), (55, .iconst 0, 1, 0, 0, 0, 0, 0, []), (56, .iload_n 3, 1, 3, 0, 0, 0, 0, []), (57, .iadd, 1, 0, 0, 0, 0, 0, []), (58, .iload 4, 2, 4, 0, 0, 0, 0, []), (60, .ifCond .eq 14, 3, 74, 0, 0, 0, 0, []), (63, .aload_n 0, 1, 0, 0, 0, 0, 0, [])],
  [(64, .getfield 22, 3, 12, 6, 28, 2, 6, []), (67, .iload_n 3, 1, 3, 0, 0, 0, 0, []), (68, .iaload, 1, 0, 0, 0, 0, 0, []), (69, .iconst 1, 1, 0, 0, 0, 0, 1, []), (70, .isub, 1, 0, 0, 0, 0, 0, []), (71, .goto 4, 3, 75, 0, 0, 0, 0, []), (74, .iload_n 1, 1, 1, 0, 0, 0, 0, []), (75, .iastore, 1, 0, 0, 0, 0, 0, []), (76, .aload_n 0, 1, 0, 0, 0, 0, 0, []), (77, .getfield 41, 3, 12, 21, 10, 2, 21, [])],
  [(80, .iconst 0, 1, 0, 0, 0, 0, 0, []), (81, .iload_n 3, 1, 3, 0, 0, 0, 0, []), (82, .iadd, 1, 0, 0, 0, 0, 0, []), (83, .iload 4, 2, 4, 0, 0, 0, 0, []), (85, .ifCond .eq 12, 3, 97, 0, 0, 0, 0, []), (88, .aload_n 0, 1, 0, 0, 0, 0, 0, []), (89, .getfield 25, 3, 12, 7, 29, 2, 7, []), (92, .iload_n 3, 1, 3, 0, 0, 0, 0, []), (93, .iaload, 1, 0, 0, 0, 0, 0, []), (94, .goto 4, 3, 98, 0, 0, 0, 0, [])],
  [(97, .iconst 0, 1, 0, 0, 0, 0, 0, []), (98, .iastore, 1, 0, 0, 0, 0, 0, []), (99, .aload_n 0, 1, 0, 0, 0, 0, 0, []), (100, .getfield 38, 3, 12, 20, 4, 2, 20, []), (103, .bipush 24, 2, 0, 0, 0, 0, 24, []), (105, .iload_n 3, 1, 3, 0, 0, 0, 0, []), (106, .iadd, 1, 0, 0, 0, 0, 0, []), (107, .aload_n 0, 1, 0, 0, 0, 0, 0, []), (108, .getfield 28, 3, 12, 8, 30, 2, 8, []), (111, .iload_n 3, 1, 3, 0, 0, 0, 0, [])],
  [(112, .iaload, 1, 0, 0, 0, 0, 0, []), (113, .ifCond .eq 14, 3, 127, 0, 0, 0, 0, []), (116, .aload_n 0, 1, 0, 0, 0, 0, 0, []), (117, .getfield 28, 3, 12, 8, 30, 2, 8, []), (120, .iload_n 3, 1, 3, 0, 0, 0, 0, []), (121, .iaload, 1, 0, 0, 0, 0, 0, []), (122, .iconst 1, 1, 0, 0, 0, 0, 1, []), (123, .isub, 1, 0, 0, 0, 0, 0, []), (124, .goto 11, 3, 135, 0, 0, 0, 0, []), (127, .aload_n 0, 1, 0, 0, 0, 0, 0, [])],
  [(128, .getfield 38, 3, 12, 20, 4, 2, 20, []), (131, .iconst 0, 1, 0, 0, 0, 0, 0, []), (132, .iload_n 3, 1, 3, 0, 0, 0, 0, []), (133, .iadd, 1, 0, 0, 0, 0, 0, []), (134, .iaload, 1, 0, 0, 0, 0, 0, []), (135, .iastore, 1, 0, 0, 0, 0, 0, []), (136, .aload_n 0, 1, 0, 0, 0, 0, 0, []), (137, .getfield 41, 3, 12, 21, 10, 2, 21, []), (140, .bipush 24, 2, 0, 0, 0, 0, 24, []), (142, .iload_n 3, 1, 3, 0, 0, 0, 0, []), (143, .iadd, 1, 0, 0, 0, 0, 0, [])],
  [(144, .aload_n 0, 1, 0, 0, 0, 0, 0, []), (145, .getfield 28, 3, 12, 8, 30, 2, 8, []), (148, .iload_n 3, 1, 3, 0, 0, 0, 0, []), (149, .iaload, 1, 0, 0, 0, 0, 0, []), (150, .ifCond .eq 12, 3, 162, 0, 0, 0, 0, []), (153, .aload_n 0, 1, 0, 0, 0, 0, 0, []), (154, .getfield 31, 3, 12, 9, 31, 2, 9, []), (157, .iload_n 3, 1, 3, 0, 0, 0, 0, []), (158, .iaload, 1, 0, 0, 0, 0, 0, []), (159, .goto 11, 3, 170, 0, 0, 0, 0, [])],
  [(162, .aload_n 0, 1, 0, 0, 0, 0, 0, []), (163, .getfield 41, 3, 12, 21, 10, 2, 21, []), (166, .iconst 0, 1, 0, 0, 0, 0, 0, []), (167, .iload_n 3, 1, 3, 0, 0, 0, 0, []), (168, .iadd, 1, 0, 0, 0, 0, 0, []), (169, .iaload, 1, 0, 0, 0, 0, 0, []), (170, .iastore, 1, 0, 0, 0, 0, 0, []), (171, .iinc 2 1, 3, 2, 0, 0, 0, 1, []), (174, .goto (-164), 3, 10, 0, 0, 0, 0, [])],
  [(177, .iinc 1 1, 3, 1, 0, 0, 0, 1, []), (180, .goto (-178), 3, 2, 0, 0, 0, 0, []), (183, .aload_n 0, 1, 0, 0, 0, 0, 0, []), (184, .iconst 0, 1, 0, 0, 0, 0, 0, []), (185, .putfield 275, 3, 12, 61, 32, 0, 61, []), (188, .aload_n 0, 1, 0, 0, 0, 0, 0, []), (189, .iconst 0, 1, 0, 0, 0, 0, 0, []), (190, .putfield 278, 3, 12, 67, 33, 0, 67, [])],
  [(193, .aload_n 0, 1, 0, 0, 0, 0, 0, []), (194, .iconst 0, 1, 0, 0, 0, 0, 0, []), (195, .putfield 281, 3, 12, 69, 34, 3, 69, []), (198, .aload_n 0, 1, 0, 0, 0, 0, 0, []), (199, .invokevirtual 285, 3, 1, 1, 35, 9, 0, [(0, 12)]), (202, .aload_n 0, 1, 0, 0, 0, 0, 0, []), (203, .invokevirtual 288, 3, 2, 1, 36, 9, 0, [(0, 12)]), (206, .aload_n 0, 1, 0, 0, 0, 0, 0, []), (207, .invokevirtual 291, 3, 3, 1, 37, 9, 0, [(0, 12)])],
  [(210, .aload_n 0, 1, 0, 0, 0, 0, 0, []), (211, .invokevirtual 294, 3, 4, 1, 38, 9, 0, [(0, 12)]), (214, .return_, 1, 0, 0, 0, 0, 0, [])]]
def i_N_lays : ai_I := ((⟨"SuiteBenchModel", "lays", "()V"⟩, prog_14_method_34_code, 5, none, 9, 4, 96, 0, 0, 0, 12) : ai_I)
def o_N_lays (a : Nat) : SP := match a with
  | 0 => f_N_states
  | 1 => f_N_laysAccess
  | 2 => f_N_laysSeparators
  | 3 => f_N_laysSplitters
  | 4 => f_N_forgets
  | _ => fun _ _ _ _ _ => False
theorem mo_N_lays : ∀ a, ai_mono (o_N_lays a)
  | 0 => mf_N_states
  | 1 => mf_N_laysAccess
  | 2 => mf_N_laysSeparators
  | 3 => mf_N_laysSplitters
  | 4 => mf_N_forgets
  | _ + 5 => fun _ _ _ _ _ _ _ h => h
def f_N_lays : SP := ai_M o_N_lays 0 5 k_N_lays
theorem mf_N_lays : ai_mono f_N_lays := M_mono mo_N_lays
abbrev cal_N_lays : List ai_I := [i_N_states, i_N_laysAccess, i_N_laysSeparators, i_N_laysSplitters, i_N_forgets]
theorem a_N_lays : ai_all "SuiteBenchModel" prog_14_method_34_code 5 kc_N cal_N_lays 4 96 false none k_N_lays = true := by decide +kernel
theorem w_N_lays : ai_CW i_N_lays := ⟨(tk_mem (l := [((Jvm.Cond.code ({ cls := "SuiteBenchModel", name := "lays", desc := "()V" } : Jvm.MethodName) prog_14_method_34_code (5 : Nat) (Option.none : Option Jvm.ClassFile.FieldType)), 7, 43)]) (by decide +kernel) _ (List.mem_singleton.mpr rfl)), (tk_mem (l := [((Jvm.Cond.initialized "SuiteBenchModel"), 1, 15)]) (by decide +kernel) _ (List.mem_singleton.mpr rfl)), ⟨by decide +kernel, by decide +kernel, by decide +kernel⟩, ⟨(tk_mem (l := [((Jvm.Cond.instanceMethod ({ cls := "SuiteBenchModel", name := "lays", desc := "()V" } : Jvm.MethodName)), 7, 42)]) (by decide +kernel) _ (List.mem_singleton.mpr rfl)), gw_sel 66 (by decide +kernel), .inl ⟨_, _, rfl⟩⟩⟩
theorem c_N_lays {E2 : (Nat → Nat) → State → Heap → Prop} (hE : ai_XH E2) : ai_S E2 i_N_lays f_N_lays := snd_M (by decide) rfl (by decide) a_N_lays kc_N_ok (by rfl) (by decide) (fun a i h => match a, h with
    | 0, h => by cases h; exact ⟨c_N_states hE, w_N_states⟩
    | 1, h => by cases h; exact ⟨c_N_laysAccess hE, w_N_laysAccess⟩
    | 2, h => by cases h; exact ⟨c_N_laysSeparators hE, w_N_laysSeparators⟩
    | 3, h => by cases h; exact ⟨c_N_laysSplitters hE, w_N_laysSplitters⟩
    | 4, h => by cases h; exact ⟨c_N_forgets hE, w_N_forgets⟩
    | _ + 5, h => by simp [cal_N_lays, ai_nth] at h)
def k_N_init : ai_C := [
  [(0, .aload_n 0, 1, 0, 0, 0, 0, 0, []), (1, .invokespecial 1, 3, 0, 0, 39, 30, 0, []), (4, .aload_n 0, 1, 0, 0, 0, 0, 0, []), (5, .sipush 700, 3, 0, 0, 0, 0, 700, []), (8, .newarray .int, 2, 0, 0, 40, 50, 0, []), (10, .putfield 7, 3, 12, 1, 41, 2, 1, []), (13, .aload_n 0, 1, 0, 0, 0, 0, 0, []), (14, .bipush 10, 2, 0, 0, 0, 0, 10, [])],
  [(16, .newarray .int, 2, 0, 0, 40, 50, 0, []), (18, .putfield 13, 3, 12, 3, 0, 2, 3, []), (21, .aload_n 0, 1, 0, 0, 0, 0, 0, []), (22, .bipush 16, 2, 0, 0, 0, 0, 16, []), (24, .newarray .int, 2, 0, 0, 40, 50, 0, []), (26, .putfield 16, 3, 12, 4, 42, 2, 4, []), (29, .aload_n 0, 1, 0, 0, 0, 0, 0, []), (30, .bipush 6, 2, 0, 0, 0, 0, 6, [])],
  [(32, .newarray .int, 2, 0, 0, 40, 50, 0, []), (34, .putfield 19, 3, 12, 5, 43, 2, 5, []), (37, .aload_n 0, 1, 0, 0, 0, 0, 0, []), (38, .bipush 36, 2, 0, 0, 0, 0, 36, []), (40, .newarray .int, 2, 0, 0, 40, 50, 0, []), (42, .putfield 22, 3, 12, 6, 28, 2, 6, []), (45, .aload_n 0, 1, 0, 0, 0, 0, 0, []), (46, .bipush 36, 2, 0, 0, 0, 0, 36, [])],
  [(48, .newarray .int, 2, 0, 0, 40, 50, 0, []), (50, .putfield 25, 3, 12, 7, 29, 2, 7, []), (53, .aload_n 0, 1, 0, 0, 0, 0, 0, []), (54, .bipush 48, 2, 0, 0, 0, 0, 48, []), (56, .newarray .int, 2, 0, 0, 40, 50, 0, []), (58, .putfield 28, 3, 12, 8, 30, 2, 8, []), (61, .aload_n 0, 1, 0, 0, 0, 0, 0, []), (62, .bipush 48, 2, 0, 0, 0, 0, 48, [])],
  [(64, .newarray .int, 2, 0, 0, 40, 50, 0, []), (66, .putfield 31, 3, 12, 9, 31, 2, 9, []), (69, .aload_n 0, 1, 0, 0, 0, 0, 0, []), (70, .iconst (-1), 1, 0, 0, 0, 0, (-1), []), (71, .putfield 34, 3, 12, 19, 44, 0, 19, []), (74, .aload_n 0, 1, 0, 0, 0, 0, 0, []), (75, .bipush 96, 2, 0, 0, 0, 0, 96, []), (77, .newarray .int, 2, 0, 0, 40, 50, 0, []), (79, .putfield 38, 3, 12, 20, 4, 2, 20, [])],
  [(82, .aload_n 0, 1, 0, 0, 0, 0, 0, []), (83, .bipush 96, 2, 0, 0, 0, 0, 96, []), (85, .newarray .int, 2, 0, 0, 40, 50, 0, []), (87, .putfield 41, 3, 12, 21, 10, 2, 21, []), (90, .aload_n 0, 1, 0, 0, 0, 0, 0, []), (91, .bipush 6, 2, 0, 0, 0, 0, 6, []), (93, .newarray .int, 2, 0, 0, 40, 50, 0, []), (95, .putfield 44, 3, 12, 22, 1, 2, 22, [])],
  [(98, .aload_n 0, 1, 0, 0, 0, 0, 0, []), (99, .bipush 64, 2, 0, 0, 0, 0, 64, []), (101, .newarray .int, 2, 0, 0, 40, 50, 0, []), (103, .putfield 47, 3, 12, 24, 8, 2, 24, []), (106, .aload_n 0, 1, 0, 0, 0, 0, 0, []), (107, .bipush 64, 2, 0, 0, 0, 0, 64, []), (109, .newarray .int, 2, 0, 0, 40, 50, 0, []), (111, .putfield 50, 3, 12, 25, 9, 2, 25, [])],
  [(114, .aload_n 0, 1, 0, 0, 0, 0, 0, []), (115, .bipush 64, 2, 0, 0, 0, 0, 64, []), (117, .newarray .boolean, 2, 0, 0, 45, 52, 0, []), (119, .putfield 53, 3, 12, 26, 7, 2, 26, []), (122, .aload_n 0, 1, 0, 0, 0, 0, 0, []), (123, .bipush 36, 2, 0, 0, 0, 0, 36, []), (125, .newarray .int, 2, 0, 0, 40, 50, 0, []), (127, .putfield 57, 3, 12, 27, 11, 2, 27, [])],
  [(130, .aload_n 0, 1, 0, 0, 0, 0, 0, []), (131, .bipush 16, 2, 0, 0, 0, 0, 16, []), (133, .newarray .int, 2, 0, 0, 40, 50, 0, []), (135, .putfield 60, 3, 12, 28, 17, 2, 28, []), (138, .aload_n 0, 1, 0, 0, 0, 0, 0, []), (139, .bipush 6, 2, 0, 0, 0, 0, 6, []), (141, .newarray .int, 2, 0, 0, 40, 50, 0, []), (143, .putfield 63, 3, 12, 30, 46, 2, 30, [])],
  [(146, .aload_n 0, 1, 0, 0, 0, 0, 0, []), (147, .sipush 800, 3, 0, 0, 0, 0, 800, []), (150, .newarray .int, 2, 0, 0, 40, 50, 0, []), (152, .putfield 66, 3, 12, 32, 47, 2, 32, []), (155, .aload_n 0, 1, 0, 0, 0, 0, 0, []), (156, .iconst 2, 1, 0, 0, 0, 0, 2, []), (157, .newarray .int, 2, 0, 0, 40, 50, 0, []), (159, .putfield 69, 3, 12, 33, 22, 2, 33, [])],
  [(162, .aload_n 0, 1, 0, 0, 0, 0, 0, []), (163, .iconst 2, 1, 0, 0, 0, 0, 2, []), (164, .newarray .boolean, 2, 0, 0, 45, 52, 0, []), (166, .putfield 72, 3, 12, 34, 21, 2, 34, []), (169, .aload_n 0, 1, 0, 0, 0, 0, 0, []), (170, .bipush 18, 2, 0, 0, 0, 0, 18, []), (172, .newarray .boolean, 2, 0, 0, 45, 52, 0, []), (174, .putfield 75, 3, 12, 35, 48, 2, 35, [])],
  [(177, .aload_n 0, 1, 0, 0, 0, 0, 0, []), (178, .bipush 6, 2, 0, 0, 0, 0, 6, []), (180, .newarray .int, 2, 0, 0, 40, 50, 0, []), (182, .putfield 78, 3, 12, 36, 49, 2, 36, []), (185, .aload_n 0, 1, 0, 0, 0, 0, 0, []), (186, .sipush 7800, 3, 0, 0, 0, 0, 7800, []), (189, .newarray .int, 2, 0, 0, 40, 50, 0, []), (191, .putfield 81, 3, 12, 38, 50, 2, 38, [])],
  [(194, .aload_n 0, 1, 0, 0, 0, 0, 0, []), (195, .bipush 6, 2, 0, 0, 0, 0, 6, []), (197, .newarray .int, 2, 0, 0, 40, 50, 0, []), (199, .putfield 84, 3, 12, 39, 24, 2, 39, []), (202, .aload_n 0, 1, 0, 0, 0, 0, 0, []), (203, .sipush 1300, 3, 0, 0, 0, 0, 1300, []), (206, .newarray .boolean, 2, 0, 0, 45, 52, 0, [])],
  [(208, .putfield 87, 3, 12, 40, 51, 2, 40, []), (211, .aload_n 0, 1, 0, 0, 0, 0, 0, []), (212, .bipush 16, 2, 0, 0, 0, 0, 16, []), (214, .newarray .int, 2, 0, 0, 40, 50, 0, []), (216, .putfield 90, 3, 12, 47, 52, 2, 47, []), (219, .aload_n 0, 1, 0, 0, 0, 0, 0, []), (220, .iconst 4, 1, 0, 0, 0, 0, 4, []), (221, .newarray .boolean, 2, 0, 0, 45, 52, 0, []), (223, .putfield 93, 3, 12, 48, 25, 2, 48, [])],
  [(226, .aload_n 0, 1, 0, 0, 0, 0, 0, []), (227, .bipush 12, 2, 0, 0, 0, 0, 12, []), (229, .newarray .int, 2, 0, 0, 40, 50, 0, []), (231, .putfield 96, 3, 12, 49, 53, 2, 49, []), (234, .aload_n 0, 1, 0, 0, 0, 0, 0, []), (235, .iconst 4, 1, 0, 0, 0, 0, 4, []), (236, .newarray .boolean, 2, 0, 0, 45, 52, 0, []), (238, .putfield 99, 3, 12, 50, 26, 2, 50, [])],
  [(241, .aload_n 0, 1, 0, 0, 0, 0, 0, []), (242, .bipush 54, 2, 0, 0, 0, 0, 54, []), (244, .newarray .int, 2, 0, 0, 40, 50, 0, []), (246, .putfield 102, 3, 12, 51, 54, 2, 51, []), (249, .aload_n 0, 1, 0, 0, 0, 0, 0, []), (250, .bipush 9, 2, 0, 0, 0, 0, 9, []), (252, .newarray .int, 2, 0, 0, 40, 50, 0, []), (254, .putfield 105, 3, 12, 52, 55, 2, 52, [])],
  [(257, .aload_n 0, 1, 0, 0, 0, 0, 0, []), (258, .bipush 9, 2, 0, 0, 0, 0, 9, []), (260, .newarray .int, 2, 0, 0, 40, 50, 0, []), (262, .putfield 108, 3, 12, 53, 56, 2, 53, []), (265, .aload_n 0, 1, 0, 0, 0, 0, 0, []), (266, .iconst 3, 1, 0, 0, 0, 0, 3, []), (267, .newarray .int, 2, 0, 0, 40, 50, 0, []), (269, .putfield 111, 3, 12, 54, 57, 2, 54, [])],
  [(272, .aload_n 0, 1, 0, 0, 0, 0, 0, []), (273, .iconst 3, 1, 0, 0, 0, 0, 3, []), (274, .newarray .boolean, 2, 0, 0, 45, 52, 0, []), (276, .putfield 114, 3, 12, 55, 27, 2, 55, []), (279, .aload_n 0, 1, 0, 0, 0, 0, 0, []), (280, .sipush 5200, 3, 0, 0, 0, 0, 5200, []), (283, .newarray .long, 2, 0, 0, 58, 51, 0, []), (285, .putfield 117, 3, 12, 56, 59, 2, 56, [])],
  [(288, .aload_n 0, 1, 0, 0, 0, 0, 0, []), (289, .iconst 4, 1, 0, 0, 0, 0, 4, []), (290, .newarray .long, 2, 0, 0, 58, 51, 0, []), (292, .putfield 121, 3, 12, 57, 60, 2, 57, []), (295, .aload_n 0, 1, 0, 0, 0, 0, 0, []), (296, .iconst 2, 1, 0, 0, 0, 0, 2, []), (297, .newarray .int, 2, 0, 0, 40, 50, 0, []), (299, .putfield 124, 3, 12, 58, 23, 2, 58, []), (302, .aload_n 0, 1, 0, 0, 0, 0, 0, []), (303, .bipush 40, 2, 0, 0, 0, 0, 40, [])],
  [(305, .newarray .int, 2, 0, 0, 40, 50, 0, []), (307, .putfield 127, 3, 12, 59, 61, 2, 59, []), (310, .aload_n 0, 1, 0, 0, 0, 0, 0, []), (311, .bipush 40, 2, 0, 0, 0, 0, 40, []), (313, .newarray .long, 2, 0, 0, 58, 51, 0, []), (315, .putfield 130, 3, 12, 60, 62, 2, 60, []), (318, .aload_n 0, 1, 0, 0, 0, 0, 0, []), (319, .sipush 253, 3, 0, 0, 0, 0, 253, [])],
  [(322, .newarray .int, 2, 0, 0, 40, 50, 0, []), (324, .putfield 133, 3, 12, 62, 63, 2, 62, []), (327, .aload_n 0, 1, 0, 0, 0, 0, 0, []), (328, .bipush 40, 2, 0, 0, 0, 0, 40, []), (330, .newarray .long, 2, 0, 0, 58, 51, 0, []), (332, .putfield 136, 3, 12, 64, 64, 2, 64, []), (335, .aload_n 0, 1, 0, 0, 0, 0, 0, [])],
  [(336, .sipush 1008, 3, 0, 0, 0, 0, 1008, []), (339, .newarray .int, 2, 0, 0, 40, 50, 0, []), (341, .putfield 139, 3, 12, 66, 65, 2, 66, []), (344, .aload_n 0, 1, 0, 0, 0, 0, 0, []), (345, .invokevirtual 142, 3, 0, 1, 66, 9, 0, [(0, 12)]), (348, .return_, 1, 0, 0, 0, 0, 0, [])]]
def i_N_init : ai_I := ((⟨"SuiteBenchModel", "<init>", "()V"⟩, prog_14_method_1_code, 1, none, 9, 5, 120, 42, 0, 2, 12) : ai_I)
def o_N_init (a : Nat) : SP := match a with
  | 0 => f_N_lays
  | _ => fun _ _ _ _ _ => False
theorem mo_N_init : ∀ a, ai_mono (o_N_init a)
  | 0 => mf_N_lays
  | _ + 1 => fun _ _ _ _ _ _ _ h => h
def f_N_init : SP := ai_M o_N_init 42 1 k_N_init
theorem mf_N_init : ai_mono f_N_init := M_mono mo_N_init
abbrev cal_N_init : List ai_I := [i_N_lays]
theorem a_N_init : ai_all "SuiteBenchModel" prog_14_method_1_code 1 kc_N cal_N_init 5 120 true none k_N_init = true := by decide +kernel
theorem w_N_init : ai_CW i_N_init := ⟨(tk_mem (l := [((Jvm.Cond.code ({ cls := "SuiteBenchModel", name := "<init>", desc := "()V" } : Jvm.MethodName) prog_14_method_1_code (1 : Nat) (Option.none : Option Jvm.ClassFile.FieldType)), 7, 38)]) (by decide +kernel) _ (List.mem_singleton.mpr rfl)), (tk_mem (l := [((Jvm.Cond.initialized "SuiteBenchModel"), 1, 15)]) (by decide +kernel) _ (List.mem_singleton.mpr rfl)), ⟨by decide +kernel, by decide +kernel, by decide +kernel⟩, ⟨(tk_mem (l := [((Jvm.Cond.instanceMethod ({ cls := "SuiteBenchModel", name := "<init>", desc := "()V" } : Jvm.MethodName)), 7, 37)]) (by decide +kernel) _ (List.mem_singleton.mpr rfl)), rfl, rfl⟩⟩
theorem c_N_init {E2 : (Nat → Nat) → State → Heap → Prop} (hE : ai_XH E2) : ai_S E2 i_N_init f_N_init := snd_M (by decide) rfl (by decide) a_N_init kc_N_ok (by rfl) (by decide) (fun a i h => match a, h with
    | 0, h => by cases h; exact ⟨c_N_lays hE, w_N_lays⟩
    | _ + 1, h => by simp [cal_N_init, ai_nth] at h)
def k_R_take : ai_C := [
  [(0, .bipush 24, 2, 0, 0, 0, 0, 24, []), (2, .istore_n 2, 1, 2, 0, 0, 0, 0, []), (3, .iload_n 2, 1, 2, 0, 0, 0, 0, []), (4, .ifCond .lt 42, 3, 46, 0, 0, 0, 0, []), (7, .aload_n 0, 1, 0, 0, 0, 0, 0, []), (8, .getfield 26, 3, 4, 2, 9, 0, 2, []), (11, .sipush 700, 3, 0, 0, 0, 0, 700, []), (14, .if_icmp .ge 32, 3, 46, 0, 0, 0, 0, [])],
  [(17, .aload_n 0, 1, 0, 0, 0, 0, 0, []), (18, .getfield 9, 3, 4, 0, 2, 2, 0, []), (21, .aload_n 0, 1, 0, 0, 0, 0, 0, []), (22, .getfield 26, 3, 4, 2, 9, 0, 2, []), (25, .iload_n 1, 1, 1, 0, 0, 0, 0, []), (26, .iload_n 2, 1, 2, 0, 0, 0, 0, []), (27, .ishr, 1, 0, 0, 0, 0, 0, []), (28, .i2b, 1, 0, 0, 0, 0, 0, []), (29, .bastore, 1, 0, 0, 0, 53, 0, []), (30, .aload_n 0, 1, 0, 0, 0, 0, 0, []), (31, .dup, 1, 0, 0, 0, 0, 0, [])],
  [(32, .getfield 26, 3, 4, 2, 9, 0, 2, []), (35, .iconst 1, 1, 0, 0, 0, 0, 1, []), (36, .iadd, 1, 0, 0, 0, 0, 0, []), (37, .putfield 26, 3, 4, 2, 9, 0, 2, []), (40, .iinc 2 (-8), 3, 2, 0, 0, 0, (-8), []), (43, .goto (-40), 3, 3, 0, 0, 0, 0, []), (46, .return_, 1, 0, 0, 0, 0, 0, [])]]
def i_R_take : ai_I := ((⟨"SuiteBench$Reader", "take", "(I)V"⟩, prog_6_method_2_code, 3, none, 9, 0, 0, 0, 1, 0, 4) : ai_I)
def o_R_take (_ : Nat) : SP := fun _ _ _ _ _ => False
theorem mo_R_take : ∀ a, ai_mono (o_R_take a) := fun _ _ _ _ _ _ _ _ h => h
def f_R_take : SP := ai_M o_R_take 0 3 k_R_take
theorem mf_R_take : ai_mono f_R_take := M_mono mo_R_take
abbrev cal_R_take : List ai_I := []
theorem a_R_take : ai_all "SuiteBench$Reader" prog_6_method_2_code 3 kc_R cal_R_take 0 0 false none k_R_take = true := by decide +kernel
theorem w_R_take : ai_CW i_R_take := ⟨(tk_mem (l := [((Jvm.Cond.code ({ cls := "SuiteBench$Reader", name := "take", desc := "(I)V" } : Jvm.MethodName) prog_6_method_2_code (3 : Nat) (Option.none : Option Jvm.ClassFile.FieldType)), 3, 238)]) (by decide +kernel) _ (List.mem_singleton.mpr rfl)), (tk_mem (l := [((Jvm.Cond.initialized "SuiteBench$Reader"), 1, 2)]) (by decide +kernel) _ (List.mem_singleton.mpr rfl)), ⟨by decide +kernel, by decide +kernel, by decide +kernel⟩, ⟨(tk_mem (l := [((Jvm.Cond.instanceMethod ({ cls := "SuiteBench$Reader", name := "take", desc := "(I)V" } : Jvm.MethodName)), 3, 236)]) (by decide +kernel) _ (List.mem_singleton.mpr rfl)), (tk_mem (l := [((Jvm.Cond.selects "SuiteBench$Reader" ({ cls := "SuiteBench$Reader", name := "take", desc := "(I)V" } : Jvm.MethodName) ({ cls := "SuiteBench$Reader", name := "take", desc := "(I)V" } : Jvm.MethodName)), 3, 237)]) (by decide +kernel) _ (List.mem_singleton.mpr rfl)), .inl ⟨_, _, rfl⟩⟩⟩
theorem c_R_take {E2 : (Nat → Nat) → State → Heap → Prop} (hE : ai_XH E2) : ai_S E2 i_R_take f_R_take := snd_M (by decide) rfl (by decide) a_R_take kc_R_ok (by rfl) (by decide) (fun a i h => by simp [cal_R_take, ai_nth] at h)
def k_B_feed : ai_C := [
  [(0, .aload_n 0, 1, 0, 0, 0, 0, 0, []), (1, .getfield 10, 3, 11, 0, 31, 2, 0, []), (4, .getfield 96, 3, 4, 2, 69, 0, 2, []), (7, .bipush 20, 2, 0, 0, 0, 0, 20, []), (9, .iadd, 1, 0, 0, 0, 0, 0, []), (10, .sipush 700, 3, 0, 0, 0, 0, 700, []), (13, .if_icmp .le 5, 3, 18, 0, 0, 0, 0, [])],
  [(16, .iconst (-1), 1, 0, 0, 0, 0, (-1), []), (17, .ireturn, 1, 0, 0, 0, 0, 0, []), (18, .aload_n 0, 1, 0, 0, 0, 0, 0, []), (19, .getfield 10, 3, 11, 0, 31, 2, 0, []), (22, .iload_n 1, 1, 1, 0, 0, 0, 0, []), (23, .invokevirtual 100, 3, 0, 2, 70, 9, 0, [(0, 4)]), (26, .aload_n 0, 1, 0, 0, 0, 0, 0, []), (27, .getfield 10, 3, 11, 0, 31, 2, 0, []), (30, .iload_n 2, 1, 2, 0, 0, 0, 0, []), (31, .invokevirtual 100, 3, 0, 2, 70, 9, 0, [(0, 4)])],
  [(34, .aload_n 0, 1, 0, 0, 0, 0, 0, []), (35, .getfield 10, 3, 11, 0, 31, 2, 0, []), (38, .iload_n 3, 1, 3, 0, 0, 0, 0, []), (39, .invokevirtual 100, 3, 0, 2, 70, 9, 0, [(0, 4)]), (42, .aload_n 0, 1, 0, 0, 0, 0, 0, []), (43, .getfield 10, 3, 11, 0, 31, 2, 0, []), (46, .iload 4, 2, 4, 0, 0, 0, 0, [])],
  [(48, .invokevirtual 100, 3, 0, 2, 70, 9, 0, [(0, 4)]), (51, .aload_n 0, 1, 0, 0, 0, 0, 0, []), (52, .getfield 10, 3, 11, 0, 31, 2, 0, []), (55, .iload 5, 2, 5, 0, 0, 0, 0, []), (57, .invokevirtual 100, 3, 0, 2, 70, 9, 0, [(0, 4)]), (60, .aload_n 0, 1, 0, 0, 0, 0, 0, []), (61, .getfield 10, 3, 11, 0, 31, 2, 0, [])],
  [(64, .getfield 96, 3, 4, 2, 69, 0, 2, []), (67, .ireturn, 1, 0, 0, 0, 0, 0, [])]]
def i_B_feed : ai_I := ((⟨"SuiteBench", "feed", "(IIIII)I"⟩, prog_1_method_2_code, 6, (some .int), 0, 1, 22, 0, 5, 0, 11) : ai_I)
def o_B_feed (a : Nat) : SP := match a with
  | 0 => f_R_take
  | _ => fun _ _ _ _ _ => False
theorem mo_B_feed : ∀ a, ai_mono (o_B_feed a)
  | 0 => mf_R_take
  | _ + 1 => fun _ _ _ _ _ _ _ h => h
def f_B_feed : SP := ai_M o_B_feed 0 6 k_B_feed
theorem mf_B_feed : ai_mono f_B_feed := M_mono mo_B_feed
abbrev cal_B_feed : List ai_I := [i_R_take]
theorem a_B_feed : ai_all "SuiteBench" prog_1_method_2_code 6 kc_B cal_B_feed 1 22 false (some .int) k_B_feed = true := by decide +kernel
theorem w_B_feed : ai_CW i_B_feed := ⟨(tk_mem (l := [((Jvm.Cond.code ({ cls := "SuiteBench", name := "feed", desc := "(IIIII)I" } : Jvm.MethodName) prog_1_method_2_code (6 : Nat) (Option.some Jvm.ClassFile.FieldType.int)), 3, 234)]) (by decide +kernel) _ (List.mem_singleton.mpr rfl)), (tk_mem (l := [((Jvm.Cond.initialized "SuiteBench"), 1, 1)]) (by decide +kernel) _ (List.mem_singleton.mpr rfl)), ⟨by decide +kernel, by decide +kernel, by decide +kernel⟩, ⟨(tk_mem (l := [((Jvm.Cond.instanceMethod ({ cls := "SuiteBench", name := "feed", desc := "(IIIII)I" } : Jvm.MethodName)), 3, 232)]) (by decide +kernel) _ (List.mem_singleton.mpr rfl)), (tk_mem (l := [((Jvm.Cond.selects "SuiteBench" ({ cls := "SuiteBench", name := "feed", desc := "(IIIII)I" } : Jvm.MethodName) ({ cls := "SuiteBench", name := "feed", desc := "(IIIII)I" } : Jvm.MethodName)), 3, 233)]) (by decide +kernel) _ (List.mem_singleton.mpr rfl)), .inl ⟨_, _, rfl⟩⟩⟩
theorem c_B_feed {E2 : (Nat → Nat) → State → Heap → Prop} (hE : ai_XH E2) : ai_S E2 i_B_feed f_B_feed := snd_M (by decide) rfl (by decide) a_B_feed kc_B_ok (by rfl) (by decide) (fun a i h => match a, h with
    | 0, h => by cases h; exact ⟨c_R_take hE, w_R_take⟩
    | _ + 1, h => by simp [cal_B_feed, ai_nth] at h)
def k_N_feed : ai_C := [
  [(0, .aload_n 0, 1, 0, 0, 0, 0, 0, []), (1, .iconst 0, 1, 0, 0, 0, 0, 0, []), (2, .putfield 145, 3, 12, 0, 67, 0, 0, []), (5, .aload_n 0, 1, 0, 0, 0, 0, 0, []), (6, .getfield 148, 3, 12, 2, 68, 0, 2, []), (9, .sipush 680, 3, 0, 0, 0, 0, 680, []), (12, .if_icmp .le 5, 3, 17, 0, 0, 0, 0, []), (15, .iconst (-1), 1, 0, 0, 0, 0, (-1), [])],
  [(16, .ireturn, 1, 0, 0, 0, 0, 0, []), (17, .iconst 0, 1, 0, 0, 0, 0, 0, []), (18, .istore 6, 2, 6, 0, 0, 0, 0, []), (20, .iload 6, 2, 6, 0, 0, 0, 0, []), (22, .bipush 20, 2, 0, 0, 0, 0, 20, []), (24, .if_icmp .ge 86, 3, 110, 0, 0, 0, 0, []), (27, .iload 6, 2, 6, 0, 0, 0, 0, []), (29, .iconst 4, 1, 0, 0, 0, 0, 4, []), (30, .if_icmp .ge 7, 3, 37, 0, 0, 0, 0, [])],
  [(33, .iload_n 1, 1, 1, 0, 0, 0, 0, []), (34, .goto 39, 3, 73, 0, 0, 0, 0, []), (37, .iload 6, 2, 6, 0, 0, 0, 0, []), (39, .bipush 8, 2, 0, 0, 0, 0, 8, []), (41, .if_icmp .ge 7, 3, 48, 0, 0, 0, 0, []), (44, .iload_n 2, 1, 2, 0, 0, 0, 0, []), (45, .goto 28, 3, 73, 0, 0, 0, 0, [])],
  [(48, .iload 6, 2, 6, 0, 0, 0, 0, []), (50, .bipush 12, 2, 0, 0, 0, 0, 12, []), (52, .if_icmp .ge 7, 3, 59, 0, 0, 0, 0, []), (55, .iload_n 3, 1, 3, 0, 0, 0, 0, []), (56, .goto 17, 3, 73, 0, 0, 0, 0, []), (59, .iload 6, 2, 6, 0, 0, 0, 0, []), (61, .bipush 16, 2, 0, 0, 0, 0, 16, []), (63, .if_icmp .ge 8, 3, 71, 0, 0, 0, 0, [])],
  [(66, .iload 4, 2, 4, 0, 0, 0, 0, []), (68, .goto 5, 3, 73, 0, 0, 0, 0, []), (71, .iload 5, 2, 5, 0, 0, 0, 0, []), (73, .istore 7, 2, 7, 0, 0, 0, 0, []), (75, .aload_n 0, 1, 0, 0, 0, 0, 0, []), (76, .getfield 7, 3, 12, 1, 41, 2, 1, []), (79, .aload_n 0, 1, 0, 0, 0, 0, 0, [])],
  [(80, .getfield 148, 3, 12, 2, 68, 0, 2, []), (83, .iload 6, 2, 6, 0, 0, 0, 0, []), (85, .iadd, 1, 0, 0, 0, 0, 0, []), (86, .iload 7, 2, 7, 0, 0, 0, 0, []), (88, .bipush 24, 2, 0, 0, 0, 0, 24, []), (90, .bipush 8, 2, 0, 0, 0, 0, 8, []), (92, .iload 6, 2, 6, 0, 0, 0, 0, []), (94, .iconst 4, 1, 0, 0, 0, 0, 4, []), (95, .irem, 1, 0, 0, 0, 0, 0, [])],
  [(96, .imul, 1, 0, 0, 0, 0, 0, []), (97, .isub, 1, 0, 0, 0, 0, 0, []), (98, .ishr, 1, 0, 0, 0, 0, 0, []), (99, .sipush 255, 3, 0, 0, 0, 0, 255, []), (102, .iand, 1, 0, 0, 0, 0, 0, []), (103, .iastore, 1, 0, 0, 0, 0, 0, []), (104, .iinc 6 1, 3, 6, 0, 0, 0, 1, []), (107, .goto (-87), 3, 20, 0, 0, 0, 0, []), (110, .aload_n 0, 1, 0, 0, 0, 0, 0, []), (111, .dup, 1, 0, 0, 0, 0, 0, [])],
  [(112, .getfield 148, 3, 12, 2, 68, 0, 2, []), (115, .bipush 20, 2, 0, 0, 0, 0, 20, []), (117, .iadd, 1, 0, 0, 0, 0, 0, []), (118, .putfield 148, 3, 12, 2, 68, 0, 2, []), (121, .aload_n 0, 1, 0, 0, 0, 0, 0, []), (122, .getfield 148, 3, 12, 2, 68, 0, 2, []), (125, .ireturn, 1, 0, 0, 0, 0, 0, [])]]
def i_N_feed : ai_I := ((⟨"SuiteBenchModel", "feed", "(IIIII)I"⟩, prog_14_method_3_code, 8, (some .int), 0, 0, 0, 0, 5, 0, 12) : ai_I)
def o_N_feed (_ : Nat) : SP := fun _ _ _ _ _ => False
theorem mo_N_feed : ∀ a, ai_mono (o_N_feed a) := fun _ _ _ _ _ _ _ _ h => h
def f_N_feed : SP := ai_M o_N_feed 0 8 k_N_feed
theorem mf_N_feed : ai_mono f_N_feed := M_mono mo_N_feed
abbrev cal_N_feed : List ai_I := []
theorem a_N_feed : ai_all "SuiteBenchModel" prog_14_method_3_code 8 kc_N cal_N_feed 0 0 false (some .int) k_N_feed = true := by decide +kernel
theorem w_N_feed : ai_CW i_N_feed := ⟨(tk_mem (l := [((Jvm.Cond.code ({ cls := "SuiteBenchModel", name := "feed", desc := "(IIIII)I" } : Jvm.MethodName) prog_14_method_3_code (8 : Nat) (Option.some Jvm.ClassFile.FieldType.int)), 8, 69)]) (by decide +kernel) _ (List.mem_singleton.mpr rfl)), (tk_mem (l := [((Jvm.Cond.initialized "SuiteBenchModel"), 1, 15)]) (by decide +kernel) _ (List.mem_singleton.mpr rfl)), ⟨by decide +kernel, by decide +kernel, by decide +kernel⟩, ⟨(tk_mem (l := [((Jvm.Cond.instanceMethod ({ cls := "SuiteBenchModel", name := "feed", desc := "(IIIII)I" } : Jvm.MethodName)), 8, 67)]) (by decide +kernel) _ (List.mem_singleton.mpr rfl)), (tk_mem (l := [((Jvm.Cond.selects "SuiteBenchModel" ({ cls := "SuiteBenchModel", name := "feed", desc := "(IIIII)I" } : Jvm.MethodName) ({ cls := "SuiteBenchModel", name := "feed", desc := "(IIIII)I" } : Jvm.MethodName)), 8, 68)]) (by decide +kernel) _ (List.mem_singleton.mpr rfl)), .inl ⟨_, _, rfl⟩⟩⟩
theorem c_N_feed {E2 : (Nat → Nat) → State → Heap → Prop} (hE : ai_XH E2) : ai_S E2 i_N_feed f_N_feed := snd_M (by decide) rfl (by decide) a_N_feed kc_N_ok (by rfl) (by decide) (fun a i h => by simp [cal_N_feed, ai_nth] at h)
def k_R_advance : ai_C := [
  [(0, .aload_n 0, 1, 0, 0, 0, 0, 0, []), (1, .getfield 38, 3, 4, 6, 10, 0, 6, []), (4, .aload_n 0, 1, 0, 0, 0, 0, 0, []), (5, .getfield 35, 3, 4, 5, 11, 0, 5, []), (8, .if_icmp .ge 44, 3, 52, 0, 0, 0, 0, []), (11, .aload_n 0, 1, 0, 0, 0, 0, 0, []), (12, .getfield 9, 3, 4, 0, 2, 2, 0, []), (15, .aload_n 0, 1, 0, 0, 0, 0, 0, [])],
  [(16, .getfield 38, 3, 4, 6, 10, 0, 6, []), (19, .baload, 1, 0, 0, 0, 53, 0, []), (20, .bipush 10, 2, 0, 0, 0, 0, 10, []), (22, .if_icmp .eq 17, 3, 39, 0, 0, 0, 0, []), (25, .aload_n 0, 1, 0, 0, 0, 0, 0, []), (26, .getfield 9, 3, 4, 0, 2, 2, 0, []), (29, .aload_n 0, 1, 0, 0, 0, 0, 0, []), (30, .getfield 38, 3, 4, 6, 10, 0, 6, [])],
  [(33, .baload, 1, 0, 0, 0, 53, 0, []), (34, .bipush 32, 2, 0, 0, 0, 0, 32, []), (36, .if_icmp .ne 16, 3, 52, 0, 0, 0, 0, []), (39, .aload_n 0, 1, 0, 0, 0, 0, 0, []), (40, .dup, 1, 0, 0, 0, 0, 0, []), (41, .getfield 38, 3, 4, 6, 10, 0, 6, []), (44, .iconst 1, 1, 0, 0, 0, 0, 1, []), (45, .iadd, 1, 0, 0, 0, 0, 0, []), (46, .putfield 38, 3, 4, 6, 10, 0, 6, [])],
  [(49, .goto (-49), 3, 0, 0, 0, 0, 0, []), (52, .aload_n 0, 1, 0, 0, 0, 0, 0, []), (53, .aload_n 0, 1, 0, 0, 0, 0, 0, []), (54, .getfield 38, 3, 4, 6, 10, 0, 6, []), (57, .putfield 63, 3, 4, 9, 12, 0, 9, []), (60, .aload_n 0, 1, 0, 0, 0, 0, 0, []), (61, .iconst 0, 1, 0, 0, 0, 0, 0, []), (62, .putfield 66, 3, 4, 8, 13, 0, 8, [])],
  [(65, .aload_n 0, 1, 0, 0, 0, 0, 0, []), (66, .aload_n 0, 1, 0, 0, 0, 0, 0, []), (67, .getfield 38, 3, 4, 6, 10, 0, 6, []), (70, .aload_n 0, 1, 0, 0, 0, 0, 0, []), (71, .getfield 35, 3, 4, 5, 11, 0, 5, []), (74, .if_icmp .ge 7, 3, 81, 0, 0, 0, 0, []), (77, .iconst 4, 1, 0, 0, 0, 0, 4, []), (78, .goto 4, 3, 82, 0, 0, 0, 0, [])],
  [(81, .iconst 0, 1, 0, 0, 0, 0, 0, []), (82, .putfield 50, 3, 4, 7, 14, 0, 7, []), (85, .bipush 25, 2, 0, 0, 0, 0, 25, []), (87, .istore_n 1, 1, 1, 0, 0, 0, 0, []), (88, .aload_n 0, 1, 0, 0, 0, 0, 0, []), (89, .getfield 38, 3, 4, 6, 10, 0, 6, []), (92, .aload_n 0, 1, 0, 0, 0, 0, 0, []), (93, .getfield 35, 3, 4, 5, 11, 0, 5, [])],
  [(96, .if_icmp .ge 95, 3, 191, 0, 0, 0, 0, []), (99, .aload_n 0, 1, 0, 0, 0, 0, 0, []), (100, .getfield 9, 3, 4, 0, 2, 2, 0, []), (103, .aload_n 0, 1, 0, 0, 0, 0, 0, []), (104, .getfield 38, 3, 4, 6, 10, 0, 6, []), (107, .baload, 1, 0, 0, 0, 53, 0, []), (108, .bipush 97, 2, 0, 0, 0, 0, 97, []), (110, .if_icmp .lt 81, 3, 191, 0, 0, 0, 0, [])],
  [(113, .aload_n 0, 1, 0, 0, 0, 0, 0, []), (114, .getfield 9, 3, 4, 0, 2, 2, 0, []), (117, .aload_n 0, 1, 0, 0, 0, 0, 0, []), (118, .getfield 38, 3, 4, 6, 10, 0, 6, []), (121, .baload, 1, 0, 0, 0, 53, 0, []), (122, .bipush 122, 2, 0, 0, 0, 0, 122, []), (124, .if_icmp .gt 67, 3, 191, 0, 0, 0, 0, []), (127, .aload_n 0, 1, 0, 0, 0, 0, 0, [])],
  [(128, .dup, 1, 0, 0, 0, 0, 0, []), (129, .getfield 66, 3, 4, 8, 13, 0, 8, []), (132, .iload_n 1, 1, 1, 0, 0, 0, 0, []), (133, .ifCond .lt 22, 3, 155, 0, 0, 0, 0, []), (136, .aload_n 0, 1, 0, 0, 0, 0, 0, []), (137, .getfield 9, 3, 4, 0, 2, 2, 0, []), (140, .aload_n 0, 1, 0, 0, 0, 0, 0, []), (141, .getfield 38, 3, 4, 6, 10, 0, 6, [])],
  [(144, .baload, 1, 0, 0, 0, 53, 0, []), (145, .bipush 97, 2, 0, 0, 0, 0, 97, []), (147, .isub, 1, 0, 0, 0, 0, 0, []), (148, .iconst 1, 1, 0, 0, 0, 0, 1, []), (149, .iadd, 1, 0, 0, 0, 0, 0, []), (150, .iload_n 1, 1, 1, 0, 0, 0, 0, []), (151, .ishl, 1, 0, 0, 0, 0, 0, []), (152, .goto 4, 3, 156, 0, 0, 0, 0, []), (155, .iconst 0, 1, 0, 0, 0, 0, 0, []), (156, .ior, 1, 0, 0, 0, 0, 0, []), (157, .putfield 66, 3, 4, 8, 13, 0, 8, [])],
  [(160, .iinc 1 (-5), 3, 1, 0, 0, 0, (-5), []), (163, .aload_n 0, 1, 0, 0, 0, 0, 0, []), (164, .iload_n 1, 1, 1, 0, 0, 0, 0, []), (165, .bipush (-5), 2, 0, 0, 0, 0, (-5), []), (167, .if_icmp .ge 7, 3, 174, 0, 0, 0, 0, []), (170, .iconst 4, 1, 0, 0, 0, 0, 4, []), (171, .goto 4, 3, 175, 0, 0, 0, 0, []), (174, .iconst 1, 1, 0, 0, 0, 0, 1, []), (175, .putfield 50, 3, 4, 7, 14, 0, 7, [])],
  [(178, .aload_n 0, 1, 0, 0, 0, 0, 0, []), (179, .dup, 1, 0, 0, 0, 0, 0, []), (180, .getfield 38, 3, 4, 6, 10, 0, 6, []), (183, .iconst 1, 1, 0, 0, 0, 0, 1, []), (184, .iadd, 1, 0, 0, 0, 0, 0, []), (185, .putfield 38, 3, 4, 6, 10, 0, 6, []), (188, .goto (-100), 3, 88, 0, 0, 0, 0, []), (191, .aload_n 0, 1, 0, 0, 0, 0, 0, [])],
  [(192, .getfield 38, 3, 4, 6, 10, 0, 6, []), (195, .aload_n 0, 1, 0, 0, 0, 0, 0, []), (196, .getfield 63, 3, 4, 9, 12, 0, 9, []), (199, .if_icmp .le 4, 3, 203, 0, 0, 0, 0, []), (202, .return_, 1, 0, 0, 0, 0, 0, []), (203, .aload_n 0, 1, 0, 0, 0, 0, 0, []), (204, .getfield 38, 3, 4, 6, 10, 0, 6, []), (207, .aload_n 0, 1, 0, 0, 0, 0, 0, [])],
  [(208, .getfield 35, 3, 4, 5, 11, 0, 5, []), (211, .if_icmp .ge 89, 3, 300, 0, 0, 0, 0, []), (214, .aload_n 0, 1, 0, 0, 0, 0, 0, []), (215, .getfield 9, 3, 4, 0, 2, 2, 0, []), (218, .aload_n 0, 1, 0, 0, 0, 0, 0, []), (219, .getfield 38, 3, 4, 6, 10, 0, 6, []), (222, .baload, 1, 0, 0, 0, 53, 0, []), (223, .bipush 48, 2, 0, 0, 0, 0, 48, [])],
  [(225, .if_icmp .lt 75, 3, 300, 0, 0, 0, 0, []), (228, .aload_n 0, 1, 0, 0, 0, 0, 0, []), (229, .getfield 9, 3, 4, 0, 2, 2, 0, []), (232, .aload_n 0, 1, 0, 0, 0, 0, 0, []), (233, .getfield 38, 3, 4, 6, 10, 0, 6, []), (236, .baload, 1, 0, 0, 0, 53, 0, []), (237, .bipush 57, 2, 0, 0, 0, 0, 57, []), (239, .if_icmp .gt 61, 3, 300, 0, 0, 0, 0, [])],
  [(242, .aload_n 0, 1, 0, 0, 0, 0, 0, []), (243, .aload_n 0, 1, 0, 0, 0, 0, 0, []), (244, .getfield 66, 3, 4, 8, 13, 0, 8, []), (247, .ldc 69, 2, 0, 0, 15, 0, 99999, []), (249, .if_icmp .gt 26, 3, 275, 0, 0, 0, 0, []), (252, .aload_n 0, 1, 0, 0, 0, 0, 0, []), (253, .getfield 66, 3, 4, 8, 13, 0, 8, [])],
  [(256, .bipush 10, 2, 0, 0, 0, 0, 10, []), (258, .imul, 1, 0, 0, 0, 0, 0, []), (259, .aload_n 0, 1, 0, 0, 0, 0, 0, []), (260, .getfield 9, 3, 4, 0, 2, 2, 0, []), (263, .aload_n 0, 1, 0, 0, 0, 0, 0, []), (264, .getfield 38, 3, 4, 6, 10, 0, 6, []), (267, .baload, 1, 0, 0, 0, 53, 0, []), (268, .iadd, 1, 0, 0, 0, 0, 0, []), (269, .bipush 48, 2, 0, 0, 0, 0, 48, []), (271, .isub, 1, 0, 0, 0, 0, 0, [])],
  [(272, .goto 7, 3, 279, 0, 0, 0, 0, []), (275, .aload_n 0, 1, 0, 0, 0, 0, 0, []), (276, .getfield 66, 3, 4, 8, 13, 0, 8, []), (279, .putfield 66, 3, 4, 8, 13, 0, 8, []), (282, .aload_n 0, 1, 0, 0, 0, 0, 0, []), (283, .iconst 2, 1, 0, 0, 0, 0, 2, []), (284, .putfield 50, 3, 4, 7, 14, 0, 7, []), (287, .aload_n 0, 1, 0, 0, 0, 0, 0, [])],
  [(288, .dup, 1, 0, 0, 0, 0, 0, []), (289, .getfield 38, 3, 4, 6, 10, 0, 6, []), (292, .iconst 1, 1, 0, 0, 0, 0, 1, []), (293, .iadd, 1, 0, 0, 0, 0, 0, []), (294, .putfield 38, 3, 4, 6, 10, 0, 6, []), (297, .goto (-94), 3, 203, 0, 0, 0, 0, []), (300, .aload_n 0, 1, 0, 0, 0, 0, 0, []), (301, .getfield 38, 3, 4, 6, 10, 0, 6, [])],
  [(304, .aload_n 0, 1, 0, 0, 0, 0, 0, []), (305, .getfield 63, 3, 4, 9, 12, 0, 9, []), (308, .if_icmp .ne 47, 3, 355, 0, 0, 0, 0, []), (311, .aload_n 0, 1, 0, 0, 0, 0, 0, []), (312, .getfield 38, 3, 4, 6, 10, 0, 6, []), (315, .aload_n 0, 1, 0, 0, 0, 0, 0, []), (316, .getfield 35, 3, 4, 5, 11, 0, 5, []), (319, .if_icmp .ge 36, 3, 355, 0, 0, 0, 0, [])],
  [(322, .aload_n 0, 1, 0, 0, 0, 0, 0, []), (323, .aload_n 0, 1, 0, 0, 0, 0, 0, []), (324, .getfield 9, 3, 4, 0, 2, 2, 0, []), (327, .aload_n 0, 1, 0, 0, 0, 0, 0, []), (328, .getfield 38, 3, 4, 6, 10, 0, 6, []), (331, .baload, 1, 0, 0, 0, 53, 0, []), (332, .bipush 59, 2, 0, 0, 0, 0, 59, []), (334, .if_icmp .ne 7, 3, 341, 0, 0, 0, 0, [])],
  [(337, .iconst 3, 1, 0, 0, 0, 0, 3, []), (338, .goto 4, 3, 342, 0, 0, 0, 0, []), (341, .iconst 4, 1, 0, 0, 0, 0, 4, []), (342, .putfield 50, 3, 4, 7, 14, 0, 7, []), (345, .aload_n 0, 1, 0, 0, 0, 0, 0, []), (346, .dup, 1, 0, 0, 0, 0, 0, []), (347, .getfield 38, 3, 4, 6, 10, 0, 6, []), (350, .iconst 1, 1, 0, 0, 0, 0, 1, []), (351, .iadd, 1, 0, 0, 0, 0, 0, [])],
  [(352, .putfield 38, 3, 4, 6, 10, 0, 6, []), (355, .return_, 1, 0, 0, 0, 0, 0, [])]]
def i_R_advance : ai_I := ((⟨"SuiteBench$Reader", "advance", "()V"⟩, prog_6_method_5_code, 2, none, 9, 0, 0, 0, 0, 0, 4) : ai_I)
def o_R_advance (_ : Nat) : SP := fun _ _ _ _ _ => False
theorem mo_R_advance : ∀ a, ai_mono (o_R_advance a) := fun _ _ _ _ _ _ _ _ h => h
def f_R_advance : SP := ai_M o_R_advance 0 2 k_R_advance
theorem mf_R_advance : ai_mono f_R_advance := M_mono mo_R_advance
abbrev cal_R_advance : List ai_I := []
theorem a_R_advance : ai_all "SuiteBench$Reader" prog_6_method_5_code 2 kc_R cal_R_advance 0 0 false none k_R_advance = true := by decide +kernel
theorem w_R_advance : ai_CW i_R_advance := ⟨(tk_mem (l := [((Jvm.Cond.code ({ cls := "SuiteBench$Reader", name := "advance", desc := "()V" } : Jvm.MethodName) prog_6_method_5_code (2 : Nat) (Option.none : Option Jvm.ClassFile.FieldType)), 4, 14)]) (by decide +kernel) _ (List.mem_singleton.mpr rfl)), (tk_mem (l := [((Jvm.Cond.initialized "SuiteBench$Reader"), 1, 2)]) (by decide +kernel) _ (List.mem_singleton.mpr rfl)), ⟨by decide +kernel, by decide +kernel, by decide +kernel⟩, ⟨(tk_mem (l := [((Jvm.Cond.instanceMethod ({ cls := "SuiteBench$Reader", name := "advance", desc := "()V" } : Jvm.MethodName)), 4, 13)]) (by decide +kernel) _ (List.mem_singleton.mpr rfl)), gw_sel 13 (by decide +kernel), .inl ⟨_, _, rfl⟩⟩⟩
theorem c_R_advance {E2 : (Nat → Nat) → State → Heap → Prop} (hE : ai_XH E2) : ai_S E2 i_R_advance f_R_advance := snd_M (by decide) rfl (by decide) a_R_advance kc_R_ok (by rfl) (by decide) (fun a i h => by simp [cal_R_advance, ai_nth] at h)
def k_R_wrong : ai_C := [
  [(0, .aload_n 0, 1, 0, 0, 0, 0, 0, []), (1, .iload_n 1, 1, 1, 0, 0, 0, 0, []), (2, .putfield 41, 3, 4, 3, 16, 0, 3, []), (5, .aload_n 0, 1, 0, 0, 0, 0, 0, []), (6, .aload_n 0, 1, 0, 0, 0, 0, 0, []), (7, .getfield 63, 3, 4, 9, 12, 0, 9, []), (10, .putfield 22, 3, 4, 4, 8, 0, 4, []), (13, .iconst 0, 1, 0, 0, 0, 0, 0, []), (14, .ireturn, 1, 0, 0, 0, 3, 0, [])]]
def i_R_wrong : ai_I := ((⟨"SuiteBench$Reader", "wrong", "(I)Z"⟩, prog_6_method_4_code, 2, (some .boolean), 3, 0, 0, 0, 1, 0, 4) : ai_I)
def o_R_wrong (_ : Nat) : SP := fun _ _ _ _ _ => False
theorem mo_R_wrong : ∀ a, ai_mono (o_R_wrong a) := fun _ _ _ _ _ _ _ _ h => h
def f_R_wrong : SP := ai_M o_R_wrong 0 2 k_R_wrong
theorem mf_R_wrong : ai_mono f_R_wrong := M_mono mo_R_wrong
abbrev cal_R_wrong : List ai_I := []
theorem a_R_wrong : ai_all "SuiteBench$Reader" prog_6_method_4_code 2 kc_R cal_R_wrong 0 0 false (some .boolean) k_R_wrong = true := by decide +kernel
theorem w_R_wrong : ai_CW i_R_wrong := ⟨(tk_mem (l := [((Jvm.Cond.code ({ cls := "SuiteBench$Reader", name := "wrong", desc := "(I)Z" } : Jvm.MethodName) prog_6_method_4_code (2 : Nat) (Option.some Jvm.ClassFile.FieldType.boolean)), 4, 23)]) (by decide +kernel) _ (List.mem_singleton.mpr rfl)), (tk_mem (l := [((Jvm.Cond.initialized "SuiteBench$Reader"), 1, 2)]) (by decide +kernel) _ (List.mem_singleton.mpr rfl)), ⟨by decide +kernel, by decide +kernel, by decide +kernel⟩, ⟨(tk_mem (l := [((Jvm.Cond.instanceMethod ({ cls := "SuiteBench$Reader", name := "wrong", desc := "(I)Z" } : Jvm.MethodName)), 4, 22)]) (by decide +kernel) _ (List.mem_singleton.mpr rfl)), gw_sel 15 (by decide +kernel), .inl ⟨_, _, rfl⟩⟩⟩
theorem c_R_wrong {E2 : (Nat → Nat) → State → Heap → Prop} (hE : ai_XH E2) : ai_S E2 i_R_wrong f_R_wrong := snd_M (by decide) rfl (by decide) a_R_wrong kc_R_ok (by rfl) (by decide) (fun a i h => by simp [cal_R_wrong, ai_nth] at h)
def k_R_isOfLanguage : ai_C := [
  [(0, .iload_n 0, 1, 0, 0, 0, 0, 0, []), (1, .ldc 121, 2, 0, 0, 17, 0, 658559136, []), (3, .if_icmp .eq 39, 3, 42, 0, 0, 0, 0, []), (6, .iload_n 0, 1, 0, 0, 0, 0, 0, []), (7, .ldc 122, 2, 0, 0, 18, 0, 317216384, []), (9, .if_icmp .eq 33, 3, 42, 0, 0, 0, 0, []), (12, .iload_n 0, 1, 0, 0, 0, 0, 0, []), (13, .ldc 123, 2, 0, 0, 19, 0, 452531200, []), (15, .if_icmp .eq 27, 3, 42, 0, 0, 0, 0, [])],
  [(18, .iload_n 0, 1, 0, 0, 0, 0, 0, []), (19, .ldc 124, 2, 0, 0, 20, 0, 52527104, []), (21, .if_icmp .eq 21, 3, 42, 0, 0, 0, 0, []), (24, .iload_n 0, 1, 0, 0, 0, 0, 0, []), (25, .ldc 125, 2, 0, 0, 21, 0, 695520896, []), (27, .if_icmp .eq 15, 3, 42, 0, 0, 0, 0, []), (30, .iload_n 0, 1, 0, 0, 0, 0, 0, []), (31, .ldc 126, 2, 0, 0, 22, 0, 193611808, [])],
  [(33, .if_icmp .eq 9, 3, 42, 0, 0, 0, 0, []), (36, .iload_n 0, 1, 0, 0, 0, 0, 0, []), (37, .ldc 127, 2, 0, 0, 23, 0, 642945024, []), (39, .if_icmp .ne 7, 3, 46, 0, 0, 0, 0, []), (42, .iconst 1, 1, 0, 0, 0, 0, 1, []), (43, .goto 4, 3, 47, 0, 0, 0, 0, []), (46, .iconst 0, 1, 0, 0, 0, 0, 0, []), (47, .ireturn, 1, 0, 0, 0, 3, 0, [])]]
def i_R_isOfLanguage : ai_I := ((⟨"SuiteBench$Reader", "isOfLanguage", "(I)Z"⟩, prog_6_method_12_code, 1, (some .boolean), 3, 0, 0, 0, 1, 1, 4) : ai_I)
def o_R_isOfLanguage (_ : Nat) : SP := fun _ _ _ _ _ => False
theorem mo_R_isOfLanguage : ∀ a, ai_mono (o_R_isOfLanguage a) := fun _ _ _ _ _ _ _ _ h => h
def f_R_isOfLanguage : SP := ai_M o_R_isOfLanguage 0 1 k_R_isOfLanguage
theorem mf_R_isOfLanguage : ai_mono f_R_isOfLanguage := M_mono mo_R_isOfLanguage
abbrev cal_R_isOfLanguage : List ai_I := []
theorem a_R_isOfLanguage : ai_all "SuiteBench$Reader" prog_6_method_12_code 1 kc_R cal_R_isOfLanguage 0 0 false (some .boolean) k_R_isOfLanguage = true := by decide +kernel
theorem w_R_isOfLanguage : ai_CW i_R_isOfLanguage := ⟨(tk_mem (l := [((Jvm.Cond.code ({ cls := "SuiteBench$Reader", name := "isOfLanguage", desc := "(I)Z" } : Jvm.MethodName) prog_6_method_12_code (1 : Nat) (Option.some Jvm.ClassFile.FieldType.boolean)), 4, 38)]) (by decide +kernel) _ (List.mem_singleton.mpr rfl)), (tk_mem (l := [((Jvm.Cond.initialized "SuiteBench$Reader"), 1, 2)]) (by decide +kernel) _ (List.mem_singleton.mpr rfl)), ⟨by decide +kernel, by decide +kernel, by decide +kernel⟩, (tk_mem (l := [((Jvm.Cond.static ({ cls := "SuiteBench$Reader", name := "isOfLanguage", desc := "(I)Z" } : Jvm.MethodName)), 4, 37)]) (by decide +kernel) _ (List.mem_singleton.mpr rfl))⟩
theorem c_R_isOfLanguage {E2 : (Nat → Nat) → State → Heap → Prop} (hE : ai_XH E2) : ai_S E2 i_R_isOfLanguage f_R_isOfLanguage := snd_M (by decide) rfl (by decide) a_R_isOfLanguage kc_R_ok (by rfl) (by decide) (fun a i h => by simp [cal_R_isOfLanguage, ai_nth] at h)
def k_R_readName : ai_C := [
  [(0, .aload_n 0, 1, 0, 0, 0, 0, 0, []), (1, .invokevirtual 47, 3, 0, 1, 24, 9, 0, [(0, 4)]), (4, .aload_n 0, 1, 0, 0, 0, 0, 0, []), (5, .getfield 50, 3, 4, 7, 14, 0, 7, []), (8, .iconst 1, 1, 0, 0, 0, 0, 1, []), (9, .if_icmp .ne 13, 3, 22, 0, 0, 0, 0, []), (12, .aload_n 0, 1, 0, 0, 0, 0, 0, []), (13, .getfield 66, 3, 4, 8, 13, 0, 8, [])],
  [(16, .invokestatic 118, 3, 1, 1, 25, 0, 0, [(0, 4)]), (19, .ifCond .eq 11, 3, 30, 0, 0, 0, 0, []), (22, .aload_n 0, 1, 0, 0, 0, 0, 0, []), (23, .iconst 1, 1, 0, 0, 0, 0, 1, []), (24, .invokevirtual 70, 3, 2, 2, 26, 0, 0, [(0, 4)]), (27, .ifCond .eq 7, 3, 34, 0, 0, 0, 0, []), (30, .iconst 1, 1, 0, 0, 0, 0, 1, []), (31, .goto 4, 3, 35, 0, 0, 0, 0, [])],
  [(34, .iconst 0, 1, 0, 0, 0, 0, 0, []), (35, .ireturn, 1, 0, 0, 0, 3, 0, [])]]
def i_R_readName : ai_I := ((⟨"SuiteBench$Reader", "readName", "()Z"⟩, prog_6_method_11_code, 1, (some .boolean), 3, 1, 21, 0, 0, 0, 4) : ai_I)
def o_R_readName (a : Nat) : SP := match a with
  | 0 => f_R_advance
  | 1 => f_R_isOfLanguage
  | 2 => f_R_wrong
  | _ => fun _ _ _ _ _ => False
theorem mo_R_readName : ∀ a, ai_mono (o_R_readName a)
  | 0 => mf_R_advance
  | 1 => mf_R_isOfLanguage
  | 2 => mf_R_wrong
  | _ + 3 => fun _ _ _ _ _ _ _ h => h
def f_R_readName : SP := ai_M o_R_readName 0 1 k_R_readName
theorem mf_R_readName : ai_mono f_R_readName := M_mono mo_R_readName
abbrev cal_R_readName : List ai_I := [i_R_advance, i_R_isOfLanguage, i_R_wrong]
theorem a_R_readName : ai_all "SuiteBench$Reader" prog_6_method_11_code 1 kc_R cal_R_readName 1 21 false (some .boolean) k_R_readName = true := by decide +kernel
theorem w_R_readName : ai_CW i_R_readName := ⟨(tk_mem (l := [((Jvm.Cond.code ({ cls := "SuiteBench$Reader", name := "readName", desc := "()Z" } : Jvm.MethodName) prog_6_method_11_code (1 : Nat) (Option.some Jvm.ClassFile.FieldType.boolean)), 4, 35)]) (by decide +kernel) _ (List.mem_singleton.mpr rfl)), (tk_mem (l := [((Jvm.Cond.initialized "SuiteBench$Reader"), 1, 2)]) (by decide +kernel) _ (List.mem_singleton.mpr rfl)), ⟨by decide +kernel, by decide +kernel, by decide +kernel⟩, ⟨(tk_mem (l := [((Jvm.Cond.instanceMethod ({ cls := "SuiteBench$Reader", name := "readName", desc := "()Z" } : Jvm.MethodName)), 4, 34)]) (by decide +kernel) _ (List.mem_singleton.mpr rfl)), gw_sel 18 (by decide +kernel), .inl ⟨_, _, rfl⟩⟩⟩
theorem c_R_readName {E2 : (Nat → Nat) → State → Heap → Prop} (hE : ai_XH E2) : ai_S E2 i_R_readName f_R_readName := snd_M (by decide) rfl (by decide) a_R_readName kc_R_ok (by rfl) (by decide) (fun a i h => match a, h with
    | 0, h => by cases h; exact ⟨c_R_advance hE, w_R_advance⟩
    | 1, h => by cases h; exact ⟨c_R_isOfLanguage hE, w_R_isOfLanguage⟩
    | 2, h => by cases h; exact ⟨c_R_wrong hE, w_R_wrong⟩
    | _ + 3, h => by simp [cal_R_readName, ai_nth] at h)
def k_P_placeNamed : ai_C := [
  [(0, .iconst 0, 1, 0, 0, 0, 0, 0, []), (1, .istore_n 2, 1, 2, 0, 0, 0, 0, []), (2, .iload_n 2, 1, 2, 0, 0, 0, 0, []), (3, .aload_n 0, 1, 0, 0, 0, 0, 0, []), (4, .getfield 33, 3, 3, 4, 3, 0, 4, []), (7, .aload_n 0, 1, 0, 0, 0, 0, 0, []), (8, .getfield 37, 3, 3, 5, 4, 0, 5, []), (11, .iadd, 1, 0, 0, 0, 0, 0, []), (12, .if_icmp .ge 27, 3, 39, 0, 0, 0, 0, []), (15, .iload_n 2, 1, 2, 0, 0, 0, 0, [])],
  [(16, .bipush 8, 2, 0, 0, 0, 0, 8, []), (18, .if_icmp .ge 21, 3, 39, 0, 0, 0, 0, []), (21, .aload_n 0, 1, 0, 0, 0, 0, 0, []), (22, .getfield 9, 3, 3, 0, 13, 2, 0, []), (25, .iload_n 2, 1, 2, 0, 0, 0, 0, []), (26, .iaload, 1, 0, 0, 0, 0, 0, []), (27, .iload_n 1, 1, 1, 0, 0, 0, 0, []), (28, .if_icmp .ne 5, 3, 33, 0, 0, 0, 0, []), (31, .iload_n 2, 1, 2, 0, 0, 0, 0, [])],
  [(32, .ireturn, 1, 0, 0, 0, 0, 0, []), (33, .iinc 2 1, 3, 2, 0, 0, 0, 1, []), (36, .goto (-34), 3, 2, 0, 0, 0, 0, []), (39, .iconst (-1), 1, 0, 0, 0, 0, (-1), []), (40, .ireturn, 1, 0, 0, 0, 0, 0, [])]]
def i_P_placeNamed : ai_I := ((⟨"SuiteBench$Plan", "placeNamed", "(I)I"⟩, prog_5_method_3_code, 3, (some .int), 0, 0, 0, 0, 1, 0, 3) : ai_I)
def o_P_placeNamed (_ : Nat) : SP := fun _ _ _ _ _ => False
theorem mo_P_placeNamed : ∀ a, ai_mono (o_P_placeNamed a) := fun _ _ _ _ _ _ _ _ h => h
def f_P_placeNamed : SP := ai_M o_P_placeNamed 0 3 k_P_placeNamed
theorem mf_P_placeNamed : ai_mono f_P_placeNamed := M_mono mo_P_placeNamed
abbrev cal_P_placeNamed : List ai_I := []
theorem a_P_placeNamed : ai_all "SuiteBench$Plan" prog_5_method_3_code 3 kc_P cal_P_placeNamed 0 0 false (some .int) k_P_placeNamed = true := by decide +kernel
theorem w_P_placeNamed : ai_CW i_P_placeNamed := ⟨(tk_mem (l := [((Jvm.Cond.code ({ cls := "SuiteBench$Plan", name := "placeNamed", desc := "(I)I" } : Jvm.MethodName) prog_5_method_3_code (3 : Nat) (Option.some Jvm.ClassFile.FieldType.int)), 4, 53)]) (by decide +kernel) _ (List.mem_singleton.mpr rfl)), (tk_mem (l := [((Jvm.Cond.initialized "SuiteBench$Plan"), 1, 3)]) (by decide +kernel) _ (List.mem_singleton.mpr rfl)), ⟨by decide +kernel, by decide +kernel, by decide +kernel⟩, ⟨(tk_mem (l := [((Jvm.Cond.instanceMethod ({ cls := "SuiteBench$Plan", name := "placeNamed", desc := "(I)I" } : Jvm.MethodName)), 4, 51)]) (by decide +kernel) _ (List.mem_singleton.mpr rfl)), (tk_mem (l := [((Jvm.Cond.selects "SuiteBench$Plan" ({ cls := "SuiteBench$Plan", name := "placeNamed", desc := "(I)I" } : Jvm.MethodName) ({ cls := "SuiteBench$Plan", name := "placeNamed", desc := "(I)I" } : Jvm.MethodName)), 4, 52)]) (by decide +kernel) _ (List.mem_singleton.mpr rfl)), .inl ⟨_, _, rfl⟩⟩⟩
theorem c_P_placeNamed {E2 : (Nat → Nat) → State → Heap → Prop} (hE : ai_XH E2) : ai_S E2 i_P_placeNamed f_P_placeNamed := snd_M (by decide) rfl (by decide) a_P_placeNamed kc_P_ok (by rfl) (by decide) (fun a i h => by simp [cal_P_placeNamed, ai_nth] at h)
def k_P_inputNamed : ai_C := [
  [(0, .iconst 0, 1, 0, 0, 0, 0, 0, []), (1, .istore_n 2, 1, 2, 0, 0, 0, 0, []), (2, .iload_n 2, 1, 2, 0, 0, 0, 0, []), (3, .aload_n 0, 1, 0, 0, 0, 0, 0, []), (4, .getfield 40, 3, 3, 6, 5, 0, 6, []), (7, .if_icmp .ge 26, 3, 33, 0, 0, 0, 0, []), (10, .iload_n 2, 1, 2, 0, 0, 0, 0, []), (11, .iconst 3, 1, 0, 0, 0, 0, 3, []), (12, .if_icmp .ge 21, 3, 33, 0, 0, 0, 0, []), (15, .aload_n 0, 1, 0, 0, 0, 0, 0, [])],
  [(16, .getfield 15, 3, 3, 1, 14, 2, 1, []), (19, .iload_n 2, 1, 2, 0, 0, 0, 0, []), (20, .iaload, 1, 0, 0, 0, 0, 0, []), (21, .iload_n 1, 1, 1, 0, 0, 0, 0, []), (22, .if_icmp .ne 5, 3, 27, 0, 0, 0, 0, []), (25, .iload_n 2, 1, 2, 0, 0, 0, 0, []), (26, .ireturn, 1, 0, 0, 0, 0, 0, []), (27, .iinc 2 1, 3, 2, 0, 0, 0, 1, []), (30, .goto (-28), 3, 2, 0, 0, 0, 0, [])],
  [(33, .iconst (-1), 1, 0, 0, 0, 0, (-1), []), (34, .ireturn, 1, 0, 0, 0, 0, 0, [])]]
def i_P_inputNamed : ai_I := ((⟨"SuiteBench$Plan", "inputNamed", "(I)I"⟩, prog_5_method_4_code, 3, (some .int), 0, 0, 0, 0, 1, 0, 3) : ai_I)
def o_P_inputNamed (_ : Nat) : SP := fun _ _ _ _ _ => False
theorem mo_P_inputNamed : ∀ a, ai_mono (o_P_inputNamed a) := fun _ _ _ _ _ _ _ _ h => h
def f_P_inputNamed : SP := ai_M o_P_inputNamed 0 3 k_P_inputNamed
theorem mf_P_inputNamed : ai_mono f_P_inputNamed := M_mono mo_P_inputNamed
abbrev cal_P_inputNamed : List ai_I := []
theorem a_P_inputNamed : ai_all "SuiteBench$Plan" prog_5_method_4_code 3 kc_P cal_P_inputNamed 0 0 false (some .int) k_P_inputNamed = true := by decide +kernel
theorem w_P_inputNamed : ai_CW i_P_inputNamed := ⟨(tk_mem (l := [((Jvm.Cond.code ({ cls := "SuiteBench$Plan", name := "inputNamed", desc := "(I)I" } : Jvm.MethodName) prog_5_method_4_code (3 : Nat) (Option.some Jvm.ClassFile.FieldType.int)), 4, 57)]) (by decide +kernel) _ (List.mem_singleton.mpr rfl)), (tk_mem (l := [((Jvm.Cond.initialized "SuiteBench$Plan"), 1, 3)]) (by decide +kernel) _ (List.mem_singleton.mpr rfl)), ⟨by decide +kernel, by decide +kernel, by decide +kernel⟩, ⟨(tk_mem (l := [((Jvm.Cond.instanceMethod ({ cls := "SuiteBench$Plan", name := "inputNamed", desc := "(I)I" } : Jvm.MethodName)), 4, 55)]) (by decide +kernel) _ (List.mem_singleton.mpr rfl)), (tk_mem (l := [((Jvm.Cond.selects "SuiteBench$Plan" ({ cls := "SuiteBench$Plan", name := "inputNamed", desc := "(I)I" } : Jvm.MethodName) ({ cls := "SuiteBench$Plan", name := "inputNamed", desc := "(I)I" } : Jvm.MethodName)), 4, 56)]) (by decide +kernel) _ (List.mem_singleton.mpr rfl)), .inl ⟨_, _, rfl⟩⟩⟩
theorem c_P_inputNamed {E2 : (Nat → Nat) → State → Heap → Prop} (hE : ai_XH E2) : ai_S E2 i_P_inputNamed f_P_inputNamed := snd_M (by decide) rfl (by decide) a_P_inputNamed kc_P_ok (by rfl) (by decide) (fun a i h => by simp [cal_P_inputNamed, ai_nth] at h)
def k_P_isTold : ai_C := [
  [(0, .aload_n 0, 1, 0, 0, 0, 0, 0, []), (1, .iload_n 1, 1, 1, 0, 0, 0, 0, []), (2, .invokevirtual 59, 3, 0, 2, 16, 0, 0, [(0, 3)]), (5, .ifCond .ge 11, 3, 16, 0, 0, 0, 0, []), (8, .aload_n 0, 1, 0, 0, 0, 0, 0, []), (9, .iload_n 1, 1, 1, 0, 0, 0, 0, []), (10, .invokevirtual 63, 3, 1, 2, 17, 0, 0, [(0, 3)]), (13, .ifCond .lt 7, 3, 20, 0, 0, 0, 0, [])],
  [(16, .iconst 1, 1, 0, 0, 0, 0, 1, []), (17, .goto 4, 3, 21, 0, 0, 0, 0, []), (20, .iconst 0, 1, 0, 0, 0, 0, 0, []), (21, .ireturn, 1, 0, 0, 0, 3, 0, [])]]
def i_P_isTold : ai_I := ((⟨"SuiteBench$Plan", "isTold", "(I)Z"⟩, prog_5_method_5_code, 2, (some .boolean), 3, 1, 22, 0, 1, 0, 3) : ai_I)
def o_P_isTold (a : Nat) : SP := match a with
  | 0 => f_P_placeNamed
  | 1 => f_P_inputNamed
  | _ => fun _ _ _ _ _ => False
theorem mo_P_isTold : ∀ a, ai_mono (o_P_isTold a)
  | 0 => mf_P_placeNamed
  | 1 => mf_P_inputNamed
  | _ + 2 => fun _ _ _ _ _ _ _ h => h
def f_P_isTold : SP := ai_M o_P_isTold 0 2 k_P_isTold
theorem mf_P_isTold : ai_mono f_P_isTold := M_mono mo_P_isTold
abbrev cal_P_isTold : List ai_I := [i_P_placeNamed, i_P_inputNamed]
theorem a_P_isTold : ai_all "SuiteBench$Plan" prog_5_method_5_code 2 kc_P cal_P_isTold 1 22 false (some .boolean) k_P_isTold = true := by decide +kernel
theorem w_P_isTold : ai_CW i_P_isTold := ⟨(tk_mem (l := [((Jvm.Cond.code ({ cls := "SuiteBench$Plan", name := "isTold", desc := "(I)Z" } : Jvm.MethodName) prog_5_method_5_code (2 : Nat) (Option.some Jvm.ClassFile.FieldType.boolean)), 4, 49)]) (by decide +kernel) _ (List.mem_singleton.mpr rfl)), (tk_mem (l := [((Jvm.Cond.initialized "SuiteBench$Plan"), 1, 3)]) (by decide +kernel) _ (List.mem_singleton.mpr rfl)), ⟨by decide +kernel, by decide +kernel, by decide +kernel⟩, ⟨(tk_mem (l := [((Jvm.Cond.instanceMethod ({ cls := "SuiteBench$Plan", name := "isTold", desc := "(I)Z" } : Jvm.MethodName)), 4, 47)]) (by decide +kernel) _ (List.mem_singleton.mpr rfl)), (tk_mem (l := [((Jvm.Cond.selects "SuiteBench$Plan" ({ cls := "SuiteBench$Plan", name := "isTold", desc := "(I)Z" } : Jvm.MethodName) ({ cls := "SuiteBench$Plan", name := "isTold", desc := "(I)Z" } : Jvm.MethodName)), 4, 48)]) (by decide +kernel) _ (List.mem_singleton.mpr rfl)), .inl ⟨_, _, rfl⟩⟩⟩
theorem c_P_isTold {E2 : (Nat → Nat) → State → Heap → Prop} (hE : ai_XH E2) : ai_S E2 i_P_isTold f_P_isTold := snd_M (by decide) rfl (by decide) a_P_isTold kc_P_ok (by rfl) (by decide) (fun a i h => match a, h with
    | 0, h => by cases h; exact ⟨c_P_placeNamed hE, w_P_placeNamed⟩
    | 1, h => by cases h; exact ⟨c_P_inputNamed hE, w_P_inputNamed⟩
    | _ + 2, h => by simp [cal_P_isTold, ai_nth] at h)
def k_R_readNewName : ai_C := [
  [(0, .aload_n 0, 1, 0, 0, 0, 0, 0, []), (1, .invokevirtual 128, 3, 0, 1, 27, 0, 0, [(0, 4)]), (4, .ifCond .eq 29, 3, 33, 0, 0, 0, 0, []), (7, .aload_n 0, 1, 0, 0, 0, 0, 0, []), (8, .getfield 18, 3, 4, 1, 7, 2, 1, []), (11, .aload_n 0, 1, 0, 0, 0, 0, 0, []), (12, .getfield 66, 3, 4, 8, 13, 0, 8, []), (15, .invokevirtual 131, 3, 1, 2, 28, 0, 0, [(0, 3)])],
  [(18, .ifCond .eq 11, 3, 29, 0, 0, 0, 0, []), (21, .aload_n 0, 1, 0, 0, 0, 0, 0, []), (22, .iconst 3, 1, 0, 0, 0, 0, 3, []), (23, .invokevirtual 70, 3, 2, 2, 26, 0, 0, [(0, 4)]), (26, .ifCond .eq 7, 3, 33, 0, 0, 0, 0, []), (29, .iconst 1, 1, 0, 0, 0, 0, 1, []), (30, .goto 4, 3, 34, 0, 0, 0, 0, [])],
  [(33, .iconst 0, 1, 0, 0, 0, 0, 0, []), (34, .ireturn, 1, 0, 0, 0, 3, 0, [])]]
def i_R_readNewName : ai_I := ((⟨"SuiteBench$Reader", "readNewName", "()Z"⟩, prog_6_method_13_code, 1, (some .boolean), 3, 2, 43, 0, 0, 0, 4) : ai_I)
def o_R_readNewName (a : Nat) : SP := match a with
  | 0 => f_R_readName
  | 1 => f_P_isTold
  | 2 => f_R_wrong
  | _ => fun _ _ _ _ _ => False
theorem mo_R_readNewName : ∀ a, ai_mono (o_R_readNewName a)
  | 0 => mf_R_readName
  | 1 => mf_P_isTold
  | 2 => mf_R_wrong
  | _ + 3 => fun _ _ _ _ _ _ _ h => h
def f_R_readNewName : SP := ai_M o_R_readNewName 0 1 k_R_readNewName
theorem mf_R_readNewName : ai_mono f_R_readNewName := M_mono mo_R_readNewName
abbrev cal_R_readNewName : List ai_I := [i_R_readName, i_P_isTold, i_R_wrong]
theorem a_R_readNewName : ai_all "SuiteBench$Reader" prog_6_method_13_code 1 kc_R cal_R_readNewName 2 43 false (some .boolean) k_R_readNewName = true := by decide +kernel
theorem w_R_readNewName : ai_CW i_R_readNewName := ⟨(tk_mem (l := [((Jvm.Cond.code ({ cls := "SuiteBench$Reader", name := "readNewName", desc := "()Z" } : Jvm.MethodName) prog_6_method_13_code (1 : Nat) (Option.some Jvm.ClassFile.FieldType.boolean)), 4, 31)]) (by decide +kernel) _ (List.mem_singleton.mpr rfl)), (tk_mem (l := [((Jvm.Cond.initialized "SuiteBench$Reader"), 1, 2)]) (by decide +kernel) _ (List.mem_singleton.mpr rfl)), ⟨by decide +kernel, by decide +kernel, by decide +kernel⟩, ⟨(tk_mem (l := [((Jvm.Cond.instanceMethod ({ cls := "SuiteBench$Reader", name := "readNewName", desc := "()Z" } : Jvm.MethodName)), 4, 30)]) (by decide +kernel) _ (List.mem_singleton.mpr rfl)), gw_sel 17 (by decide +kernel), .inl ⟨_, _, rfl⟩⟩⟩
theorem c_R_readNewName {E2 : (Nat → Nat) → State → Heap → Prop} (hE : ai_XH E2) : ai_S E2 i_R_readNewName f_R_readNewName := snd_M (by decide) rfl (by decide) a_R_readNewName kc_R_ok (by rfl) (by decide) (fun a i h => match a, h with
    | 0, h => by cases h; exact ⟨c_R_readName hE, w_R_readName⟩
    | 1, h => by cases h; exact ⟨c_P_isTold hE, w_P_isTold⟩
    | 2, h => by cases h; exact ⟨c_R_wrong hE, w_R_wrong⟩
    | _ + 3, h => by simp [cal_R_readNewName, ai_nth] at h)
def k_R_readState : ai_C := [
  [(0, .aload_n 0, 1, 0, 0, 0, 0, 0, []), (1, .getfield 18, 3, 4, 1, 7, 2, 1, []), (4, .getfield 97, 3, 3, 5, 29, 0, 5, []), (7, .ifCond .le 9, 3, 16, 0, 0, 0, 0, []), (10, .aload_n 0, 1, 0, 0, 0, 0, 0, []), (11, .iconst 1, 1, 0, 0, 0, 0, 1, []), (12, .invokevirtual 70, 3, 0, 2, 26, 0, 0, [(0, 4)]), (15, .ireturn, 1, 0, 0, 0, 3, 0, [])],
  [(16, .aload_n 0, 1, 0, 0, 0, 0, 0, []), (17, .getfield 18, 3, 4, 1, 7, 2, 1, []), (20, .getfield 87, 3, 3, 4, 30, 0, 4, []), (23, .bipush 6, 2, 0, 0, 0, 0, 6, []), (25, .if_icmp .lt 9, 3, 34, 0, 0, 0, 0, []), (28, .aload_n 0, 1, 0, 0, 0, 0, 0, []), (29, .iconst 2, 1, 0, 0, 0, 0, 2, []), (30, .invokevirtual 70, 3, 0, 2, 26, 0, 0, [(0, 4)])],
  [(33, .ireturn, 1, 0, 0, 0, 3, 0, []), (34, .aload_n 0, 1, 0, 0, 0, 0, 0, []), (35, .invokevirtual 106, 3, 1, 1, 31, 0, 0, [(0, 4)]), (38, .ifCond .ne 5, 3, 43, 0, 0, 0, 0, []), (41, .iconst 0, 1, 0, 0, 0, 0, 0, []), (42, .ireturn, 1, 0, 0, 0, 3, 0, []), (43, .aload_n 0, 1, 0, 0, 0, 0, 0, []), (44, .getfield 18, 3, 4, 1, 7, 2, 1, []), (47, .getfield 109, 3, 3, 0, 32, 2, 0, [])],
  [(50, .aload_n 0, 1, 0, 0, 0, 0, 0, []), (51, .getfield 18, 3, 4, 1, 7, 2, 1, []), (54, .getfield 87, 3, 3, 4, 30, 0, 4, []), (57, .aload_n 0, 1, 0, 0, 0, 0, 0, []), (58, .getfield 66, 3, 4, 8, 13, 0, 8, []), (61, .iastore, 1, 0, 0, 0, 0, 0, []), (62, .aload_n 0, 1, 0, 0, 0, 0, 0, []), (63, .getfield 18, 3, 4, 1, 7, 2, 1, [])],
  [(66, .dup, 1, 0, 0, 0, 0, 0, []), (67, .getfield 87, 3, 3, 4, 30, 0, 4, []), (70, .iconst 1, 1, 0, 0, 0, 0, 1, []), (71, .iadd, 1, 0, 0, 0, 0, 0, []), (72, .putfield 87, 3, 3, 4, 30, 0, 4, []), (75, .iconst 1, 1, 0, 0, 0, 0, 1, []), (76, .ireturn, 1, 0, 0, 0, 3, 0, [])]]
def i_R_readState : ai_I := ((⟨"SuiteBench$Reader", "readState", "()Z"⟩, prog_6_method_8_code, 1, (some .boolean), 3, 3, 63, 0, 0, 0, 4) : ai_I)
def o_R_readState (a : Nat) : SP := match a with
  | 0 => f_R_wrong
  | 1 => f_R_readNewName
  | _ => fun _ _ _ _ _ => False
theorem mo_R_readState : ∀ a, ai_mono (o_R_readState a)
  | 0 => mf_R_wrong
  | 1 => mf_R_readNewName
  | _ + 2 => fun _ _ _ _ _ _ _ h => h
def f_R_readState : SP := ai_M o_R_readState 0 1 k_R_readState
theorem mf_R_readState : ai_mono f_R_readState := M_mono mo_R_readState
abbrev cal_R_readState : List ai_I := [i_R_wrong, i_R_readNewName]
theorem a_R_readState : ai_all "SuiteBench$Reader" prog_6_method_8_code 1 kc_R cal_R_readState 3 63 false (some .boolean) k_R_readState = true := by decide +kernel
theorem w_R_readState : ai_CW i_R_readState := ⟨(tk_mem (l := [((Jvm.Cond.code ({ cls := "SuiteBench$Reader", name := "readState", desc := "()Z" } : Jvm.MethodName) prog_6_method_8_code (1 : Nat) (Option.some Jvm.ClassFile.FieldType.boolean)), 4, 27)]) (by decide +kernel) _ (List.mem_singleton.mpr rfl)), (tk_mem (l := [((Jvm.Cond.initialized "SuiteBench$Reader"), 1, 2)]) (by decide +kernel) _ (List.mem_singleton.mpr rfl)), ⟨by decide +kernel, by decide +kernel, by decide +kernel⟩, ⟨(tk_mem (l := [((Jvm.Cond.instanceMethod ({ cls := "SuiteBench$Reader", name := "readState", desc := "()Z" } : Jvm.MethodName)), 4, 26)]) (by decide +kernel) _ (List.mem_singleton.mpr rfl)), gw_sel 16 (by decide +kernel), .inl ⟨_, _, rfl⟩⟩⟩
theorem c_R_readState {E2 : (Nat → Nat) → State → Heap → Prop} (hE : ai_XH E2) : ai_S E2 i_R_readState f_R_readState := snd_M (by decide) rfl (by decide) a_R_readState kc_R_ok (by rfl) (by decide) (fun a i h => match a, h with
    | 0, h => by cases h; exact ⟨c_R_wrong hE, w_R_wrong⟩
    | 1, h => by cases h; exact ⟨c_R_readNewName hE, w_R_readNewName⟩
    | _ + 2, h => by simp [cal_R_readState, ai_nth] at h)
def k_R_readInput : ai_C := [
  [(0, .aload_n 0, 1, 0, 0, 0, 0, 0, []), (1, .getfield 18, 3, 4, 1, 7, 2, 1, []), (4, .getfield 112, 3, 3, 6, 33, 0, 6, []), (7, .iconst 3, 1, 0, 0, 0, 0, 3, []), (8, .if_icmp .lt 9, 3, 17, 0, 0, 0, 0, []), (11, .aload_n 0, 1, 0, 0, 0, 0, 0, []), (12, .iconst 2, 1, 0, 0, 0, 0, 2, []), (13, .invokevirtual 70, 3, 0, 2, 26, 0, 0, [(0, 4)])],
  [(16, .ireturn, 1, 0, 0, 0, 3, 0, []), (17, .aload_n 0, 1, 0, 0, 0, 0, 0, []), (18, .invokevirtual 106, 3, 1, 1, 31, 0, 0, [(0, 4)]), (21, .ifCond .ne 5, 3, 26, 0, 0, 0, 0, []), (24, .iconst 0, 1, 0, 0, 0, 0, 0, []), (25, .ireturn, 1, 0, 0, 0, 3, 0, []), (26, .aload_n 0, 1, 0, 0, 0, 0, 0, []), (27, .getfield 18, 3, 4, 1, 7, 2, 1, []), (30, .getfield 115, 3, 3, 1, 34, 2, 1, [])],
  [(33, .aload_n 0, 1, 0, 0, 0, 0, 0, []), (34, .getfield 18, 3, 4, 1, 7, 2, 1, []), (37, .getfield 112, 3, 3, 6, 33, 0, 6, []), (40, .aload_n 0, 1, 0, 0, 0, 0, 0, []), (41, .getfield 66, 3, 4, 8, 13, 0, 8, []), (44, .iastore, 1, 0, 0, 0, 0, 0, []), (45, .aload_n 0, 1, 0, 0, 0, 0, 0, []), (46, .getfield 18, 3, 4, 1, 7, 2, 1, [])],
  [(49, .dup, 1, 0, 0, 0, 0, 0, []), (50, .getfield 112, 3, 3, 6, 33, 0, 6, []), (53, .iconst 1, 1, 0, 0, 0, 0, 1, []), (54, .iadd, 1, 0, 0, 0, 0, 0, []), (55, .putfield 112, 3, 3, 6, 33, 0, 6, []), (58, .iconst 1, 1, 0, 0, 0, 0, 1, []), (59, .ireturn, 1, 0, 0, 0, 3, 0, [])]]
def i_R_readInput : ai_I := ((⟨"SuiteBench$Reader", "readInput", "()Z"⟩, prog_6_method_9_code, 1, (some .boolean), 3, 3, 63, 0, 0, 0, 4) : ai_I)
def o_R_readInput (a : Nat) : SP := match a with
  | 0 => f_R_wrong
  | 1 => f_R_readNewName
  | _ => fun _ _ _ _ _ => False
theorem mo_R_readInput : ∀ a, ai_mono (o_R_readInput a)
  | 0 => mf_R_wrong
  | 1 => mf_R_readNewName
  | _ + 2 => fun _ _ _ _ _ _ _ h => h
def f_R_readInput : SP := ai_M o_R_readInput 0 1 k_R_readInput
theorem mf_R_readInput : ai_mono f_R_readInput := M_mono mo_R_readInput
abbrev cal_R_readInput : List ai_I := [i_R_wrong, i_R_readNewName]
theorem a_R_readInput : ai_all "SuiteBench$Reader" prog_6_method_9_code 1 kc_R cal_R_readInput 3 63 false (some .boolean) k_R_readInput = true := by decide +kernel
theorem w_R_readInput : ai_CW i_R_readInput := ⟨(tk_mem (l := [((Jvm.Cond.code ({ cls := "SuiteBench$Reader", name := "readInput", desc := "()Z" } : Jvm.MethodName) prog_6_method_9_code (1 : Nat) (Option.some Jvm.ClassFile.FieldType.boolean)), 4, 61)]) (by decide +kernel) _ (List.mem_singleton.mpr rfl)), (tk_mem (l := [((Jvm.Cond.initialized "SuiteBench$Reader"), 1, 2)]) (by decide +kernel) _ (List.mem_singleton.mpr rfl)), ⟨by decide +kernel, by decide +kernel, by decide +kernel⟩, ⟨(tk_mem (l := [((Jvm.Cond.instanceMethod ({ cls := "SuiteBench$Reader", name := "readInput", desc := "()Z" } : Jvm.MethodName)), 4, 60)]) (by decide +kernel) _ (List.mem_singleton.mpr rfl)), gw_sel 19 (by decide +kernel), .inl ⟨_, _, rfl⟩⟩⟩
theorem c_R_readInput {E2 : (Nat → Nat) → State → Heap → Prop} (hE : ai_XH E2) : ai_S E2 i_R_readInput f_R_readInput := snd_M (by decide) rfl (by decide) a_R_readInput kc_R_ok (by rfl) (by decide) (fun a i h => match a, h with
    | 0, h => by cases h; exact ⟨c_R_wrong hE, w_R_wrong⟩
    | 1, h => by cases h; exact ⟨c_R_readNewName hE, w_R_readNewName⟩
    | _ + 2, h => by simp [cal_R_readInput, ai_nth] at h)
def k_R_readMore : ai_C := [
  [(0, .aload_n 0, 1, 0, 0, 0, 0, 0, []), (1, .getfield 18, 3, 4, 1, 7, 2, 1, []), (4, .getfield 87, 3, 3, 4, 30, 0, 4, []), (7, .ifCond .ne 9, 3, 16, 0, 0, 0, 0, []), (10, .aload_n 0, 1, 0, 0, 0, 0, 0, []), (11, .iconst 1, 1, 0, 0, 0, 0, 1, []), (12, .invokevirtual 70, 3, 0, 2, 26, 0, 0, [(0, 4)]), (15, .ireturn, 1, 0, 0, 0, 3, 0, [])],
  [(16, .aload_n 0, 1, 0, 0, 0, 0, 0, []), (17, .getfield 18, 3, 4, 1, 7, 2, 1, []), (20, .getfield 97, 3, 3, 5, 29, 0, 5, []), (23, .iconst 2, 1, 0, 0, 0, 0, 2, []), (24, .if_icmp .lt 9, 3, 33, 0, 0, 0, 0, []), (27, .aload_n 0, 1, 0, 0, 0, 0, 0, []), (28, .iconst 2, 1, 0, 0, 0, 0, 2, []), (29, .invokevirtual 70, 3, 0, 2, 26, 0, 0, [(0, 4)])],
  [(32, .ireturn, 1, 0, 0, 0, 3, 0, []), (33, .aload_n 0, 1, 0, 0, 0, 0, 0, []), (34, .invokevirtual 106, 3, 1, 1, 31, 0, 0, [(0, 4)]), (37, .ifCond .ne 5, 3, 42, 0, 0, 0, 0, []), (40, .iconst 0, 1, 0, 0, 0, 0, 0, []), (41, .ireturn, 1, 0, 0, 0, 3, 0, []), (42, .aload_n 0, 1, 0, 0, 0, 0, 0, []), (43, .getfield 18, 3, 4, 1, 7, 2, 1, []), (46, .getfield 109, 3, 3, 0, 32, 2, 0, [])],
  [(49, .aload_n 0, 1, 0, 0, 0, 0, 0, []), (50, .getfield 18, 3, 4, 1, 7, 2, 1, []), (53, .getfield 87, 3, 3, 4, 30, 0, 4, []), (56, .aload_n 0, 1, 0, 0, 0, 0, 0, []), (57, .getfield 18, 3, 4, 1, 7, 2, 1, []), (60, .getfield 97, 3, 3, 5, 29, 0, 5, []), (63, .iadd, 1, 0, 0, 0, 0, 0, [])],
  [(64, .aload_n 0, 1, 0, 0, 0, 0, 0, []), (65, .getfield 66, 3, 4, 8, 13, 0, 8, []), (68, .iastore, 1, 0, 0, 0, 0, 0, []), (69, .aload_n 0, 1, 0, 0, 0, 0, 0, []), (70, .getfield 18, 3, 4, 1, 7, 2, 1, []), (73, .dup, 1, 0, 0, 0, 0, 0, []), (74, .getfield 97, 3, 3, 5, 29, 0, 5, []), (77, .iconst 1, 1, 0, 0, 0, 0, 1, []), (78, .iadd, 1, 0, 0, 0, 0, 0, []), (79, .putfield 97, 3, 3, 5, 29, 0, 5, [])],
  [(82, .iconst 1, 1, 0, 0, 0, 0, 1, []), (83, .ireturn, 1, 0, 0, 0, 3, 0, [])]]
def i_R_readMore : ai_I := ((⟨"SuiteBench$Reader", "readMore", "()Z"⟩, prog_6_method_10_code, 1, (some .boolean), 3, 3, 63, 0, 0, 0, 4) : ai_I)
def o_R_readMore (a : Nat) : SP := match a with
  | 0 => f_R_wrong
  | 1 => f_R_readNewName
  | _ => fun _ _ _ _ _ => False
theorem mo_R_readMore : ∀ a, ai_mono (o_R_readMore a)
  | 0 => mf_R_wrong
  | 1 => mf_R_readNewName
  | _ + 2 => fun _ _ _ _ _ _ _ h => h
def f_R_readMore : SP := ai_M o_R_readMore 0 1 k_R_readMore
theorem mf_R_readMore : ai_mono f_R_readMore := M_mono mo_R_readMore
abbrev cal_R_readMore : List ai_I := [i_R_wrong, i_R_readNewName]
theorem a_R_readMore : ai_all "SuiteBench$Reader" prog_6_method_10_code 1 kc_R cal_R_readMore 3 63 false (some .boolean) k_R_readMore = true := by decide +kernel
theorem w_R_readMore : ai_CW i_R_readMore := ⟨(tk_mem (l := [((Jvm.Cond.code ({ cls := "SuiteBench$Reader", name := "readMore", desc := "()Z" } : Jvm.MethodName) prog_6_method_10_code (1 : Nat) (Option.some Jvm.ClassFile.FieldType.boolean)), 4, 65)]) (by decide +kernel) _ (List.mem_singleton.mpr rfl)), (tk_mem (l := [((Jvm.Cond.initialized "SuiteBench$Reader"), 1, 2)]) (by decide +kernel) _ (List.mem_singleton.mpr rfl)), ⟨by decide +kernel, by decide +kernel, by decide +kernel⟩, ⟨(tk_mem (l := [((Jvm.Cond.instanceMethod ({ cls := "SuiteBench$Reader", name := "readMore", desc := "()Z" } : Jvm.MethodName)), 4, 64)]) (by decide +kernel) _ (List.mem_singleton.mpr rfl)), gw_sel 20 (by decide +kernel), .inl ⟨_, _, rfl⟩⟩⟩
theorem c_R_readMore {E2 : (Nat → Nat) → State → Heap → Prop} (hE : ai_XH E2) : ai_S E2 i_R_readMore f_R_readMore := snd_M (by decide) rfl (by decide) a_R_readMore kc_R_ok (by rfl) (by decide) (fun a i h => match a, h with
    | 0, h => by cases h; exact ⟨c_R_wrong hE, w_R_wrong⟩
    | 1, h => by cases h; exact ⟨c_R_readNewName hE, w_R_readNewName⟩
    | _ + 2, h => by simp [cal_R_readMore, ai_nth] at h)
def k_R_readPlace : ai_C := [
  [(0, .aload_n 0, 1, 0, 0, 0, 0, 0, []), (1, .invokevirtual 128, 3, 0, 1, 27, 0, 0, [(0, 4)]), (4, .ifCond .ne 5, 3, 9, 0, 0, 0, 0, []), (7, .iconst (-1), 1, 0, 0, 0, 0, (-1), []), (8, .ireturn, 1, 0, 0, 0, 0, 0, []), (9, .aload_n 0, 1, 0, 0, 0, 0, 0, []), (10, .getfield 18, 3, 4, 1, 7, 2, 1, []), (13, .aload_n 0, 1, 0, 0, 0, 0, 0, []), (14, .getfield 66, 3, 4, 8, 13, 0, 8, [])],
  [(17, .invokevirtual 134, 3, 1, 2, 35, 0, 0, [(0, 3)]), (20, .istore_n 2, 1, 2, 0, 0, 0, 0, []), (21, .iload_n 2, 1, 2, 0, 0, 0, 0, []), (22, .ifCond .lt 8, 3, 30, 0, 0, 0, 0, []), (25, .iload_n 2, 1, 2, 0, 0, 0, 0, []), (26, .iload_n 1, 1, 1, 0, 0, 0, 0, []), (27, .if_icmp .lt 11, 3, 38, 0, 0, 0, 0, []), (30, .aload_n 0, 1, 0, 0, 0, 0, 0, []), (31, .iconst 4, 1, 0, 0, 0, 0, 4, [])],
  [(32, .invokevirtual 70, 3, 2, 2, 26, 0, 0, [(0, 4)]), (35, .pop, 1, 0, 0, 0, 0, 0, []), (36, .iconst (-1), 1, 0, 0, 0, 0, (-1), []), (37, .ireturn, 1, 0, 0, 0, 0, 0, []), (38, .iload_n 2, 1, 2, 0, 0, 0, 0, []), (39, .ireturn, 1, 0, 0, 0, 0, 0, [])]]
def i_R_readPlace : ai_I := ((⟨"SuiteBench$Reader", "readPlace", "(I)I"⟩, prog_6_method_14_code, 3, (some .int), 0, 2, 41, 0, 1, 0, 4) : ai_I)
def o_R_readPlace (a : Nat) : SP := match a with
  | 0 => f_R_readName
  | 1 => f_P_placeNamed
  | 2 => f_R_wrong
  | _ => fun _ _ _ _ _ => False
theorem mo_R_readPlace : ∀ a, ai_mono (o_R_readPlace a)
  | 0 => mf_R_readName
  | 1 => mf_P_placeNamed
  | 2 => mf_R_wrong
  | _ + 3 => fun _ _ _ _ _ _ _ h => h
def f_R_readPlace : SP := ai_M o_R_readPlace 0 3 k_R_readPlace
theorem mf_R_readPlace : ai_mono f_R_readPlace := M_mono mo_R_readPlace
abbrev cal_R_readPlace : List ai_I := [i_R_readName, i_P_placeNamed, i_R_wrong]
theorem a_R_readPlace : ai_all "SuiteBench$Reader" prog_6_method_14_code 3 kc_R cal_R_readPlace 2 41 false (some .int) k_R_readPlace = true := by decide +kernel
theorem w_R_readPlace : ai_CW i_R_readPlace := ⟨(tk_mem (l := [((Jvm.Cond.code ({ cls := "SuiteBench$Reader", name := "readPlace", desc := "(I)I" } : Jvm.MethodName) prog_6_method_14_code (3 : Nat) (Option.some Jvm.ClassFile.FieldType.int)), 4, 73)]) (by decide +kernel) _ (List.mem_singleton.mpr rfl)), (tk_mem (l := [((Jvm.Cond.initialized "SuiteBench$Reader"), 1, 2)]) (by decide +kernel) _ (List.mem_singleton.mpr rfl)), ⟨by decide +kernel, by decide +kernel, by decide +kernel⟩, ⟨(tk_mem (l := [((Jvm.Cond.instanceMethod ({ cls := "SuiteBench$Reader", name := "readPlace", desc := "(I)I" } : Jvm.MethodName)), 4, 72)]) (by decide +kernel) _ (List.mem_singleton.mpr rfl)), gw_sel 22 (by decide +kernel), .inl ⟨_, _, rfl⟩⟩⟩
theorem c_R_readPlace {E2 : (Nat → Nat) → State → Heap → Prop} (hE : ai_XH E2) : ai_S E2 i_R_readPlace f_R_readPlace := snd_M (by decide) rfl (by decide) a_R_readPlace kc_R_ok (by rfl) (by decide) (fun a i h => match a, h with
    | 0, h => by cases h; exact ⟨c_R_readName hE, w_R_readName⟩
    | 1, h => by cases h; exact ⟨c_P_placeNamed hE, w_P_placeNamed⟩
    | 2, h => by cases h; exact ⟨c_R_wrong hE, w_R_wrong⟩
    | _ + 3, h => by simp [cal_R_readPlace, ai_nth] at h)
def k_R_readKnownInput : ai_C := [
  [(0, .aload_n 0, 1, 0, 0, 0, 0, 0, []), (1, .invokevirtual 128, 3, 0, 1, 27, 0, 0, [(0, 4)]), (4, .ifCond .ne 5, 3, 9, 0, 0, 0, 0, []), (7, .iconst (-1), 1, 0, 0, 0, 0, (-1), []), (8, .ireturn, 1, 0, 0, 0, 0, 0, []), (9, .aload_n 0, 1, 0, 0, 0, 0, 0, []), (10, .getfield 18, 3, 4, 1, 7, 2, 1, []), (13, .aload_n 0, 1, 0, 0, 0, 0, 0, []), (14, .getfield 66, 3, 4, 8, 13, 0, 8, [])],
  [(17, .invokevirtual 138, 3, 1, 2, 36, 0, 0, [(0, 3)]), (20, .istore_n 1, 1, 1, 0, 0, 0, 0, []), (21, .iload_n 1, 1, 1, 0, 0, 0, 0, []), (22, .ifCond .ge 9, 3, 31, 0, 0, 0, 0, []), (25, .aload_n 0, 1, 0, 0, 0, 0, 0, []), (26, .iconst 4, 1, 0, 0, 0, 0, 4, []), (27, .invokevirtual 70, 3, 2, 2, 26, 0, 0, [(0, 4)]), (30, .pop, 1, 0, 0, 0, 0, 0, []), (31, .iload_n 1, 1, 1, 0, 0, 0, 0, [])],
  [(32, .ireturn, 1, 0, 0, 0, 0, 0, [])]]
def i_R_readKnownInput : ai_I := ((⟨"SuiteBench$Reader", "readKnownInput", "()I"⟩, prog_6_method_15_code, 2, (some .int), 0, 2, 41, 0, 0, 0, 4) : ai_I)
def o_R_readKnownInput (a : Nat) : SP := match a with
  | 0 => f_R_readName
  | 1 => f_P_inputNamed
  | 2 => f_R_wrong
  | _ => fun _ _ _ _ _ => False
theorem mo_R_readKnownInput : ∀ a, ai_mono (o_R_readKnownInput a)
  | 0 => mf_R_readName
  | 1 => mf_P_inputNamed
  | 2 => mf_R_wrong
  | _ + 3 => fun _ _ _ _ _ _ _ h => h
def f_R_readKnownInput : SP := ai_M o_R_readKnownInput 0 2 k_R_readKnownInput
theorem mf_R_readKnownInput : ai_mono f_R_readKnownInput := M_mono mo_R_readKnownInput
abbrev cal_R_readKnownInput : List ai_I := [i_R_readName, i_P_inputNamed, i_R_wrong]
theorem a_R_readKnownInput : ai_all "SuiteBench$Reader" prog_6_method_15_code 2 kc_R cal_R_readKnownInput 2 41 false (some .int) k_R_readKnownInput = true := by decide +kernel
theorem w_R_readKnownInput : ai_CW i_R_readKnownInput := ⟨(tk_mem (l := [((Jvm.Cond.code ({ cls := "SuiteBench$Reader", name := "readKnownInput", desc := "()I" } : Jvm.MethodName) prog_6_method_15_code (2 : Nat) (Option.some Jvm.ClassFile.FieldType.int)), 4, 78)]) (by decide +kernel) _ (List.mem_singleton.mpr rfl)), (tk_mem (l := [((Jvm.Cond.initialized "SuiteBench$Reader"), 1, 2)]) (by decide +kernel) _ (List.mem_singleton.mpr rfl)), ⟨by decide +kernel, by decide +kernel, by decide +kernel⟩, ⟨(tk_mem (l := [((Jvm.Cond.instanceMethod ({ cls := "SuiteBench$Reader", name := "readKnownInput", desc := "()I" } : Jvm.MethodName)), 4, 77)]) (by decide +kernel) _ (List.mem_singleton.mpr rfl)), gw_sel 23 (by decide +kernel), .inl ⟨_, _, rfl⟩⟩⟩
theorem c_R_readKnownInput {E2 : (Nat → Nat) → State → Heap → Prop} (hE : ai_XH E2) : ai_S E2 i_R_readKnownInput f_R_readKnownInput := snd_M (by decide) rfl (by decide) a_R_readKnownInput kc_R_ok (by rfl) (by decide) (fun a i h => match a, h with
    | 0, h => by cases h; exact ⟨c_R_readName hE, w_R_readName⟩
    | 1, h => by cases h; exact ⟨c_P_inputNamed hE, w_P_inputNamed⟩
    | 2, h => by cases h; exact ⟨c_R_wrong hE, w_R_wrong⟩
    | _ + 3, h => by simp [cal_R_readKnownInput, ai_nth] at h)
def k_R_readNumber : ai_C := [
  [(0, .aload_n 0, 1, 0, 0, 0, 0, 0, []), (1, .invokevirtual 47, 3, 0, 1, 24, 9, 0, [(0, 4)]), (4, .aload_n 0, 1, 0, 0, 0, 0, 0, []), (5, .getfield 50, 3, 4, 7, 14, 0, 7, []), (8, .iconst 2, 1, 0, 0, 0, 0, 2, []), (9, .if_icmp .eq 9, 3, 18, 0, 0, 0, 0, []), (12, .aload_n 0, 1, 0, 0, 0, 0, 0, []), (13, .iconst 1, 1, 0, 0, 0, 0, 1, []), (14, .invokevirtual 70, 3, 1, 2, 26, 0, 0, [(0, 4)])],
  [(17, .ireturn, 1, 0, 0, 0, 3, 0, []), (18, .aload_n 0, 1, 0, 0, 0, 0, 0, []), (19, .getfield 66, 3, 4, 8, 13, 0, 8, []), (22, .iload_n 1, 1, 1, 0, 0, 0, 0, []), (23, .if_icmp .le 11, 3, 34, 0, 0, 0, 0, []), (26, .aload_n 0, 1, 0, 0, 0, 0, 0, []), (27, .iconst 2, 1, 0, 0, 0, 0, 2, []), (28, .invokevirtual 70, 3, 1, 2, 26, 0, 0, [(0, 4)]), (31, .ifCond .eq 7, 3, 38, 0, 0, 0, 0, [])],
  [(34, .iconst 1, 1, 0, 0, 0, 0, 1, []), (35, .goto 4, 3, 39, 0, 0, 0, 0, []), (38, .iconst 0, 1, 0, 0, 0, 0, 0, []), (39, .ireturn, 1, 0, 0, 0, 3, 0, [])]]
def i_R_readNumber : ai_I := ((⟨"SuiteBench$Reader", "readNumber", "(I)Z"⟩, prog_6_method_17_code, 2, (some .boolean), 3, 1, 21, 0, 1, 0, 4) : ai_I)
def o_R_readNumber (a : Nat) : SP := match a with
  | 0 => f_R_advance
  | 1 => f_R_wrong
  | _ => fun _ _ _ _ _ => False
theorem mo_R_readNumber : ∀ a, ai_mono (o_R_readNumber a)
  | 0 => mf_R_advance
  | 1 => mf_R_wrong
  | _ + 2 => fun _ _ _ _ _ _ _ h => h
def f_R_readNumber : SP := ai_M o_R_readNumber 0 2 k_R_readNumber
theorem mf_R_readNumber : ai_mono f_R_readNumber := M_mono mo_R_readNumber
abbrev cal_R_readNumber : List ai_I := [i_R_advance, i_R_wrong]
theorem a_R_readNumber : ai_all "SuiteBench$Reader" prog_6_method_17_code 2 kc_R cal_R_readNumber 1 21 false (some .boolean) k_R_readNumber = true := by decide +kernel
theorem w_R_readNumber : ai_CW i_R_readNumber := ⟨(tk_mem (l := [((Jvm.Cond.code ({ cls := "SuiteBench$Reader", name := "readNumber", desc := "(I)Z" } : Jvm.MethodName) prog_6_method_17_code (2 : Nat) (Option.some Jvm.ClassFile.FieldType.boolean)), 4, 83)]) (by decide +kernel) _ (List.mem_singleton.mpr rfl)), (tk_mem (l := [((Jvm.Cond.initialized "SuiteBench$Reader"), 1, 2)]) (by decide +kernel) _ (List.mem_singleton.mpr rfl)), ⟨by decide +kernel, by decide +kernel, by decide +kernel⟩, ⟨(tk_mem (l := [((Jvm.Cond.instanceMethod ({ cls := "SuiteBench$Reader", name := "readNumber", desc := "(I)Z" } : Jvm.MethodName)), 4, 82)]) (by decide +kernel) _ (List.mem_singleton.mpr rfl)), gw_sel 24 (by decide +kernel), .inl ⟨_, _, rfl⟩⟩⟩
theorem c_R_readNumber {E2 : (Nat → Nat) → State → Heap → Prop} (hE : ai_XH E2) : ai_S E2 i_R_readNumber f_R_readNumber := snd_M (by decide) rfl (by decide) a_R_readNumber kc_R_ok (by rfl) (by decide) (fun a i h => match a, h with
    | 0, h => by cases h; exact ⟨c_R_advance hE, w_R_advance⟩
    | 1, h => by cases h; exact ⟨c_R_wrong hE, w_R_wrong⟩
    | _ + 2, h => by simp [cal_R_readNumber, ai_nth] at h)
def k_R_readArc : ai_C := [
  [(0, .aload_n 0, 1, 0, 0, 0, 0, 0, []), (1, .iload_n 2, 1, 2, 0, 0, 0, 0, []), (2, .invokevirtual 141, 3, 0, 2, 37, 0, 0, [(0, 4)]), (5, .istore_n 3, 1, 3, 0, 0, 0, 0, []), (6, .iload_n 3, 1, 3, 0, 0, 0, 0, []), (7, .ifCond .ge 5, 3, 12, 0, 0, 0, 0, []), (10, .iconst 0, 1, 0, 0, 0, 0, 0, []), (11, .ireturn, 1, 0, 0, 0, 3, 0, []), (12, .aload_n 0, 1, 0, 0, 0, 0, 0, []), (13, .invokevirtual 144, 3, 1, 1, 38, 0, 0, [(0, 4)])],
  [(16, .istore 4, 2, 4, 0, 0, 0, 0, []), (18, .iload 4, 2, 4, 0, 0, 0, 0, []), (20, .ifCond .ge 5, 3, 25, 0, 0, 0, 0, []), (23, .iconst 0, 1, 0, 0, 0, 0, 0, []), (24, .ireturn, 1, 0, 0, 0, 3, 0, []), (25, .iload_n 3, 1, 3, 0, 0, 0, 0, []), (26, .iconst 3, 1, 0, 0, 0, 0, 3, []), (27, .imul, 1, 0, 0, 0, 0, 0, []), (28, .iload 4, 2, 4, 0, 0, 0, 0, []), (30, .iadd, 1, 0, 0, 0, 0, 0, []), (31, .istore 5, 2, 5, 0, 0, 0, 0, [])],
  [(33, .aload_n 1, 1, 1, 0, 0, 0, 0, []), (34, .iload 5, 2, 5, 0, 0, 0, 0, []), (36, .iaload, 1, 0, 0, 0, 0, 0, []), (37, .iconst (-1), 1, 0, 0, 0, 0, (-1), []), (38, .if_icmp .eq 9, 3, 47, 0, 0, 0, 0, []), (41, .aload_n 0, 1, 0, 0, 0, 0, 0, []), (42, .iconst 3, 1, 0, 0, 0, 0, 3, []), (43, .invokevirtual 70, 3, 2, 2, 26, 0, 0, [(0, 4)]), (46, .ireturn, 1, 0, 0, 0, 3, 0, []), (47, .aload_n 0, 1, 0, 0, 0, 0, 0, [])],
  [(48, .iload_n 2, 1, 2, 0, 0, 0, 0, []), (49, .invokevirtual 141, 3, 0, 2, 37, 0, 0, [(0, 4)]), (52, .istore 6, 2, 6, 0, 0, 0, 0, []), (54, .iload 6, 2, 6, 0, 0, 0, 0, []), (56, .ifCond .lt 12, 3, 68, 0, 0, 0, 0, []), (59, .aload_n 0, 1, 0, 0, 0, 0, 0, []), (60, .bipush 9, 2, 0, 0, 0, 0, 9, []), (62, .invokevirtual 148, 3, 3, 2, 39, 0, 0, [(0, 4)])],
  [(65, .ifCond .ne 5, 3, 70, 0, 0, 0, 0, []), (68, .iconst 0, 1, 0, 0, 0, 0, 0, []), (69, .ireturn, 1, 0, 0, 0, 3, 0, []), (70, .aload_n 1, 1, 1, 0, 0, 0, 0, []), (71, .iload 5, 2, 5, 0, 0, 0, 0, []), (73, .iload 6, 2, 6, 0, 0, 0, 0, []), (75, .iconst 4, 1, 0, 0, 0, 0, 4, []), (76, .ishl, 1, 0, 0, 0, 0, 0, []), (77, .aload_n 0, 1, 0, 0, 0, 0, 0, []), (78, .getfield 66, 3, 4, 8, 13, 0, 8, [])],
  [(81, .ior, 1, 0, 0, 0, 0, 0, []), (82, .iastore, 1, 0, 0, 0, 0, 0, []), (83, .iconst 1, 1, 0, 0, 0, 0, 1, []), (84, .ireturn, 1, 0, 0, 0, 3, 0, [])]]
def i_R_readArc : ai_I := ((⟨"SuiteBench$Reader", "readArc", "([II)Z"⟩, prog_6_method_16_code, 7, (some .boolean), 3, 3, 63, 0, 2, 0, 4) : ai_I)
def o_R_readArc (a : Nat) : SP := match a with
  | 0 => f_R_readPlace
  | 1 => f_R_readKnownInput
  | 2 => f_R_wrong
  | 3 => f_R_readNumber
  | _ => fun _ _ _ _ _ => False
theorem mo_R_readArc : ∀ a, ai_mono (o_R_readArc a)
  | 0 => mf_R_readPlace
  | 1 => mf_R_readKnownInput
  | 2 => mf_R_wrong
  | 3 => mf_R_readNumber
  | _ + 4 => fun _ _ _ _ _ _ _ h => h
def f_R_readArc : SP := ai_M o_R_readArc 0 7 k_R_readArc
theorem mf_R_readArc : ai_mono f_R_readArc := M_mono mo_R_readArc
abbrev cal_R_readArc : List ai_I := [i_R_readPlace, i_R_readKnownInput, i_R_wrong, i_R_readNumber]
theorem a_R_readArc : ai_all "SuiteBench$Reader" prog_6_method_16_code 7 kc_R cal_R_readArc 3 63 false (some .boolean) k_R_readArc = true := by decide +kernel
theorem w_R_readArc : ai_CW i_R_readArc := ⟨(tk_mem (l := [((Jvm.Cond.code ({ cls := "SuiteBench$Reader", name := "readArc", desc := "([II)Z" } : Jvm.MethodName) prog_6_method_16_code (7 : Nat) (Option.some Jvm.ClassFile.FieldType.boolean)), 4, 69)]) (by decide +kernel) _ (List.mem_singleton.mpr rfl)), (tk_mem (l := [((Jvm.Cond.initialized "SuiteBench$Reader"), 1, 2)]) (by decide +kernel) _ (List.mem_singleton.mpr rfl)), ⟨by decide +kernel, by decide +kernel, by decide +kernel⟩, ⟨(tk_mem (l := [((Jvm.Cond.instanceMethod ({ cls := "SuiteBench$Reader", name := "readArc", desc := "([II)Z" } : Jvm.MethodName)), 4, 68)]) (by decide +kernel) _ (List.mem_singleton.mpr rfl)), gw_sel 21 (by decide +kernel), .inl ⟨_, _, rfl⟩⟩⟩
theorem c_R_readArc {E2 : (Nat → Nat) → State → Heap → Prop} (hE : ai_XH E2) : ai_S E2 i_R_readArc f_R_readArc := snd_M (by decide) rfl (by decide) a_R_readArc kc_R_ok (by rfl) (by decide) (fun a i h => match a, h with
    | 0, h => by cases h; exact ⟨c_R_readPlace hE, w_R_readPlace⟩
    | 1, h => by cases h; exact ⟨c_R_readKnownInput hE, w_R_readKnownInput⟩
    | 2, h => by cases h; exact ⟨c_R_wrong hE, w_R_wrong⟩
    | 3, h => by cases h; exact ⟨c_R_readNumber hE, w_R_readNumber⟩
    | _ + 4, h => by simp [cal_R_readArc, ai_nth] at h)
def k_R_readExtra : ai_C := [
  [(0, .aload_n 0, 1, 0, 0, 0, 0, 0, []), (1, .getfield 18, 3, 4, 1, 7, 2, 1, []), (4, .getfield 151, 3, 3, 10, 40, 3, 10, []), (7, .ifCond .eq 9, 3, 16, 0, 0, 0, 0, []), (10, .aload_n 0, 1, 0, 0, 0, 0, 0, []), (11, .iconst 3, 1, 0, 0, 0, 0, 3, []), (12, .invokevirtual 70, 3, 0, 2, 26, 0, 0, [(0, 4)]), (15, .ireturn, 1, 0, 0, 0, 3, 0, [])],
  [(16, .aload_n 0, 1, 0, 0, 0, 0, 0, []), (17, .iconst 2, 1, 0, 0, 0, 0, 2, []), (18, .invokevirtual 148, 3, 1, 2, 39, 0, 0, [(0, 4)]), (21, .ifCond .ne 5, 3, 26, 0, 0, 0, 0, []), (24, .iconst 0, 1, 0, 0, 0, 0, 0, []), (25, .ireturn, 1, 0, 0, 0, 3, 0, []), (26, .aload_n 0, 1, 0, 0, 0, 0, 0, []), (27, .getfield 18, 3, 4, 1, 7, 2, 1, []), (30, .iconst 1, 1, 0, 0, 0, 0, 1, []), (31, .putfield 151, 3, 3, 10, 40, 3, 10, [])],
  [(34, .aload_n 0, 1, 0, 0, 0, 0, 0, []), (35, .getfield 18, 3, 4, 1, 7, 2, 1, []), (38, .aload_n 0, 1, 0, 0, 0, 0, 0, []), (39, .getfield 66, 3, 4, 8, 13, 0, 8, []), (42, .putfield 155, 3, 3, 7, 41, 0, 7, []), (45, .iconst 1, 1, 0, 0, 0, 0, 1, []), (46, .ireturn, 1, 0, 0, 0, 3, 0, [])]]
def i_R_readExtra : ai_I := ((⟨"SuiteBench$Reader", "readExtra", "()Z"⟩, prog_6_method_18_code, 1, (some .boolean), 3, 2, 42, 0, 0, 0, 4) : ai_I)
def o_R_readExtra (a : Nat) : SP := match a with
  | 0 => f_R_wrong
  | 1 => f_R_readNumber
  | _ => fun _ _ _ _ _ => False
theorem mo_R_readExtra : ∀ a, ai_mono (o_R_readExtra a)
  | 0 => mf_R_wrong
  | 1 => mf_R_readNumber
  | _ + 2 => fun _ _ _ _ _ _ _ h => h
def f_R_readExtra : SP := ai_M o_R_readExtra 0 1 k_R_readExtra
theorem mf_R_readExtra : ai_mono f_R_readExtra := M_mono mo_R_readExtra
abbrev cal_R_readExtra : List ai_I := [i_R_wrong, i_R_readNumber]
theorem a_R_readExtra : ai_all "SuiteBench$Reader" prog_6_method_18_code 1 kc_R cal_R_readExtra 2 42 false (some .boolean) k_R_readExtra = true := by decide +kernel
theorem w_R_readExtra : ai_CW i_R_readExtra := ⟨(tk_mem (l := [((Jvm.Cond.code ({ cls := "SuiteBench$Reader", name := "readExtra", desc := "()Z" } : Jvm.MethodName) prog_6_method_18_code (1 : Nat) (Option.some Jvm.ClassFile.FieldType.boolean)), 4, 87)]) (by decide +kernel) _ (List.mem_singleton.mpr rfl)), (tk_mem (l := [((Jvm.Cond.initialized "SuiteBench$Reader"), 1, 2)]) (by decide +kernel) _ (List.mem_singleton.mpr rfl)), ⟨by decide +kernel, by decide +kernel, by decide +kernel⟩, ⟨(tk_mem (l := [((Jvm.Cond.instanceMethod ({ cls := "SuiteBench$Reader", name := "readExtra", desc := "()Z" } : Jvm.MethodName)), 4, 86)]) (by decide +kernel) _ (List.mem_singleton.mpr rfl)), gw_sel 25 (by decide +kernel), .inl ⟨_, _, rfl⟩⟩⟩
theorem c_R_readExtra {E2 : (Nat → Nat) → State → Heap → Prop} (hE : ai_XH E2) : ai_S E2 i_R_readExtra f_R_readExtra := snd_M (by decide) rfl (by decide) a_R_readExtra kc_R_ok (by rfl) (by decide) (fun a i h => match a, h with
    | 0, h => by cases h; exact ⟨c_R_wrong hE, w_R_wrong⟩
    | 1, h => by cases h; exact ⟨c_R_readNumber hE, w_R_readNumber⟩
    | _ + 2, h => by simp [cal_R_readExtra, ai_nth] at h)
def k_R_readSeed : ai_C := [
  [(0, .aload_n 0, 1, 0, 0, 0, 0, 0, []), (1, .getfield 18, 3, 4, 1, 7, 2, 1, []), (4, .getfield 158, 3, 3, 11, 42, 3, 11, []), (7, .ifCond .eq 9, 3, 16, 0, 0, 0, 0, []), (10, .aload_n 0, 1, 0, 0, 0, 0, 0, []), (11, .iconst 3, 1, 0, 0, 0, 0, 3, []), (12, .invokevirtual 70, 3, 0, 2, 26, 0, 0, [(0, 4)]), (15, .ireturn, 1, 0, 0, 0, 3, 0, [])],
  [(16, .aload_n 0, 1, 0, 0, 0, 0, 0, []), (17, .ldc 69, 2, 0, 0, 15, 0, 99999, []), (19, .invokevirtual 148, 3, 1, 2, 39, 0, 0, [(0, 4)]), (22, .ifCond .ne 5, 3, 27, 0, 0, 0, 0, []), (25, .iconst 0, 1, 0, 0, 0, 0, 0, []), (26, .ireturn, 1, 0, 0, 0, 3, 0, []), (27, .aload_n 0, 1, 0, 0, 0, 0, 0, []), (28, .getfield 18, 3, 4, 1, 7, 2, 1, []), (31, .iconst 1, 1, 0, 0, 0, 0, 1, [])],
  [(32, .putfield 158, 3, 3, 11, 42, 3, 11, []), (35, .aload_n 0, 1, 0, 0, 0, 0, 0, []), (36, .getfield 18, 3, 4, 1, 7, 2, 1, []), (39, .aload_n 0, 1, 0, 0, 0, 0, 0, []), (40, .getfield 66, 3, 4, 8, 13, 0, 8, []), (43, .putfield 161, 3, 3, 8, 43, 0, 8, []), (46, .iconst 1, 1, 0, 0, 0, 0, 1, []), (47, .ireturn, 1, 0, 0, 0, 3, 0, [])]]
def i_R_readSeed : ai_I := ((⟨"SuiteBench$Reader", "readSeed", "()Z"⟩, prog_6_method_19_code, 1, (some .boolean), 3, 2, 42, 0, 0, 0, 4) : ai_I)
def o_R_readSeed (a : Nat) : SP := match a with
  | 0 => f_R_wrong
  | 1 => f_R_readNumber
  | _ => fun _ _ _ _ _ => False
theorem mo_R_readSeed : ∀ a, ai_mono (o_R_readSeed a)
  | 0 => mf_R_wrong
  | 1 => mf_R_readNumber
  | _ + 2 => fun _ _ _ _ _ _ _ h => h
def f_R_readSeed : SP := ai_M o_R_readSeed 0 1 k_R_readSeed
theorem mf_R_readSeed : ai_mono f_R_readSeed := M_mono mo_R_readSeed
abbrev cal_R_readSeed : List ai_I := [i_R_wrong, i_R_readNumber]
theorem a_R_readSeed : ai_all "SuiteBench$Reader" prog_6_method_19_code 1 kc_R cal_R_readSeed 2 42 false (some .boolean) k_R_readSeed = true := by decide +kernel
theorem w_R_readSeed : ai_CW i_R_readSeed := ⟨(tk_mem (l := [((Jvm.Cond.code ({ cls := "SuiteBench$Reader", name := "readSeed", desc := "()Z" } : Jvm.MethodName) prog_6_method_19_code (1 : Nat) (Option.some Jvm.ClassFile.FieldType.boolean)), 4, 91)]) (by decide +kernel) _ (List.mem_singleton.mpr rfl)), (tk_mem (l := [((Jvm.Cond.initialized "SuiteBench$Reader"), 1, 2)]) (by decide +kernel) _ (List.mem_singleton.mpr rfl)), ⟨by decide +kernel, by decide +kernel, by decide +kernel⟩, ⟨(tk_mem (l := [((Jvm.Cond.instanceMethod ({ cls := "SuiteBench$Reader", name := "readSeed", desc := "()Z" } : Jvm.MethodName)), 4, 90)]) (by decide +kernel) _ (List.mem_singleton.mpr rfl)), gw_sel 26 (by decide +kernel), .inl ⟨_, _, rfl⟩⟩⟩
theorem c_R_readSeed {E2 : (Nat → Nat) → State → Heap → Prop} (hE : ai_XH E2) : ai_S E2 i_R_readSeed f_R_readSeed := snd_M (by decide) rfl (by decide) a_R_readSeed kc_R_ok (by rfl) (by decide) (fun a i h => match a, h with
    | 0, h => by cases h; exact ⟨c_R_wrong hE, w_R_wrong⟩
    | 1, h => by cases h; exact ⟨c_R_readNumber hE, w_R_readNumber⟩
    | _ + 2, h => by simp [cal_R_readSeed, ai_nth] at h)
def k_R_readLine : ai_C := [
  [(0, .aload_n 0, 1, 0, 0, 0, 0, 0, []), (1, .getfield 50, 3, 4, 7, 14, 0, 7, []), (4, .iconst 1, 1, 0, 0, 0, 0, 1, []), (5, .if_icmp .eq 9, 3, 14, 0, 0, 0, 0, []), (8, .aload_n 0, 1, 0, 0, 0, 0, 0, []), (9, .iconst 1, 1, 0, 0, 0, 0, 1, []), (10, .invokevirtual 70, 3, 0, 2, 26, 0, 0, [(0, 4)]), (13, .ireturn, 1, 0, 0, 0, 3, 0, []), (14, .aload_n 0, 1, 0, 0, 0, 0, 0, []), (15, .getfield 66, 3, 4, 8, 13, 0, 8, [])],
  [(18, .lookupswitch 137 #[(52527104, 81), (193611808, 127), (317216384, 71), (452531200, 76), (642945024, 132), (658559136, 66), (695520896, 100)], 66, 155, 0, 0, 0, 0, [(52527104, 99), (193611808, 145), (317216384, 89), (452531200, 94), (642945024, 150), (658559136, 84), (695520896, 118)])],
  [],
  [],
  [],
  [(84, .aload_n 0, 1, 0, 0, 0, 0, 0, []), (85, .invokevirtual 74, 3, 1, 1, 44, 0, 0, [(0, 4)]), (88, .ireturn, 1, 0, 0, 0, 3, 0, []), (89, .aload_n 0, 1, 0, 0, 0, 0, 0, []), (90, .invokevirtual 77, 3, 2, 1, 45, 0, 0, [(0, 4)]), (93, .ireturn, 1, 0, 0, 0, 3, 0, []), (94, .aload_n 0, 1, 0, 0, 0, 0, 0, []), (95, .invokevirtual 80, 3, 3, 1, 46, 0, 0, [(0, 4)])],
  [(98, .ireturn, 1, 0, 0, 0, 3, 0, []), (99, .aload_n 0, 1, 0, 0, 0, 0, 0, []), (100, .aload_n 0, 1, 0, 0, 0, 0, 0, []), (101, .getfield 18, 3, 4, 1, 7, 2, 1, []), (104, .getfield 83, 3, 3, 2, 47, 2, 2, []), (107, .aload_n 0, 1, 0, 0, 0, 0, 0, []), (108, .getfield 18, 3, 4, 1, 7, 2, 1, []), (111, .getfield 87, 3, 3, 4, 30, 0, 4, [])],
  [(114, .invokevirtual 90, 3, 4, 3, 48, 0, 0, [(0, 4)]), (117, .ireturn, 1, 0, 0, 0, 3, 0, []), (118, .aload_n 0, 1, 0, 0, 0, 0, 0, []), (119, .aload_n 0, 1, 0, 0, 0, 0, 0, []), (120, .getfield 18, 3, 4, 1, 7, 2, 1, []), (123, .getfield 94, 3, 3, 3, 49, 2, 3, []), (126, .aload_n 0, 1, 0, 0, 0, 0, 0, []), (127, .getfield 18, 3, 4, 1, 7, 2, 1, [])],
  [(130, .getfield 87, 3, 3, 4, 30, 0, 4, []), (133, .aload_n 0, 1, 0, 0, 0, 0, 0, []), (134, .getfield 18, 3, 4, 1, 7, 2, 1, []), (137, .getfield 97, 3, 3, 5, 29, 0, 5, []), (140, .iadd, 1, 0, 0, 0, 0, 0, []), (141, .invokevirtual 90, 3, 4, 3, 48, 0, 0, [(0, 4)])],
  [(144, .ireturn, 1, 0, 0, 0, 3, 0, []), (145, .aload_n 0, 1, 0, 0, 0, 0, 0, []), (146, .invokevirtual 100, 3, 5, 1, 50, 0, 0, [(0, 4)]), (149, .ireturn, 1, 0, 0, 0, 3, 0, []), (150, .aload_n 0, 1, 0, 0, 0, 0, 0, []), (151, .invokevirtual 103, 3, 6, 1, 51, 0, 0, [(0, 4)]), (154, .ireturn, 1, 0, 0, 0, 3, 0, []), (155, .aload_n 0, 1, 0, 0, 0, 0, 0, []), (156, .iconst 1, 1, 0, 0, 0, 0, 1, []), (157, .invokevirtual 70, 3, 0, 2, 26, 0, 0, [(0, 4)])],
  [(160, .ireturn, 1, 0, 0, 0, 3, 0, [])]]
def i_R_readLine : ai_I := ((⟨"SuiteBench$Reader", "readLine", "()Z"⟩, prog_6_method_6_code, 1, (some .boolean), 3, 4, 89, 0, 0, 0, 4) : ai_I)
def o_R_readLine (a : Nat) : SP := match a with
  | 0 => f_R_wrong
  | 1 => f_R_readState
  | 2 => f_R_readInput
  | 3 => f_R_readMore
  | 4 => f_R_readArc
  | 5 => f_R_readExtra
  | 6 => f_R_readSeed
  | _ => fun _ _ _ _ _ => False
theorem mo_R_readLine : ∀ a, ai_mono (o_R_readLine a)
  | 0 => mf_R_wrong
  | 1 => mf_R_readState
  | 2 => mf_R_readInput
  | 3 => mf_R_readMore
  | 4 => mf_R_readArc
  | 5 => mf_R_readExtra
  | 6 => mf_R_readSeed
  | _ + 7 => fun _ _ _ _ _ _ _ h => h
def f_R_readLine : SP := ai_M o_R_readLine 0 1 k_R_readLine
theorem mf_R_readLine : ai_mono f_R_readLine := M_mono mo_R_readLine
abbrev cal_R_readLine : List ai_I := [i_R_wrong, i_R_readState, i_R_readInput, i_R_readMore, i_R_readArc, i_R_readExtra, i_R_readSeed]
theorem a_R_readLine : ai_all "SuiteBench$Reader" prog_6_method_6_code 1 kc_R cal_R_readLine 4 89 false (some .boolean) k_R_readLine = true := by decide +kernel
theorem w_R_readLine : ai_CW i_R_readLine := ⟨(tk_mem (l := [((Jvm.Cond.code ({ cls := "SuiteBench$Reader", name := "readLine", desc := "()Z" } : Jvm.MethodName) prog_6_method_6_code (1 : Nat) (Option.some Jvm.ClassFile.FieldType.boolean)), 4, 19)]) (by decide +kernel) _ (List.mem_singleton.mpr rfl)), (tk_mem (l := [((Jvm.Cond.initialized "SuiteBench$Reader"), 1, 2)]) (by decide +kernel) _ (List.mem_singleton.mpr rfl)), ⟨by decide +kernel, by decide +kernel, by decide +kernel⟩, ⟨(tk_mem (l := [((Jvm.Cond.instanceMethod ({ cls := "SuiteBench$Reader", name := "readLine", desc := "()Z" } : Jvm.MethodName)), 4, 18)]) (by decide +kernel) _ (List.mem_singleton.mpr rfl)), gw_sel 14 (by decide +kernel), .inl ⟨_, _, rfl⟩⟩⟩
theorem c_R_readLine {E2 : (Nat → Nat) → State → Heap → Prop} (hE : ai_XH E2) : ai_S E2 i_R_readLine f_R_readLine := snd_M (by decide) rfl (by decide) a_R_readLine kc_R_ok (by rfl) (by decide) (fun a i h => match a, h with
    | 0, h => by cases h; exact ⟨c_R_wrong hE, w_R_wrong⟩
    | 1, h => by cases h; exact ⟨c_R_readState hE, w_R_readState⟩
    | 2, h => by cases h; exact ⟨c_R_readInput hE, w_R_readInput⟩
    | 3, h => by cases h; exact ⟨c_R_readMore hE, w_R_readMore⟩
    | 4, h => by cases h; exact ⟨c_R_readArc hE, w_R_readArc⟩
    | 5, h => by cases h; exact ⟨c_R_readExtra hE, w_R_readExtra⟩
    | 6, h => by cases h; exact ⟨c_R_readSeed hE, w_R_readSeed⟩
    | _ + 7, h => by simp [cal_R_readLine, ai_nth] at h)
