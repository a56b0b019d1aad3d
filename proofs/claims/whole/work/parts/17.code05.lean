/-! the code of the methods, by program; what it rests on, looked at; the contracts -/
def k_B_way : ai_C := [
  [(0, .iload_n 1, 1, 1, 0, 0, 0, 0, []), (1, .ifCond .lt 12, 3, 13, 0, 0, 0, 0, []), (4, .iload_n 1, 1, 1, 0, 0, 0, 0, []), (5, .iconst 1, 1, 0, 0, 0, 0, 1, []), (6, .if_icmp .gt 7, 3, 13, 0, 0, 0, 0, []), (9, .iload_n 2, 1, 2, 0, 0, 0, 0, []), (10, .ifCond .ge 5, 3, 15, 0, 0, 0, 0, []), (13, .iconst (-1), 1, 0, 0, 0, 0, (-1), []), (14, .ireturn, 1, 0, 0, 0, 0, 0, []), (15, .aload_n 0, 1, 0, 0, 0, 0, 0, [])],
  [(16, .getfield 56, 3, 11, 5, 14, 2, 5, []), (19, .iconst 2, 1, 0, 0, 0, 0, 2, []), (20, .iload_n 1, 1, 1, 0, 0, 0, 0, []), (21, .iadd, 1, 0, 0, 0, 0, 0, []), (22, .invokevirtual 196, 3, 0, 2, 99, 2, 0, [(0, 6)]), (25, .astore_n 3, 1, 3, 0, 0, 0, 0, []), (26, .iload_n 2, 1, 2, 0, 0, 0, 0, []), (27, .aload_n 3, 1, 3, 0, 0, 0, 0, []), (28, .getfield 218, 3, 8, 7, 105, 0, 7, []), (31, .iconst 1, 1, 0, 0, 0, 0, 1, [])],
  [(32, .isub, 1, 0, 0, 0, 0, 0, []), (33, .if_icmp .ge 14, 3, 47, 0, 0, 0, 0, []), (36, .aload_n 3, 1, 3, 0, 0, 0, 0, []), (37, .getfield 221, 3, 8, 1, 106, 2, 1, []), (40, .iload_n 2, 1, 2, 0, 0, 0, 0, []), (41, .iconst 1, 1, 0, 0, 0, 0, 1, []), (42, .iadd, 1, 0, 0, 0, 0, 0, []), (43, .iaload, 1, 0, 0, 0, 0, 0, []), (44, .goto 5, 3, 49, 0, 0, 0, 0, []), (47, .bipush (-2), 2, 0, 0, 0, 0, (-2), [])],
  [(49, .ireturn, 1, 0, 0, 0, 0, 0, [])]]
def i_B_way : ai_I := ((⟨"SuiteBench", "way", "(II)I"⟩, prog_1_method_19_code, 4, (some .int), 0, 6, 143, 0, 2, 0, 11) : ai_I)
def o_B_way (a : Nat) : SP := match a with
  | 0 => f_T_give
  | _ => fun _ _ _ _ _ => False
theorem mo_B_way : ∀ a, ai_mono (o_B_way a)
  | 0 => mf_T_give
  | _ + 1 => fun _ _ _ _ _ _ _ h => h
def f_B_way : SP := ai_M o_B_way 0 4 k_B_way
theorem mf_B_way : ai_mono f_B_way := M_mono mo_B_way
abbrev cal_B_way : List ai_I := [i_T_give]
theorem a_B_way : ai_all "SuiteBench" prog_1_method_19_code 4 kc_B cal_B_way 6 143 false (some .int) k_B_way = true := by decide +kernel
theorem w_B_way : ai_CW i_B_way := ⟨(tk_mem (l := [((Jvm.Cond.code ({ cls := "SuiteBench", name := "way", desc := "(II)I" } : Jvm.MethodName) prog_1_method_19_code (4 : Nat) (Option.some Jvm.ClassFile.FieldType.int)), 5, 41)]) (by decide +kernel) _ (List.mem_singleton.mpr rfl)), (tk_mem (l := [((Jvm.Cond.initialized "SuiteBench"), 1, 1)]) (by decide +kernel) _ (List.mem_singleton.mpr rfl)), ⟨by decide +kernel, by decide +kernel, by decide +kernel⟩, ⟨(tk_mem (l := [((Jvm.Cond.instanceMethod ({ cls := "SuiteBench", name := "way", desc := "(II)I" } : Jvm.MethodName)), 5, 39)]) (by decide +kernel) _ (List.mem_singleton.mpr rfl)), (tk_mem (l := [((Jvm.Cond.selects "SuiteBench" ({ cls := "SuiteBench", name := "way", desc := "(II)I" } : Jvm.MethodName) ({ cls := "SuiteBench", name := "way", desc := "(II)I" } : Jvm.MethodName)), 5, 40)]) (by decide +kernel) _ (List.mem_singleton.mpr rfl)), .inl ⟨_, _, rfl⟩⟩⟩
theorem c_B_way {E2 : (Nat → Nat) → State → Heap → Prop} (hE : ai_XH E2) : ai_S E2 i_B_way f_B_way := snd_M (by decide) rfl (by decide) a_B_way kc_B_ok (by rfl) (by decide) (fun a i h => match a, h with
    | 0, h => by cases h; exact ⟨c_T_give hE, w_T_give⟩
    | _ + 1, h => by simp [cal_B_way, ai_nth] at h)
def k_N_way : ai_C := [
  [(0, .aload_n 0, 1, 0, 0, 0, 0, 0, []), (1, .iconst 0, 1, 0, 0, 0, 0, 0, []), (2, .putfield 145, 3, 12, 0, 67, 0, 0, []), (5, .iload_n 1, 1, 1, 0, 0, 0, 0, []), (6, .ifCond .lt 12, 3, 18, 0, 0, 0, 0, []), (9, .iload_n 1, 1, 1, 0, 0, 0, 0, []), (10, .iconst 1, 1, 0, 0, 0, 0, 1, []), (11, .if_icmp .gt 7, 3, 18, 0, 0, 0, 0, []), (14, .iload_n 2, 1, 2, 0, 0, 0, 0, []), (15, .ifCond .ge 5, 3, 20, 0, 0, 0, 0, [])],
  [(18, .iconst (-1), 1, 0, 0, 0, 0, (-1), []), (19, .ireturn, 1, 0, 0, 0, 0, 0, []), (20, .aload_n 0, 1, 0, 0, 0, 0, 0, []), (21, .iload_n 1, 1, 1, 0, 0, 0, 0, []), (22, .invokevirtual 373, 3, 0, 2, 129, 9, 0, [(0, 12)]), (25, .iload_n 2, 1, 2, 0, 0, 0, 0, []), (26, .aload_n 0, 1, 0, 0, 0, 0, 0, []), (27, .getfield 69, 3, 12, 33, 22, 2, 33, []), (30, .iload_n 1, 1, 1, 0, 0, 0, 0, []), (31, .iaload, 1, 0, 0, 0, 0, 0, [])],
  [(32, .if_icmp .ge 18, 3, 50, 0, 0, 0, 0, []), (35, .aload_n 0, 1, 0, 0, 0, 0, 0, []), (36, .getfield 66, 3, 12, 32, 47, 2, 32, []), (39, .sipush 400, 3, 0, 0, 0, 0, 400, []), (42, .iload_n 1, 1, 1, 0, 0, 0, 0, []), (43, .imul, 1, 0, 0, 0, 0, 0, []), (44, .iload_n 2, 1, 2, 0, 0, 0, 0, []), (45, .iadd, 1, 0, 0, 0, 0, 0, []), (46, .iaload, 1, 0, 0, 0, 0, 0, []), (47, .goto 5, 3, 52, 0, 0, 0, 0, [])],
  [(50, .bipush (-2), 2, 0, 0, 0, 0, (-2), []), (52, .ireturn, 1, 0, 0, 0, 0, 0, [])]]
def i_N_way : ai_I := ((⟨"SuiteBenchModel", "way", "(II)I"⟩, prog_14_method_69_code, 3, (some .int), 0, 5, 121, 0, 2, 0, 12) : ai_I)
def o_N_way (a : Nat) : SP := match a with
  | 0 => f_N_laysWay
  | _ => fun _ _ _ _ _ => False
theorem mo_N_way : ∀ a, ai_mono (o_N_way a)
  | 0 => mf_N_laysWay
  | _ + 1 => fun _ _ _ _ _ _ _ h => h
def f_N_way : SP := ai_M o_N_way 0 3 k_N_way
theorem mf_N_way : ai_mono f_N_way := M_mono mo_N_way
abbrev cal_N_way : List ai_I := [i_N_laysWay]
theorem a_N_way : ai_all "SuiteBenchModel" prog_14_method_69_code 3 kc_N cal_N_way 5 121 false (some .int) k_N_way = true := by decide +kernel
theorem w_N_way : ai_CW i_N_way := ⟨(tk_mem (l := [((Jvm.Cond.code ({ cls := "SuiteBenchModel", name := "way", desc := "(II)I" } : Jvm.MethodName) prog_14_method_69_code (3 : Nat) (Option.some Jvm.ClassFile.FieldType.int)), 9, 74)]) (by decide +kernel) _ (List.mem_singleton.mpr rfl)), (tk_mem (l := [((Jvm.Cond.initialized "SuiteBenchModel"), 1, 15)]) (by decide +kernel) _ (List.mem_singleton.mpr rfl)), ⟨by decide +kernel, by decide +kernel, by decide +kernel⟩, ⟨(tk_mem (l := [((Jvm.Cond.instanceMethod ({ cls := "SuiteBenchModel", name := "way", desc := "(II)I" } : Jvm.MethodName)), 9, 72)]) (by decide +kernel) _ (List.mem_singleton.mpr rfl)), (tk_mem (l := [((Jvm.Cond.selects "SuiteBenchModel" ({ cls := "SuiteBenchModel", name := "way", desc := "(II)I" } : Jvm.MethodName) ({ cls := "SuiteBenchModel", name := "way", desc := "(II)I" } : Jvm.MethodName)), 9, 73)]) (by decide +kernel) _ (List.mem_singleton.mpr rfl)), .inl ⟨_, _, rfl⟩⟩⟩
theorem c_N_way {E2 : (Nat → Nat) → State → Heap → Prop} (hE : ai_XH E2) : ai_S E2 i_N_way f_N_way := snd_M (by decide) rfl (by decide) a_N_way kc_N_ok (by rfl) (by decide) (fun a i h => match a, h with
    | 0, h => by cases h; exact ⟨c_N_laysWay hE, w_N_laysWay⟩
    | _ + 1, h => by simp [cal_N_way, ai_nth] at h)
def k_E_step : ai_C := [
  [(0, .aload_n 0, 1, 0, 0, 0, 0, 0, []), (1, .getfield 30, 3, 8, 6, 8, 2, 6, []), (4, .aload_n 0, 1, 0, 0, 0, 0, 0, []), (5, .getfield 9, 3, 8, 0, 2, 2, 0, []), (8, .iload_n 2, 1, 2, 0, 0, 0, 0, []), (9, .iaload, 1, 0, 0, 0, 0, 0, []), (10, .iaload, 1, 0, 0, 0, 0, 0, []), (11, .istore_n 3, 1, 3, 0, 0, 0, 0, []), (12, .iload_n 3, 1, 3, 0, 0, 0, 0, []), (13, .ifCond .ge 5, 3, 18, 0, 0, 0, 0, [])],
  [(16, .iconst (-1), 1, 0, 0, 0, 0, (-1), []), (17, .ireturn, 1, 0, 0, 0, 0, 0, []), (18, .iload_n 3, 1, 3, 0, 0, 0, 0, []), (19, .iconst 3, 1, 0, 0, 0, 0, 3, []), (20, .imul, 1, 0, 0, 0, 0, 0, []), (21, .aload_n 0, 1, 0, 0, 0, 0, 0, []), (22, .getfield 15, 3, 8, 1, 3, 2, 1, []), (25, .iload_n 2, 1, 2, 0, 0, 0, 0, []), (26, .iaload, 1, 0, 0, 0, 0, 0, []), (27, .iadd, 1, 0, 0, 0, 0, 0, []), (28, .istore 4, 2, 4, 0, 0, 0, 0, []), (30, .aload_n 1, 1, 1, 0, 0, 0, 0, []), (31, .getfield 54, 3, 1, 1, 13, 2, 1, [])],
  [(34, .iload 4, 2, 4, 0, 0, 0, 0, []), (36, .iaload, 1, 0, 0, 0, 0, 0, []), (37, .aload_n 0, 1, 0, 0, 0, 0, 0, []), (38, .getfield 18, 3, 8, 2, 4, 2, 2, []), (41, .iload_n 2, 1, 2, 0, 0, 0, 0, []), (42, .iaload, 1, 0, 0, 0, 0, 0, []), (43, .if_icmp .ne 13, 3, 56, 0, 0, 0, 0, []), (46, .aload_n 1, 1, 1, 0, 0, 0, 0, []), (47, .getfield 59, 3, 1, 0, 14, 2, 0, [])],
  [(50, .iload 4, 2, 4, 0, 0, 0, 0, []), (52, .iaload, 1, 0, 0, 0, 0, 0, []), (53, .goto 4, 3, 57, 0, 0, 0, 0, []), (56, .iconst (-1), 1, 0, 0, 0, 0, (-1), []), (57, .ireturn, 1, 0, 0, 0, 0, 0, [])]]
def i_E_step : ai_I := ((⟨"SuiteBench$Tests", "step", "(LSuiteBench$Machine;I)I"⟩, prog_10_method_8_code, 5, (some .int), 0, 0, 0, 0, 2, 0, 8) : ai_I)
def o_E_step (_ : Nat) : SP := fun _ _ _ _ _ => False
theorem mo_E_step : ∀ a, ai_mono (o_E_step a) := fun _ _ _ _ _ _ _ _ h => h
def f_E_step : SP := ai_M o_E_step 0 5 k_E_step
theorem mf_E_step : ai_mono f_E_step := M_mono mo_E_step
abbrev cal_E_step : List ai_I := []
theorem a_E_step : ai_all "SuiteBench$Tests" prog_10_method_8_code 5 kc_E cal_E_step 0 0 false (some .int) k_E_step = true := by decide +kernel
theorem w_E_step : ai_CW i_E_step := ⟨(tk_mem (l := [((Jvm.Cond.code ({ cls := "SuiteBench$Tests", name := "step", desc := "(LSuiteBench$Machine;I)I" } : Jvm.MethodName) prog_10_method_8_code (5 : Nat) (Option.some Jvm.ClassFile.FieldType.int)), 5, 53)]) (by decide +kernel) _ (List.mem_singleton.mpr rfl)), (tk_mem (l := [((Jvm.Cond.initialized "SuiteBench$Tests"), 1, 10)]) (by decide +kernel) _ (List.mem_singleton.mpr rfl)), ⟨by decide +kernel, by decide +kernel, by decide +kernel⟩, ⟨(tk_mem (l := [((Jvm.Cond.instanceMethod ({ cls := "SuiteBench$Tests", name := "step", desc := "(LSuiteBench$Machine;I)I" } : Jvm.MethodName)), 5, 52)]) (by decide +kernel) _ (List.mem_singleton.mpr rfl)), gw_sel 42 (by decide +kernel), .inl ⟨_, _, rfl⟩⟩⟩
theorem c_E_step {E2 : (Nat → Nat) → State → Heap → Prop} (hE : ai_XH E2) : ai_S E2 i_E_step f_E_step := snd_M (by decide) rfl (by decide) a_E_step kc_E_ok (by rfl) (by decide) (fun a i h => by simp [cal_E_step, ai_nth] at h)
def k_E_run : ai_C := [
  [(0, .aload_n 0, 1, 0, 0, 0, 0, 0, []), (1, .getfield 30, 3, 8, 6, 8, 2, 6, []), (4, .iconst 0, 1, 0, 0, 0, 0, 0, []), (5, .iconst 0, 1, 0, 0, 0, 0, 0, []), (6, .iastore, 1, 0, 0, 0, 0, 0, []), (7, .iconst 1, 1, 0, 0, 0, 0, 1, []), (8, .istore_n 2, 1, 2, 0, 0, 0, 0, []), (9, .iload_n 2, 1, 2, 0, 0, 0, 0, []), (10, .aload_n 0, 1, 0, 0, 0, 0, 0, []), (11, .getfield 33, 3, 8, 7, 9, 0, 7, []), (14, .if_icmp .ge 21, 3, 35, 0, 0, 0, 0, [])],
  [(17, .aload_n 0, 1, 0, 0, 0, 0, 0, []), (18, .getfield 30, 3, 8, 6, 8, 2, 6, []), (21, .iload_n 2, 1, 2, 0, 0, 0, 0, []), (22, .aload_n 0, 1, 0, 0, 0, 0, 0, []), (23, .aload_n 1, 1, 1, 0, 0, 0, 0, []), (24, .iload_n 2, 1, 2, 0, 0, 0, 0, []), (25, .invokevirtual 50, 3, 0, 3, 15, 0, 0, [(0, 8)]), (28, .iastore, 1, 0, 0, 0, 0, 0, []), (29, .iinc 2 1, 3, 2, 0, 0, 0, 1, [])],
  [(32, .goto (-23), 3, 9, 0, 0, 0, 0, []), (35, .return_, 1, 0, 0, 0, 0, 0, [])]]
def i_E_run : ai_I := ((⟨"SuiteBench$Tests", "run", "(LSuiteBench$Machine;)V"⟩, prog_10_method_7_code, 3, none, 9, 1, 24, 0, 1, 0, 8) : ai_I)
def o_E_run (a : Nat) : SP := match a with
  | 0 => f_E_step
  | _ => fun _ _ _ _ _ => False
theorem mo_E_run : ∀ a, ai_mono (o_E_run a)
  | 0 => mf_E_step
  | _ + 1 => fun _ _ _ _ _ _ _ h => h
def f_E_run : SP := ai_M o_E_run 0 3 k_E_run
theorem mf_E_run : ai_mono f_E_run := M_mono mo_E_run
abbrev cal_E_run : List ai_I := [i_E_step]
theorem a_E_run : ai_all "SuiteBench$Tests" prog_10_method_7_code 3 kc_E cal_E_run 1 24 false none k_E_run = true := by decide +kernel
theorem w_E_run : ai_CW i_E_run := ⟨(tk_mem (l := [((Jvm.Cond.code ({ cls := "SuiteBench$Tests", name := "run", desc := "(LSuiteBench$Machine;)V" } : Jvm.MethodName) prog_10_method_7_code (3 : Nat) (Option.none : Option Jvm.ClassFile.FieldType)), 5, 49)]) (by decide +kernel) _ (List.mem_singleton.mpr rfl)), (tk_mem (l := [((Jvm.Cond.initialized "SuiteBench$Tests"), 1, 10)]) (by decide +kernel) _ (List.mem_singleton.mpr rfl)), ⟨by decide +kernel, by decide +kernel, by decide +kernel⟩, ⟨(tk_mem (l := [((Jvm.Cond.instanceMethod ({ cls := "SuiteBench$Tests", name := "run", desc := "(LSuiteBench$Machine;)V" } : Jvm.MethodName)), 5, 47)]) (by decide +kernel) _ (List.mem_singleton.mpr rfl)), (tk_mem (l := [((Jvm.Cond.selects "SuiteBench$Tests" ({ cls := "SuiteBench$Tests", name := "run", desc := "(LSuiteBench$Machine;)V" } : Jvm.MethodName) ({ cls := "SuiteBench$Tests", name := "run", desc := "(LSuiteBench$Machine;)V" } : Jvm.MethodName)), 5, 48)]) (by decide +kernel) _ (List.mem_singleton.mpr rfl)), .inl ⟨_, _, rfl⟩⟩⟩
theorem c_E_run {E2 : (Nat → Nat) → State → Heap → Prop} (hE : ai_XH E2) : ai_S E2 i_E_run f_E_run := snd_M (by decide) rfl (by decide) a_E_run kc_E_ok (by rfl) (by decide) (fun a i h => match a, h with
    | 0, h => by cases h; exact ⟨c_E_step hE, w_E_step⟩
    | _ + 1, h => by simp [cal_E_run, ai_nth] at h)
def k_E_isFailed : ai_C := [
  [(0, .aload_n 0, 1, 0, 0, 0, 0, 0, []), (1, .getfield 30, 3, 8, 6, 8, 2, 6, []), (4, .aload_n 0, 1, 0, 0, 0, 0, 0, []), (5, .getfield 21, 3, 8, 3, 5, 2, 3, []), (8, .iload_n 1, 1, 1, 0, 0, 0, 0, []), (9, .iaload, 1, 0, 0, 0, 0, 0, []), (10, .iaload, 1, 0, 0, 0, 0, 0, []), (11, .ifCond .ge 7, 3, 18, 0, 0, 0, 0, []), (14, .iconst 1, 1, 0, 0, 0, 0, 1, []), (15, .goto 4, 3, 19, 0, 0, 0, 0, [])],
  [(18, .iconst 0, 1, 0, 0, 0, 0, 0, []), (19, .ireturn, 1, 0, 0, 0, 3, 0, [])]]
def i_E_isFailed : ai_I := ((⟨"SuiteBench$Tests", "isFailed", "(I)Z"⟩, prog_10_method_10_code, 2, (some .boolean), 3, 0, 0, 0, 1, 0, 8) : ai_I)
def o_E_isFailed (_ : Nat) : SP := fun _ _ _ _ _ => False
theorem mo_E_isFailed : ∀ a, ai_mono (o_E_isFailed a) := fun _ _ _ _ _ _ _ _ h => h
def f_E_isFailed : SP := ai_M o_E_isFailed 0 2 k_E_isFailed
theorem mf_E_isFailed : ai_mono f_E_isFailed := M_mono mo_E_isFailed
abbrev cal_E_isFailed : List ai_I := []
theorem a_E_isFailed : ai_all "SuiteBench$Tests" prog_10_method_10_code 2 kc_E cal_E_isFailed 0 0 false (some .boolean) k_E_isFailed = true := by decide +kernel
theorem w_E_isFailed : ai_CW i_E_isFailed := ⟨(tk_mem (l := [((Jvm.Cond.code ({ cls := "SuiteBench$Tests", name := "isFailed", desc := "(I)Z" } : Jvm.MethodName) prog_10_method_10_code (2 : Nat) (Option.some Jvm.ClassFile.FieldType.boolean)), 5, 61)]) (by decide +kernel) _ (List.mem_singleton.mpr rfl)), (tk_mem (l := [((Jvm.Cond.initialized "SuiteBench$Tests"), 1, 10)]) (by decide +kernel) _ (List.mem_singleton.mpr rfl)), ⟨by decide +kernel, by decide +kernel, by decide +kernel⟩, ⟨(tk_mem (l := [((Jvm.Cond.instanceMethod ({ cls := "SuiteBench$Tests", name := "isFailed", desc := "(I)Z" } : Jvm.MethodName)), 5, 59)]) (by decide +kernel) _ (List.mem_singleton.mpr rfl)), (tk_mem (l := [((Jvm.Cond.selects "SuiteBench$Tests" ({ cls := "SuiteBench$Tests", name := "isFailed", desc := "(I)Z" } : Jvm.MethodName) ({ cls := "SuiteBench$Tests", name := "isFailed", desc := "(I)Z" } : Jvm.MethodName)), 5, 60)]) (by decide +kernel) _ (List.mem_singleton.mpr rfl)), .inl ⟨_, _, rfl⟩⟩⟩
theorem c_E_isFailed {E2 : (Nat → Nat) → State → Heap → Prop} (hE : ai_XH E2) : ai_S E2 i_E_isFailed f_E_isFailed := snd_M (by decide) rfl (by decide) a_E_isFailed kc_E_ok (by rfl) (by decide) (fun a i h => by simp [cal_E_isFailed, ai_nth] at h)
def k_E_failures : ai_C := [
  [(0, .iconst 0, 1, 0, 0, 0, 0, 0, []), (1, .istore_n 1, 1, 1, 0, 0, 0, 0, []), (2, .iconst 0, 1, 0, 0, 0, 0, 0, []), (3, .istore_n 2, 1, 2, 0, 0, 0, 0, []), (4, .iload_n 2, 1, 2, 0, 0, 0, 0, []), (5, .aload_n 0, 1, 0, 0, 0, 0, 0, []), (6, .getfield 37, 3, 8, 8, 10, 0, 8, []), (9, .if_icmp .ge 20, 3, 29, 0, 0, 0, 0, []), (12, .aload_n 0, 1, 0, 0, 0, 0, 0, []), (13, .iload_n 2, 1, 2, 0, 0, 0, 0, []), (14, .invokevirtual 62, 3, 0, 2, 16, 0, 0, [(0, 8)])],
  [(17, .ifCond .eq 6, 3, 23, 0, 0, 0, 0, []), (20, .iinc 1 1, 3, 1, 0, 0, 0, 1, []), (23, .iinc 2 1, 3, 2, 0, 0, 0, 1, []), (26, .goto (-22), 3, 4, 0, 0, 0, 0, []), (29, .iload_n 1, 1, 1, 0, 0, 0, 0, []), (30, .ireturn, 1, 0, 0, 0, 0, 0, [])]]
def i_E_failures : ai_I := ((⟨"SuiteBench$Tests", "failures", "()I"⟩, prog_10_method_11_code, 3, (some .int), 0, 1, 21, 0, 0, 0, 8) : ai_I)
def o_E_failures (a : Nat) : SP := match a with
  | 0 => f_E_isFailed
  | _ => fun _ _ _ _ _ => False
theorem mo_E_failures : ∀ a, ai_mono (o_E_failures a)
  | 0 => mf_E_isFailed
  | _ + 1 => fun _ _ _ _ _ _ _ h => h
def f_E_failures : SP := ai_M o_E_failures 0 3 k_E_failures
theorem mf_E_failures : ai_mono f_E_failures := M_mono mo_E_failures
abbrev cal_E_failures : List ai_I := [i_E_isFailed]
theorem a_E_failures : ai_all "SuiteBench$Tests" prog_10_method_11_code 3 kc_E cal_E_failures 1 21 false (some .int) k_E_failures = true := by decide +kernel
theorem w_E_failures : ai_CW i_E_failures := ⟨(tk_mem (l := [((Jvm.Cond.code ({ cls := "SuiteBench$Tests", name := "failures", desc := "()I" } : Jvm.MethodName) prog_10_method_11_code (3 : Nat) (Option.some Jvm.ClassFile.FieldType.int)), 5, 57)]) (by decide +kernel) _ (List.mem_singleton.mpr rfl)), (tk_mem (l := [((Jvm.Cond.initialized "SuiteBench$Tests"), 1, 10)]) (by decide +kernel) _ (List.mem_singleton.mpr rfl)), ⟨by decide +kernel, by decide +kernel, by decide +kernel⟩, ⟨(tk_mem (l := [((Jvm.Cond.instanceMethod ({ cls := "SuiteBench$Tests", name := "failures", desc := "()I" } : Jvm.MethodName)), 5, 55)]) (by decide +kernel) _ (List.mem_singleton.mpr rfl)), (tk_mem (l := [((Jvm.Cond.selects "SuiteBench$Tests" ({ cls := "SuiteBench$Tests", name := "failures", desc := "()I" } : Jvm.MethodName) ({ cls := "SuiteBench$Tests", name := "failures", desc := "()I" } : Jvm.MethodName)), 5, 56)]) (by decide +kernel) _ (List.mem_singleton.mpr rfl)), .inl ⟨_, _, rfl⟩⟩⟩
theorem c_E_failures {E2 : (Nat → Nat) → State → Heap → Prop} (hE : ai_XH E2) : ai_S E2 i_E_failures f_E_failures := snd_M (by decide) rfl (by decide) a_E_failures kc_E_ok (by rfl) (by decide) (fun a i h => match a, h with
    | 0, h => by cases h; exact ⟨c_E_isFailed hE, w_E_isFailed⟩
    | _ + 1, h => by simp [cal_E_failures, ai_nth] at h)
def k_E_firstFailure : ai_C := [
  [(0, .iconst 0, 1, 0, 0, 0, 0, 0, []), (1, .istore_n 1, 1, 1, 0, 0, 0, 0, []), (2, .iload_n 1, 1, 1, 0, 0, 0, 0, []), (3, .aload_n 0, 1, 0, 0, 0, 0, 0, []), (4, .getfield 37, 3, 8, 8, 10, 0, 8, []), (7, .if_icmp .ge 19, 3, 26, 0, 0, 0, 0, []), (10, .aload_n 0, 1, 0, 0, 0, 0, 0, []), (11, .iload_n 1, 1, 1, 0, 0, 0, 0, []), (12, .invokevirtual 62, 3, 0, 2, 16, 0, 0, [(0, 8)]), (15, .ifCond .eq 5, 3, 20, 0, 0, 0, 0, [])],
  [(18, .iload_n 1, 1, 1, 0, 0, 0, 0, []), (19, .ireturn, 1, 0, 0, 0, 0, 0, []), (20, .iinc 1 1, 3, 1, 0, 0, 0, 1, []), (23, .goto (-21), 3, 2, 0, 0, 0, 0, []), (26, .iconst (-1), 1, 0, 0, 0, 0, (-1), []), (27, .ireturn, 1, 0, 0, 0, 0, 0, [])]]
def i_E_firstFailure : ai_I := ((⟨"SuiteBench$Tests", "firstFailure", "()I"⟩, prog_10_method_12_code, 2, (some .int), 0, 1, 21, 0, 0, 0, 8) : ai_I)
def o_E_firstFailure (a : Nat) : SP := match a with
  | 0 => f_E_isFailed
  | _ => fun _ _ _ _ _ => False
theorem mo_E_firstFailure : ∀ a, ai_mono (o_E_firstFailure a)
  | 0 => mf_E_isFailed
  | _ + 1 => fun _ _ _ _ _ _ _ h => h
def f_E_firstFailure : SP := ai_M o_E_firstFailure 0 2 k_E_firstFailure
theorem mf_E_firstFailure : ai_mono f_E_firstFailure := M_mono mo_E_firstFailure
abbrev cal_E_firstFailure : List ai_I := [i_E_isFailed]
theorem a_E_firstFailure : ai_all "SuiteBench$Tests" prog_10_method_12_code 2 kc_E cal_E_firstFailure 1 21 false (some .int) k_E_firstFailure = true := by decide +kernel
theorem w_E_firstFailure : ai_CW i_E_firstFailure := ⟨(tk_mem (l := [((Jvm.Cond.code ({ cls := "SuiteBench$Tests", name := "firstFailure", desc := "()I" } : Jvm.MethodName) prog_10_method_12_code (2 : Nat) (Option.some Jvm.ClassFile.FieldType.int)), 5, 65)]) (by decide +kernel) _ (List.mem_singleton.mpr rfl)), (tk_mem (l := [((Jvm.Cond.initialized "SuiteBench$Tests"), 1, 10)]) (by decide +kernel) _ (List.mem_singleton.mpr rfl)), ⟨by decide +kernel, by decide +kernel, by decide +kernel⟩, ⟨(tk_mem (l := [((Jvm.Cond.instanceMethod ({ cls := "SuiteBench$Tests", name := "firstFailure", desc := "()I" } : Jvm.MethodName)), 5, 63)]) (by decide +kernel) _ (List.mem_singleton.mpr rfl)), (tk_mem (l := [((Jvm.Cond.selects "SuiteBench$Tests" ({ cls := "SuiteBench$Tests", name := "firstFailure", desc := "()I" } : Jvm.MethodName) ({ cls := "SuiteBench$Tests", name := "firstFailure", desc := "()I" } : Jvm.MethodName)), 5, 64)]) (by decide +kernel) _ (List.mem_singleton.mpr rfl)), .inl ⟨_, _, rfl⟩⟩⟩
theorem c_E_firstFailure {E2 : (Nat → Nat) → State → Heap → Prop} (hE : ai_XH E2) : ai_S E2 i_E_firstFailure f_E_firstFailure := snd_M (by decide) rfl (by decide) a_E_firstFailure kc_E_ok (by rfl) (by decide) (fun a i h => match a, h with
    | 0, h => by cases h; exact ⟨c_E_isFailed hE, w_E_isFailed⟩
    | _ + 1, h => by simp [cal_E_firstFailure, ai_nth] at h)
def k_E_stepsBehindWrong : ai_C := [
  [(0, .aload_n 0, 1, 0, 0, 0, 0, 0, []), (1, .getfield 21, 3, 8, 3, 5, 2, 3, []), (4, .iload_n 1, 1, 1, 0, 0, 0, 0, []), (5, .iaload, 1, 0, 0, 0, 0, 0, []), (6, .istore_n 2, 1, 2, 0, 0, 0, 0, []), (7, .iconst 0, 1, 0, 0, 0, 0, 0, []), (8, .istore_n 3, 1, 3, 0, 0, 0, 0, []), (9, .iload_n 3, 1, 3, 0, 0, 0, 0, []), (10, .aload_n 0, 1, 0, 0, 0, 0, 0, []), (11, .getfield 27, 3, 8, 5, 7, 2, 5, []), (14, .iload_n 1, 1, 1, 0, 0, 0, 0, []), (15, .iaload, 1, 0, 0, 0, 0, 0, [])],
  [(16, .if_icmp .ge 30, 3, 46, 0, 0, 0, 0, []), (19, .aload_n 0, 1, 0, 0, 0, 0, 0, []), (20, .getfield 30, 3, 8, 6, 8, 2, 6, []), (23, .aload_n 0, 1, 0, 0, 0, 0, 0, []), (24, .getfield 9, 3, 8, 0, 2, 2, 0, []), (27, .iload_n 2, 1, 2, 0, 0, 0, 0, []), (28, .iaload, 1, 0, 0, 0, 0, 0, []), (29, .iaload, 1, 0, 0, 0, 0, 0, []), (30, .ifCond .ge 16, 3, 46, 0, 0, 0, 0, [])],
  [(33, .aload_n 0, 1, 0, 0, 0, 0, 0, []), (34, .getfield 9, 3, 8, 0, 2, 2, 0, []), (37, .iload_n 2, 1, 2, 0, 0, 0, 0, []), (38, .iaload, 1, 0, 0, 0, 0, 0, []), (39, .istore_n 2, 1, 2, 0, 0, 0, 0, []), (40, .iinc 3 1, 3, 3, 0, 0, 0, 1, []), (43, .goto (-34), 3, 9, 0, 0, 0, 0, []), (46, .iload_n 3, 1, 3, 0, 0, 0, 0, []), (47, .ireturn, 1, 0, 0, 0, 0, 0, [])]]
def i_E_stepsBehindWrong : ai_I := ((⟨"SuiteBench$Tests", "stepsBehindWrong", "(I)I"⟩, prog_10_method_13_code, 4, (some .int), 0, 0, 0, 0, 1, 0, 8) : ai_I)
def o_E_stepsBehindWrong (_ : Nat) : SP := fun _ _ _ _ _ => False
theorem mo_E_stepsBehindWrong : ∀ a, ai_mono (o_E_stepsBehindWrong a) := fun _ _ _ _ _ _ _ _ h => h
def f_E_stepsBehindWrong : SP := ai_M o_E_stepsBehindWrong 0 4 k_E_stepsBehindWrong
theorem mf_E_stepsBehindWrong : ai_mono f_E_stepsBehindWrong := M_mono mo_E_stepsBehindWrong
abbrev cal_E_stepsBehindWrong : List ai_I := []
theorem a_E_stepsBehindWrong : ai_all "SuiteBench$Tests" prog_10_method_13_code 4 kc_E cal_E_stepsBehindWrong 0 0 false (some .int) k_E_stepsBehindWrong = true := by decide +kernel
theorem w_E_stepsBehindWrong : ai_CW i_E_stepsBehindWrong := ⟨(tk_mem (l := [((Jvm.Cond.code ({ cls := "SuiteBench$Tests", name := "stepsBehindWrong", desc := "(I)I" } : Jvm.MethodName) prog_10_method_13_code (4 : Nat) (Option.some Jvm.ClassFile.FieldType.int)), 5, 73)]) (by decide +kernel) _ (List.mem_singleton.mpr rfl)), (tk_mem (l := [((Jvm.Cond.initialized "SuiteBench$Tests"), 1, 10)]) (by decide +kernel) _ (List.mem_singleton.mpr rfl)), ⟨by decide +kernel, by decide +kernel, by decide +kernel⟩, ⟨(tk_mem (l := [((Jvm.Cond.instanceMethod ({ cls := "SuiteBench$Tests", name := "stepsBehindWrong", desc := "(I)I" } : Jvm.MethodName)), 5, 72)]) (by decide +kernel) _ (List.mem_singleton.mpr rfl)), gw_sel 43 (by decide +kernel), .inl ⟨_, _, rfl⟩⟩⟩
theorem c_E_stepsBehindWrong {E2 : (Nat → Nat) → State → Heap → Prop} (hE : ai_XH E2) : ai_S E2 i_E_stepsBehindWrong f_E_stepsBehindWrong := snd_M (by decide) rfl (by decide) a_E_stepsBehindWrong kc_E_ok (by rfl) (by decide) (fun a i h => by simp [cal_E_stepsBehindWrong, ai_nth] at h)
def k_E_wrongPlace : ai_C := [
  [(0, .aload_n 0, 1, 0, 0, 0, 0, 0, []), (1, .getfield 27, 3, 8, 5, 7, 2, 5, []), (4, .iload_n 1, 1, 1, 0, 0, 0, 0, []), (5, .iaload, 1, 0, 0, 0, 0, 0, []), (6, .iconst 1, 1, 0, 0, 0, 0, 1, []), (7, .isub, 1, 0, 0, 0, 0, 0, []), (8, .aload_n 0, 1, 0, 0, 0, 0, 0, []), (9, .iload_n 1, 1, 1, 0, 0, 0, 0, []), (10, .invokevirtual 66, 3, 0, 2, 17, 0, 0, [(0, 8)]), (13, .isub, 1, 0, 0, 0, 0, 0, []), (14, .ireturn, 1, 0, 0, 0, 0, 0, [])]]
def i_E_wrongPlace : ai_I := ((⟨"SuiteBench$Tests", "wrongPlace", "(I)I"⟩, prog_10_method_14_code, 2, (some .int), 0, 1, 23, 0, 1, 0, 8) : ai_I)
def o_E_wrongPlace (a : Nat) : SP := match a with
  | 0 => f_E_stepsBehindWrong
  | _ => fun _ _ _ _ _ => False
theorem mo_E_wrongPlace : ∀ a, ai_mono (o_E_wrongPlace a)
  | 0 => mf_E_stepsBehindWrong
  | _ + 1 => fun _ _ _ _ _ _ _ h => h
def f_E_wrongPlace : SP := ai_M o_E_wrongPlace 0 2 k_E_wrongPlace
theorem mf_E_wrongPlace : ai_mono f_E_wrongPlace := M_mono mo_E_wrongPlace
abbrev cal_E_wrongPlace : List ai_I := [i_E_stepsBehindWrong]
theorem a_E_wrongPlace : ai_all "SuiteBench$Tests" prog_10_method_14_code 2 kc_E cal_E_wrongPlace 1 23 false (some .int) k_E_wrongPlace = true := by decide +kernel
theorem w_E_wrongPlace : ai_CW i_E_wrongPlace := ⟨(tk_mem (l := [((Jvm.Cond.code ({ cls := "SuiteBench$Tests", name := "wrongPlace", desc := "(I)I" } : Jvm.MethodName) prog_10_method_14_code (2 : Nat) (Option.some Jvm.ClassFile.FieldType.int)), 5, 69)]) (by decide +kernel) _ (List.mem_singleton.mpr rfl)), (tk_mem (l := [((Jvm.Cond.initialized "SuiteBench$Tests"), 1, 10)]) (by decide +kernel) _ (List.mem_singleton.mpr rfl)), ⟨by decide +kernel, by decide +kernel, by decide +kernel⟩, ⟨(tk_mem (l := [((Jvm.Cond.instanceMethod ({ cls := "SuiteBench$Tests", name := "wrongPlace", desc := "(I)I" } : Jvm.MethodName)), 5, 67)]) (by decide +kernel) _ (List.mem_singleton.mpr rfl)), (tk_mem (l := [((Jvm.Cond.selects "SuiteBench$Tests" ({ cls := "SuiteBench$Tests", name := "wrongPlace", desc := "(I)I" } : Jvm.MethodName) ({ cls := "SuiteBench$Tests", name := "wrongPlace", desc := "(I)I" } : Jvm.MethodName)), 5, 68)]) (by decide +kernel) _ (List.mem_singleton.mpr rfl)), .inl ⟨_, _, rfl⟩⟩⟩
theorem c_E_wrongPlace {E2 : (Nat → Nat) → State → Heap → Prop} (hE : ai_XH E2) : ai_S E2 i_E_wrongPlace f_E_wrongPlace := snd_M (by decide) rfl (by decide) a_E_wrongPlace kc_E_ok (by rfl) (by decide) (fun a i h => match a, h with
    | 0, h => by cases h; exact ⟨c_E_stepsBehindWrong hE, w_E_stepsBehindWrong⟩
    | _ + 1, h => by simp [cal_E_wrongPlace, ai_nth] at h)
def k_E_wrongOutput : ai_C := [
  [(0, .aload_n 0, 1, 0, 0, 0, 0, 0, []), (1, .getfield 21, 3, 8, 3, 5, 2, 3, []), (4, .iload_n 1, 1, 1, 0, 0, 0, 0, []), (5, .iaload, 1, 0, 0, 0, 0, 0, []), (6, .istore_n 3, 1, 3, 0, 0, 0, 0, []), (7, .aload_n 0, 1, 0, 0, 0, 0, 0, []), (8, .iload_n 1, 1, 1, 0, 0, 0, 0, []), (9, .invokevirtual 66, 3, 0, 2, 17, 0, 0, [(0, 8)]), (12, .istore 4, 2, 4, 0, 0, 0, 0, []), (14, .iconst 0, 1, 0, 0, 0, 0, 0, []), (15, .istore 5, 2, 5, 0, 0, 0, 0, [])],
  [(17, .iload 5, 2, 5, 0, 0, 0, 0, []), (19, .iload 4, 2, 4, 0, 0, 0, 0, []), (21, .if_icmp .ge 16, 3, 37, 0, 0, 0, 0, []), (24, .aload_n 0, 1, 0, 0, 0, 0, 0, []), (25, .getfield 9, 3, 8, 0, 2, 2, 0, []), (28, .iload_n 3, 1, 3, 0, 0, 0, 0, []), (29, .iaload, 1, 0, 0, 0, 0, 0, []), (30, .istore_n 3, 1, 3, 0, 0, 0, 0, []), (31, .iinc 5 1, 3, 5, 0, 0, 0, 1, [])],
  [(34, .goto (-17), 3, 17, 0, 0, 0, 0, []), (37, .aload_n 0, 1, 0, 0, 0, 0, 0, []), (38, .getfield 30, 3, 8, 6, 8, 2, 6, []), (41, .aload_n 0, 1, 0, 0, 0, 0, 0, []), (42, .getfield 9, 3, 8, 0, 2, 2, 0, []), (45, .iload_n 3, 1, 3, 0, 0, 0, 0, []), (46, .iaload, 1, 0, 0, 0, 0, 0, []), (47, .iaload, 1, 0, 0, 0, 0, 0, [])],
  [(48, .istore 5, 2, 5, 0, 0, 0, 0, []), (50, .iload 5, 2, 5, 0, 0, 0, 0, []), (52, .ifCond .ge 7, 3, 59, 0, 0, 0, 0, []), (55, .iconst (-1), 1, 0, 0, 0, 0, (-1), []), (56, .goto 19, 3, 75, 0, 0, 0, 0, []), (59, .aload_n 2, 1, 2, 0, 0, 0, 0, []), (60, .getfield 54, 3, 1, 1, 13, 2, 1, []), (63, .iload 5, 2, 5, 0, 0, 0, 0, [])],
  [(65, .iconst 3, 1, 0, 0, 0, 0, 3, []), (66, .imul, 1, 0, 0, 0, 0, 0, []), (67, .aload_n 0, 1, 0, 0, 0, 0, 0, []), (68, .getfield 15, 3, 8, 1, 3, 2, 1, []), (71, .iload_n 3, 1, 3, 0, 0, 0, 0, []), (72, .iaload, 1, 0, 0, 0, 0, 0, []), (73, .iadd, 1, 0, 0, 0, 0, 0, []), (74, .iaload, 1, 0, 0, 0, 0, 0, []), (75, .ireturn, 1, 0, 0, 0, 0, 0, [])]]
def i_E_wrongOutput : ai_I := ((⟨"SuiteBench$Tests", "wrongOutput", "(ILSuiteBench$Machine;)I"⟩, prog_10_method_15_code, 6, (some .int), 0, 1, 23, 0, 2, 0, 8) : ai_I)
def o_E_wrongOutput (a : Nat) : SP := match a with
  | 0 => f_E_stepsBehindWrong
  | _ => fun _ _ _ _ _ => False
theorem mo_E_wrongOutput : ∀ a, ai_mono (o_E_wrongOutput a)
  | 0 => mf_E_stepsBehindWrong
  | _ + 1 => fun _ _ _ _ _ _ _ h => h
def f_E_wrongOutput : SP := ai_M o_E_wrongOutput 0 6 k_E_wrongOutput
theorem mf_E_wrongOutput : ai_mono f_E_wrongOutput := M_mono mo_E_wrongOutput
abbrev cal_E_wrongOutput : List ai_I := [i_E_stepsBehindWrong]
theorem a_E_wrongOutput : ai_all "SuiteBench$Tests" prog_10_method_15_code 6 kc_E cal_E_wrongOutput 1 23 false (some .int) k_E_wrongOutput = true := by decide +kernel
theorem w_E_wrongOutput : ai_CW i_E_wrongOutput := ⟨(tk_mem (l := [((Jvm.Cond.code ({ cls := "SuiteBench$Tests", name := "wrongOutput", desc := "(ILSuiteBench$Machine;)I" } : Jvm.MethodName) prog_10_method_15_code (6 : Nat) (Option.some Jvm.ClassFile.FieldType.int)), 5, 77)]) (by decide +kernel) _ (List.mem_singleton.mpr rfl)), (tk_mem (l := [((Jvm.Cond.initialized "SuiteBench$Tests"), 1, 10)]) (by decide +kernel) _ (List.mem_singleton.mpr rfl)), ⟨by decide +kernel, by decide +kernel, by decide +kernel⟩, ⟨(tk_mem (l := [((Jvm.Cond.instanceMethod ({ cls := "SuiteBench$Tests", name := "wrongOutput", desc := "(ILSuiteBench$Machine;)I" } : Jvm.MethodName)), 5, 75)]) (by decide +kernel) _ (List.mem_singleton.mpr rfl)), (tk_mem (l := [((Jvm.Cond.selects "SuiteBench$Tests" ({ cls := "SuiteBench$Tests", name := "wrongOutput", desc := "(ILSuiteBench$Machine;)I" } : Jvm.MethodName) ({ cls := "SuiteBench$Tests", name := "wrongOutput", desc := "(ILSuiteBench$Machine;)I" } : Jvm.MethodName)), 5, 76)]) (by decide +kernel) _ (List.mem_singleton.mpr rfl)), .inl ⟨_, _, rfl⟩⟩⟩
theorem c_E_wrongOutput {E2 : (Nat → Nat) → State → Heap → Prop} (hE : ai_XH E2) : ai_S E2 i_E_wrongOutput f_E_wrongOutput := snd_M (by decide) rfl (by decide) a_E_wrongOutput kc_E_ok (by rfl) (by decide) (fun a i h => match a, h with
    | 0, h => by cases h; exact ⟨c_E_stepsBehindWrong hE, w_E_stepsBehindWrong⟩
    | _ + 1, h => by simp [cal_E_wrongOutput, ai_nth] at h)
def k_B_verdict : ai_C := [
  [(0, .iload_n 1, 1, 1, 0, 0, 0, 0, []), (1, .invokestatic 193, 3, 0, 1, 98, 0, 0, [(0, 11)]), (4, .ifCond .eq 12, 3, 16, 0, 0, 0, 0, []), (7, .iload_n 2, 1, 2, 0, 0, 0, 0, []), (8, .ifCond .lt 8, 3, 16, 0, 0, 0, 0, []), (11, .iload_n 2, 1, 2, 0, 0, 0, 0, []), (12, .iconst 3, 1, 0, 0, 0, 0, 3, []), (13, .if_icmp .le 5, 3, 18, 0, 0, 0, 0, [])],
  [(16, .iconst (-1), 1, 0, 0, 0, 0, (-1), []), (17, .ireturn, 1, 0, 0, 0, 0, 0, []), (18, .aload_n 0, 1, 0, 0, 0, 0, 0, []), (19, .getfield 56, 3, 11, 5, 14, 2, 5, []), (22, .iload_n 1, 1, 1, 0, 0, 0, 0, []), (23, .invokevirtual 196, 3, 1, 2, 99, 2, 0, [(0, 6)]), (26, .astore_n 3, 1, 3, 0, 0, 0, 0, []), (27, .aload_n 3, 1, 3, 0, 0, 0, 0, []), (28, .aload_n 0, 1, 0, 0, 0, 0, 0, []), (29, .getfield 30, 3, 11, 2, 7, 2, 2, [])],
  [(32, .invokevirtual 224, 3, 2, 2, 107, 9, 0, [(0, 8)]), (35, .iload_n 2, 1, 2, 0, 0, 0, 0, []), (36, .ifCond .ne 8, 3, 44, 0, 0, 0, 0, []), (39, .aload_n 3, 1, 3, 0, 0, 0, 0, []), (40, .invokevirtual 227, 3, 3, 1, 108, 0, 0, [(0, 8)]), (43, .ireturn, 1, 0, 0, 0, 0, 0, []), (44, .aload_n 3, 1, 3, 0, 0, 0, 0, []), (45, .invokevirtual 230, 3, 4, 1, 109, 0, 0, [(0, 8)])],
  [(48, .istore 4, 2, 4, 0, 0, 0, 0, []), (50, .iload 4, 2, 4, 0, 0, 0, 0, []), (52, .ifCond .ge 6, 3, 58, 0, 0, 0, 0, []), (55, .bipush (-2), 2, 0, 0, 0, 0, (-2), []), (57, .ireturn, 1, 0, 0, 0, 0, 0, []), (58, .iload_n 2, 1, 2, 0, 0, 0, 0, []), (59, .iconst 1, 1, 0, 0, 0, 0, 1, []), (60, .if_icmp .ne 6, 3, 66, 0, 0, 0, 0, []), (63, .iload 4, 2, 4, 0, 0, 0, 0, [])],
  [(65, .ireturn, 1, 0, 0, 0, 0, 0, []), (66, .iload_n 2, 1, 2, 0, 0, 0, 0, []), (67, .iconst 2, 1, 0, 0, 0, 0, 2, []), (68, .if_icmp .ne 12, 3, 80, 0, 0, 0, 0, []), (71, .aload_n 3, 1, 3, 0, 0, 0, 0, []), (72, .iload 4, 2, 4, 0, 0, 0, 0, []), (74, .invokevirtual 233, 3, 5, 2, 110, 0, 0, [(0, 8)]), (77, .goto 13, 3, 90, 0, 0, 0, 0, [])],
  [(80, .aload_n 3, 1, 3, 0, 0, 0, 0, []), (81, .iload 4, 2, 4, 0, 0, 0, 0, []), (83, .aload_n 0, 1, 0, 0, 0, 0, 0, []), (84, .getfield 30, 3, 11, 2, 7, 2, 2, []), (87, .invokevirtual 236, 3, 6, 3, 111, 0, 0, [(0, 8)]), (90, .ireturn, 1, 0, 0, 0, 0, 0, [])]]
def i_B_verdict : ai_I := ((⟨"SuiteBench", "verdict", "(II)I"⟩, prog_1_method_20_code, 5, (some .int), 0, 6, 143, 0, 2, 0, 11) : ai_I)
def o_B_verdict (a : Nat) : SP := match a with
  | 0 => f_B_isSuite
  | 1 => f_T_give
  | 2 => f_E_run
  | 3 => f_E_failures
  | 4 => f_E_firstFailure
  | 5 => f_E_wrongPlace
  | 6 => f_E_wrongOutput
  | _ => fun _ _ _ _ _ => False
theorem mo_B_verdict : ∀ a, ai_mono (o_B_verdict a)
  | 0 => mf_B_isSuite
  | 1 => mf_T_give
  | 2 => mf_E_run
  | 3 => mf_E_failures
  | 4 => mf_E_firstFailure
  | 5 => mf_E_wrongPlace
  | 6 => mf_E_wrongOutput
  | _ + 7 => fun _ _ _ _ _ _ _ h => h
def f_B_verdict : SP := ai_M o_B_verdict 0 5 k_B_verdict
theorem mf_B_verdict : ai_mono f_B_verdict := M_mono mo_B_verdict
abbrev cal_B_verdict : List ai_I := [i_B_isSuite, i_T_give, i_E_run, i_E_failures, i_E_firstFailure, i_E_wrongPlace, i_E_wrongOutput]
theorem a_B_verdict : ai_all "SuiteBench" prog_1_method_20_code 5 kc_B cal_B_verdict 6 143 false (some .int) k_B_verdict = true := by decide +kernel
theorem w_B_verdict : ai_CW i_B_verdict := ⟨(tk_mem (l := [((Jvm.Cond.code ({ cls := "SuiteBench", name := "verdict", desc := "(II)I" } : Jvm.MethodName) prog_1_method_20_code (5 : Nat) (Option.some Jvm.ClassFile.FieldType.int)), 5, 45)]) (by decide +kernel) _ (List.mem_singleton.mpr rfl)), (tk_mem (l := [((Jvm.Cond.initialized "SuiteBench"), 1, 1)]) (by decide +kernel) _ (List.mem_singleton.mpr rfl)), ⟨by decide +kernel, by decide +kernel, by decide +kernel⟩, ⟨(tk_mem (l := [((Jvm.Cond.instanceMethod ({ cls := "SuiteBench", name := "verdict", desc := "(II)I" } : Jvm.MethodName)), 5, 43)]) (by decide +kernel) _ (List.mem_singleton.mpr rfl)), (tk_mem (l := [((Jvm.Cond.selects "SuiteBench" ({ cls := "SuiteBench", name := "verdict", desc := "(II)I" } : Jvm.MethodName) ({ cls := "SuiteBench", name := "verdict", desc := "(II)I" } : Jvm.MethodName)), 5, 44)]) (by decide +kernel) _ (List.mem_singleton.mpr rfl)), .inl ⟨_, _, rfl⟩⟩⟩
theorem c_B_verdict {E2 : (Nat → Nat) → State → Heap → Prop} (hE : ai_XH E2) : ai_S E2 i_B_verdict f_B_verdict := snd_M (by decide) rfl (by decide) a_B_verdict kc_B_ok (by rfl) (by decide) (fun a i h => match a, h with
    | 0, h => by cases h; exact ⟨c_B_isSuite hE, w_B_isSuite⟩
    | 1, h => by cases h; exact ⟨c_T_give hE, w_T_give⟩
    | 2, h => by cases h; exact ⟨c_E_run hE, w_E_run⟩
    | 3, h => by cases h; exact ⟨c_E_failures hE, w_E_failures⟩
    | 4, h => by cases h; exact ⟨c_E_firstFailure hE, w_E_firstFailure⟩
    | 5, h => by cases h; exact ⟨c_E_wrongPlace hE, w_E_wrongPlace⟩
    | 6, h => by cases h; exact ⟨c_E_wrongOutput hE, w_E_wrongOutput⟩
    | _ + 7, h => by simp [cal_B_verdict, ai_nth] at h)
def k_N_isPassed : ai_C := [
  [(0, .aload_n 0, 1, 0, 0, 0, 0, 0, []), (1, .iload_n 1, 1, 1, 0, 0, 0, 0, []), (2, .iconst 0, 1, 0, 0, 0, 0, 0, []), (3, .iload_n 2, 1, 2, 0, 0, 0, 0, []), (4, .invokevirtual 319, 3, 0, 4, 18, 1, 0, [(0, 12)]), (7, .aload_n 0, 1, 0, 0, 0, 0, 0, []), (8, .iconst 0, 1, 0, 0, 0, 0, 0, []), (9, .iconst 0, 1, 0, 0, 0, 0, 0, []), (10, .iload_n 2, 1, 2, 0, 0, 0, 0, []), (11, .invokevirtual 319, 3, 0, 4, 18, 1, 0, [(0, 12)]), (14, .lcmp, 1, 0, 0, 0, 0, 0, []), (15, .ifCond .ne 7, 3, 22, 0, 0, 0, 0, [])],
  [(18, .iconst 1, 1, 0, 0, 0, 0, 1, []), (19, .goto 4, 3, 23, 0, 0, 0, 0, []), (22, .iconst 0, 1, 0, 0, 0, 0, 0, []), (23, .ireturn, 1, 0, 0, 0, 3, 0, [])]]
def i_N_isPassed : ai_I := ((⟨"SuiteBenchModel", "isPassed", "(II)Z"⟩, prog_14_method_83_code, 3, (some .boolean), 3, 2, 51, 0, 2, 0, 12) : ai_I)
def o_N_isPassed (a : Nat) : SP := match a with
  | 0 => f_N_answers
  | _ => fun _ _ _ _ _ => False
theorem mo_N_isPassed : ∀ a, ai_mono (o_N_isPassed a)
  | 0 => mf_N_answers
  | _ + 1 => fun _ _ _ _ _ _ _ h => h
def f_N_isPassed : SP := ai_M o_N_isPassed 0 3 k_N_isPassed
theorem mf_N_isPassed : ai_mono f_N_isPassed := M_mono mo_N_isPassed
abbrev cal_N_isPassed : List ai_I := [i_N_answers]
theorem a_N_isPassed : ai_all "SuiteBenchModel" prog_14_method_83_code 3 kc_N cal_N_isPassed 2 51 false (some .boolean) k_N_isPassed = true := by decide +kernel
theorem w_N_isPassed : ai_CW i_N_isPassed := ⟨(tk_mem (l := [((Jvm.Cond.code ({ cls := "SuiteBenchModel", name := "isPassed", desc := "(II)Z" } : Jvm.MethodName) prog_14_method_83_code (3 : Nat) (Option.some Jvm.ClassFile.FieldType.boolean)), 9, 152)]) (by decide +kernel) _ (List.mem_singleton.mpr rfl)), (tk_mem (l := [((Jvm.Cond.initialized "SuiteBenchModel"), 1, 15)]) (by decide +kernel) _ (List.mem_singleton.mpr rfl)), ⟨by decide +kernel, by decide +kernel, by decide +kernel⟩, ⟨(tk_mem (l := [((Jvm.Cond.instanceMethod ({ cls := "SuiteBenchModel", name := "isPassed", desc := "(II)Z" } : Jvm.MethodName)), 9, 151)]) (by decide +kernel) _ (List.mem_singleton.mpr rfl)), gw_sel 122 (by decide +kernel), .inl ⟨_, _, rfl⟩⟩⟩
theorem c_N_isPassed {E2 : (Nat → Nat) → State → Heap → Prop} (hE : ai_XH E2) : ai_S E2 i_N_isPassed f_N_isPassed := snd_M (by decide) rfl (by decide) a_N_isPassed kc_N_ok (by rfl) (by decide) (fun a i h => match a, h with
    | 0, h => by cases h; exact ⟨c_N_answers hE, w_N_answers⟩
    | _ + 1, h => by simp [cal_N_isPassed, ai_nth] at h)
def k_N_isWayPassed : ai_C := [
  [(0, .iconst 0, 1, 0, 0, 0, 0, 0, []), (1, .istore_n 3, 1, 3, 0, 0, 0, 0, []), (2, .iconst 0, 1, 0, 0, 0, 0, 0, []), (3, .istore 4, 2, 4, 0, 0, 0, 0, []), (5, .iconst 0, 1, 0, 0, 0, 0, 0, []), (6, .istore 5, 2, 5, 0, 0, 0, 0, []), (8, .iload 5, 2, 5, 0, 0, 0, 0, []), (10, .aload_n 0, 1, 0, 0, 0, 0, 0, []), (11, .getfield 69, 3, 12, 33, 22, 2, 33, []), (14, .iload_n 2, 1, 2, 0, 0, 0, 0, []), (15, .iaload, 1, 0, 0, 0, 0, 0, [])],
  [(16, .if_icmp .ge 109, 3, 125, 0, 0, 0, 0, []), (19, .aload_n 0, 1, 0, 0, 0, 0, 0, []), (20, .getfield 66, 3, 12, 32, 47, 2, 32, []), (23, .sipush 400, 3, 0, 0, 0, 0, 400, []), (26, .iload_n 2, 1, 2, 0, 0, 0, 0, []), (27, .imul, 1, 0, 0, 0, 0, 0, []), (28, .iload 5, 2, 5, 0, 0, 0, 0, []), (30, .iadd, 1, 0, 0, 0, 0, 0, []), (31, .iaload, 1, 0, 0, 0, 0, 0, [])],
  [(32, .istore 6, 2, 6, 0, 0, 0, 0, []), (34, .aload_n 0, 1, 0, 0, 0, 0, 0, []), (35, .getfield 41, 3, 12, 21, 10, 2, 21, []), (38, .iload_n 1, 1, 1, 0, 0, 0, 0, []), (39, .iconst 3, 1, 0, 0, 0, 0, 3, []), (40, .iload_n 3, 1, 3, 0, 0, 0, 0, []), (41, .imul, 1, 0, 0, 0, 0, 0, []), (42, .iadd, 1, 0, 0, 0, 0, 0, []), (43, .iload 6, 2, 6, 0, 0, 0, 0, []), (45, .iadd, 1, 0, 0, 0, 0, 0, []), (46, .iaload, 1, 0, 0, 0, 0, 0, []), (47, .aload_n 0, 1, 0, 0, 0, 0, 0, [])],
  [(48, .getfield 41, 3, 12, 21, 10, 2, 21, []), (51, .iconst 0, 1, 0, 0, 0, 0, 0, []), (52, .iconst 3, 1, 0, 0, 0, 0, 3, []), (53, .iload 4, 2, 4, 0, 0, 0, 0, []), (55, .imul, 1, 0, 0, 0, 0, 0, []), (56, .iadd, 1, 0, 0, 0, 0, 0, []), (57, .iload 6, 2, 6, 0, 0, 0, 0, []), (59, .iadd, 1, 0, 0, 0, 0, 0, []), (60, .iaload, 1, 0, 0, 0, 0, 0, []), (61, .if_icmp .eq 28, 3, 89, 0, 0, 0, 0, [])],
  [(64, .aload_n 0, 1, 0, 0, 0, 0, 0, []), (65, .iload 5, 2, 5, 0, 0, 0, 0, []), (67, .putfield 412, 3, 12, 41, 133, 0, 41, []), (70, .aload_n 0, 1, 0, 0, 0, 0, 0, []), (71, .aload_n 0, 1, 0, 0, 0, 0, 0, []), (72, .getfield 41, 3, 12, 21, 10, 2, 21, []), (75, .iload_n 1, 1, 1, 0, 0, 0, 0, []), (76, .iconst 3, 1, 0, 0, 0, 0, 3, []), (77, .iload_n 3, 1, 3, 0, 0, 0, 0, []), (78, .imul, 1, 0, 0, 0, 0, 0, []), (79, .iadd, 1, 0, 0, 0, 0, 0, [])],
  [(80, .iload 6, 2, 6, 0, 0, 0, 0, []), (82, .iadd, 1, 0, 0, 0, 0, 0, []), (83, .iaload, 1, 0, 0, 0, 0, 0, []), (84, .putfield 415, 3, 12, 42, 134, 0, 42, []), (87, .iconst 0, 1, 0, 0, 0, 0, 0, []), (88, .ireturn, 1, 0, 0, 0, 3, 0, []), (89, .aload_n 0, 1, 0, 0, 0, 0, 0, []), (90, .getfield 38, 3, 12, 20, 4, 2, 20, []), (93, .iload_n 1, 1, 1, 0, 0, 0, 0, []), (94, .iconst 3, 1, 0, 0, 0, 0, 3, []), (95, .iload_n 3, 1, 3, 0, 0, 0, 0, [])],
  [(96, .imul, 1, 0, 0, 0, 0, 0, []), (97, .iadd, 1, 0, 0, 0, 0, 0, []), (98, .iload 6, 2, 6, 0, 0, 0, 0, []), (100, .iadd, 1, 0, 0, 0, 0, 0, []), (101, .iaload, 1, 0, 0, 0, 0, 0, []), (102, .istore_n 3, 1, 3, 0, 0, 0, 0, []), (103, .aload_n 0, 1, 0, 0, 0, 0, 0, []), (104, .getfield 38, 3, 12, 20, 4, 2, 20, []), (107, .iconst 0, 1, 0, 0, 0, 0, 0, []), (108, .iconst 3, 1, 0, 0, 0, 0, 3, []), (109, .iload 4, 2, 4, 0, 0, 0, 0, []), (111, .imul, 1, 0, 0, 0, 0, 0, [])],
  [(112, .iadd, 1, 0, 0, 0, 0, 0, []), (113, .iload 6, 2, 6, 0, 0, 0, 0, []), (115, .iadd, 1, 0, 0, 0, 0, 0, []), (116, .iaload, 1, 0, 0, 0, 0, 0, []), (117, .istore 4, 2, 4, 0, 0, 0, 0, []), (119, .iinc 5 1, 3, 5, 0, 0, 0, 1, []), (122, .goto (-114), 3, 8, 0, 0, 0, 0, []), (125, .iconst 1, 1, 0, 0, 0, 0, 1, []), (126, .ireturn, 1, 0, 0, 0, 3, 0, [])]]
def i_N_isWayPassed : ai_I := ((⟨"SuiteBenchModel", "isWayPassed", "(II)Z"⟩, prog_14_method_84_code, 7, (some .boolean), 3, 0, 0, 0, 2, 0, 12) : ai_I)
def o_N_isWayPassed (_ : Nat) : SP := fun _ _ _ _ _ => False
theorem mo_N_isWayPassed : ∀ a, ai_mono (o_N_isWayPassed a) := fun _ _ _ _ _ _ _ _ h => h
def f_N_isWayPassed : SP := ai_M o_N_isWayPassed 0 7 k_N_isWayPassed
theorem mf_N_isWayPassed : ai_mono f_N_isWayPassed := M_mono mo_N_isWayPassed
abbrev cal_N_isWayPassed : List ai_I := []
theorem a_N_isWayPassed : ai_all "SuiteBenchModel" prog_14_method_84_code 7 kc_N cal_N_isWayPassed 0 0 false (some .boolean) k_N_isWayPassed = true := by decide +kernel
theorem w_N_isWayPassed : ai_CW i_N_isWayPassed := ⟨(tk_mem (l := [((Jvm.Cond.code ({ cls := "SuiteBenchModel", name := "isWayPassed", desc := "(II)Z" } : Jvm.MethodName) prog_14_method_84_code (7 : Nat) (Option.some Jvm.ClassFile.FieldType.boolean)), 9, 156)]) (by decide +kernel) _ (List.mem_singleton.mpr rfl)), (tk_mem (l := [((Jvm.Cond.initialized "SuiteBenchModel"), 1, 15)]) (by decide +kernel) _ (List.mem_singleton.mpr rfl)), ⟨by decide +kernel, by decide +kernel, by decide +kernel⟩, ⟨(tk_mem (l := [((Jvm.Cond.instanceMethod ({ cls := "SuiteBenchModel", name := "isWayPassed", desc := "(II)Z" } : Jvm.MethodName)), 9, 155)]) (by decide +kernel) _ (List.mem_singleton.mpr rfl)), gw_sel 123 (by decide +kernel), .inl ⟨_, _, rfl⟩⟩⟩
theorem c_N_isWayPassed {E2 : (Nat → Nat) → State → Heap → Prop} (hE : ai_XH E2) : ai_S E2 i_N_isWayPassed f_N_isWayPassed := snd_M (by decide) rfl (by decide) a_N_isWayPassed kc_N_ok (by rfl) (by decide) (fun a i h => by simp [cal_N_isWayPassed, ai_nth] at h)
def k_N_isTestPassed : ai_C := [
  [(0, .iload_n 2, 1, 2, 0, 0, 0, 0, []), (1, .iconst 2, 1, 0, 0, 0, 0, 2, []), (2, .if_icmp .ge 21, 3, 23, 0, 0, 0, 0, []), (5, .aload_n 0, 1, 0, 0, 0, 0, 0, []), (6, .iload_n 1, 1, 1, 0, 0, 0, 0, []), (7, .aload_n 0, 1, 0, 0, 0, 0, 0, []), (8, .aload_n 0, 1, 0, 0, 0, 0, 0, []), (9, .iload_n 2, 1, 2, 0, 0, 0, 0, []), (10, .invokevirtual 400, 3, 0, 2, 128, 0, 0, [(0, 12)]), (13, .iload_n 3, 1, 3, 0, 0, 0, 0, []), (14, .invokevirtual 376, 3, 1, 3, 120, 0, 0, [(0, 12)])],
  [(17, .invokevirtual 418, 3, 2, 3, 135, 0, 0, [(0, 12)]), (20, .goto 11, 3, 31, 0, 0, 0, 0, []), (23, .aload_n 0, 1, 0, 0, 0, 0, 0, []), (24, .iload_n 1, 1, 1, 0, 0, 0, 0, []), (25, .iload_n 2, 1, 2, 0, 0, 0, 0, []), (26, .iconst 2, 1, 0, 0, 0, 0, 2, []), (27, .isub, 1, 0, 0, 0, 0, 0, []), (28, .invokevirtual 421, 3, 3, 3, 136, 0, 0, [(0, 12)]), (31, .ireturn, 1, 0, 0, 0, 3, 0, [])]]
def i_N_isTestPassed : ai_I := ((⟨"SuiteBenchModel", "isTestPassed", "(III)Z"⟩, prog_14_method_85_code, 4, (some .boolean), 3, 6, 140, 0, 3, 0, 12) : ai_I)
def o_N_isTestPassed (a : Nat) : SP := match a with
  | 0 => f_N_suiteOf
  | 1 => f_N_testAt
  | 2 => f_N_isPassed
  | 3 => f_N_isWayPassed
  | _ => fun _ _ _ _ _ => False
theorem mo_N_isTestPassed : ∀ a, ai_mono (o_N_isTestPassed a)
  | 0 => mf_N_suiteOf
  | 1 => mf_N_testAt
  | 2 => mf_N_isPassed
  | 3 => mf_N_isWayPassed
  | _ + 4 => fun _ _ _ _ _ _ _ h => h
def f_N_isTestPassed : SP := ai_M o_N_isTestPassed 0 4 k_N_isTestPassed
theorem mf_N_isTestPassed : ai_mono f_N_isTestPassed := M_mono mo_N_isTestPassed
abbrev cal_N_isTestPassed : List ai_I := [i_N_suiteOf, i_N_testAt, i_N_isPassed, i_N_isWayPassed]
theorem a_N_isTestPassed : ai_all "SuiteBenchModel" prog_14_method_85_code 4 kc_N cal_N_isTestPassed 6 140 false (some .boolean) k_N_isTestPassed = true := by decide +kernel
theorem w_N_isTestPassed : ai_CW i_N_isTestPassed := ⟨(tk_mem (l := [((Jvm.Cond.code ({ cls := "SuiteBenchModel", name := "isTestPassed", desc := "(III)Z" } : Jvm.MethodName) prog_14_method_85_code (4 : Nat) (Option.some Jvm.ClassFile.FieldType.boolean)), 9, 148)]) (by decide +kernel) _ (List.mem_singleton.mpr rfl)), (tk_mem (l := [((Jvm.Cond.initialized "SuiteBenchModel"), 1, 15)]) (by decide +kernel) _ (List.mem_singleton.mpr rfl)), ⟨by decide +kernel, by decide +kernel, by decide +kernel⟩, ⟨(tk_mem (l := [((Jvm.Cond.instanceMethod ({ cls := "SuiteBenchModel", name := "isTestPassed", desc := "(III)Z" } : Jvm.MethodName)), 9, 147)]) (by decide +kernel) _ (List.mem_singleton.mpr rfl)), gw_sel 121 (by decide +kernel), .inl ⟨_, _, rfl⟩⟩⟩
theorem c_N_isTestPassed {E2 : (Nat → Nat) → State → Heap → Prop} (hE : ai_XH E2) : ai_S E2 i_N_isTestPassed f_N_isTestPassed := snd_M (by decide) rfl (by decide) a_N_isTestPassed kc_N_ok (by rfl) (by decide) (fun a i h => match a, h with
    | 0, h => by cases h; exact ⟨c_N_suiteOf hE, w_N_suiteOf⟩
    | 1, h => by cases h; exact ⟨c_N_testAt hE, w_N_testAt⟩
    | 2, h => by cases h; exact ⟨c_N_isPassed hE, w_N_isPassed⟩
    | 3, h => by cases h; exact ⟨c_N_isWayPassed hE, w_N_isWayPassed⟩
    | _ + 4, h => by simp [cal_N_isTestPassed, ai_nth] at h)
def k_N_laysWrong : ai_C := [
  [(0, .iload_n 1, 1, 1, 0, 0, 0, 0, []), (1, .invokestatic 298, 3, 0, 1, 13, 0, 0, [(0, 12)]), (4, .istore_n 2, 1, 2, 0, 0, 0, 0, []), (5, .iconst 0, 1, 0, 0, 0, 0, 0, []), (6, .istore_n 3, 1, 3, 0, 0, 0, 0, []), (7, .iconst 0, 1, 0, 0, 0, 0, 0, []), (8, .istore 4, 2, 4, 0, 0, 0, 0, []), (10, .iconst 0, 1, 0, 0, 0, 0, 0, []), (11, .istore 5, 2, 5, 0, 0, 0, 0, []), (13, .iload 5, 2, 5, 0, 0, 0, 0, []), (15, .iload_n 2, 1, 2, 0, 0, 0, 0, [])],
  [(16, .if_icmp .ge 95, 3, 111, 0, 0, 0, 0, []), (19, .iload_n 1, 1, 1, 0, 0, 0, 0, []), (20, .iload_n 2, 1, 2, 0, 0, 0, 0, []), (21, .iload 5, 2, 5, 0, 0, 0, 0, []), (23, .invokestatic 301, 3, 1, 3, 14, 0, 0, [(0, 12)]), (26, .istore 6, 2, 6, 0, 0, 0, 0, []), (28, .aload_n 0, 1, 0, 0, 0, 0, 0, []), (29, .iload 5, 2, 5, 0, 0, 0, 0, []), (31, .putfield 412, 3, 12, 41, 133, 0, 41, [])],
  [(34, .aload_n 0, 1, 0, 0, 0, 0, 0, []), (35, .aload_n 0, 1, 0, 0, 0, 0, 0, []), (36, .getfield 41, 3, 12, 21, 10, 2, 21, []), (39, .bipush 24, 2, 0, 0, 0, 0, 24, []), (41, .iconst 3, 1, 0, 0, 0, 0, 3, []), (42, .iload_n 3, 1, 3, 0, 0, 0, 0, []), (43, .imul, 1, 0, 0, 0, 0, 0, []), (44, .iadd, 1, 0, 0, 0, 0, 0, []), (45, .iload 6, 2, 6, 0, 0, 0, 0, []), (47, .iadd, 1, 0, 0, 0, 0, 0, [])],
  [(48, .iaload, 1, 0, 0, 0, 0, 0, []), (49, .putfield 415, 3, 12, 42, 134, 0, 42, []), (52, .aload_n 0, 1, 0, 0, 0, 0, 0, []), (53, .getfield 415, 3, 12, 42, 134, 0, 42, []), (56, .aload_n 0, 1, 0, 0, 0, 0, 0, []), (57, .getfield 41, 3, 12, 21, 10, 2, 21, []), (60, .iconst 0, 1, 0, 0, 0, 0, 0, []), (61, .iconst 3, 1, 0, 0, 0, 0, 3, []), (62, .iload 4, 2, 4, 0, 0, 0, 0, [])],
  [(64, .imul, 1, 0, 0, 0, 0, 0, []), (65, .iadd, 1, 0, 0, 0, 0, 0, []), (66, .iload 6, 2, 6, 0, 0, 0, 0, []), (68, .iadd, 1, 0, 0, 0, 0, 0, []), (69, .iaload, 1, 0, 0, 0, 0, 0, []), (70, .if_icmp .eq 4, 3, 74, 0, 0, 0, 0, []), (73, .return_, 1, 0, 0, 0, 0, 0, []), (74, .aload_n 0, 1, 0, 0, 0, 0, 0, []), (75, .getfield 38, 3, 12, 20, 4, 2, 20, []), (78, .bipush 24, 2, 0, 0, 0, 0, 24, [])],
  [(80, .iconst 3, 1, 0, 0, 0, 0, 3, []), (81, .iload_n 3, 1, 3, 0, 0, 0, 0, []), (82, .imul, 1, 0, 0, 0, 0, 0, []), (83, .iadd, 1, 0, 0, 0, 0, 0, []), (84, .iload 6, 2, 6, 0, 0, 0, 0, []), (86, .iadd, 1, 0, 0, 0, 0, 0, []), (87, .iaload, 1, 0, 0, 0, 0, 0, []), (88, .istore_n 3, 1, 3, 0, 0, 0, 0, []), (89, .aload_n 0, 1, 0, 0, 0, 0, 0, []), (90, .getfield 38, 3, 12, 20, 4, 2, 20, []), (93, .iconst 0, 1, 0, 0, 0, 0, 0, []), (94, .iconst 3, 1, 0, 0, 0, 0, 3, []), (95, .iload 4, 2, 4, 0, 0, 0, 0, [])],
  [(97, .imul, 1, 0, 0, 0, 0, 0, []), (98, .iadd, 1, 0, 0, 0, 0, 0, []), (99, .iload 6, 2, 6, 0, 0, 0, 0, []), (101, .iadd, 1, 0, 0, 0, 0, 0, []), (102, .iaload, 1, 0, 0, 0, 0, 0, []), (103, .istore 4, 2, 4, 0, 0, 0, 0, []), (105, .iinc 5 1, 3, 5, 0, 0, 0, 1, []), (108, .goto (-95), 3, 13, 0, 0, 0, 0, []), (111, .return_, 1, 0, 0, 0, 0, 0, [])]]
def i_N_laysWrong : ai_I := ((⟨"SuiteBenchModel", "laysWrong", "(I)V"⟩, prog_14_method_87_code, 7, none, 9, 1, 22, 0, 1, 0, 12) : ai_I)
def o_N_laysWrong (a : Nat) : SP := match a with
  | 0 => f_N_long1
  | 1 => f_N_inputAt
  | _ => fun _ _ _ _ _ => False
theorem mo_N_laysWrong : ∀ a, ai_mono (o_N_laysWrong a)
  | 0 => mf_N_long1
  | 1 => mf_N_inputAt
  | _ + 2 => fun _ _ _ _ _ _ _ h => h
def f_N_laysWrong : SP := ai_M o_N_laysWrong 0 7 k_N_laysWrong
theorem mf_N_laysWrong : ai_mono f_N_laysWrong := M_mono mo_N_laysWrong
abbrev cal_N_laysWrong : List ai_I := [i_N_long1, i_N_inputAt]
theorem a_N_laysWrong : ai_all "SuiteBenchModel" prog_14_method_87_code 7 kc_N cal_N_laysWrong 1 22 false none k_N_laysWrong = true := by decide +kernel
theorem w_N_laysWrong : ai_CW i_N_laysWrong := ⟨(tk_mem (l := [((Jvm.Cond.code ({ cls := "SuiteBenchModel", name := "laysWrong", desc := "(I)V" } : Jvm.MethodName) prog_14_method_87_code (7 : Nat) (Option.none : Option Jvm.ClassFile.FieldType)), 9, 160)]) (by decide +kernel) _ (List.mem_singleton.mpr rfl)), (tk_mem (l := [((Jvm.Cond.initialized "SuiteBenchModel"), 1, 15)]) (by decide +kernel) _ (List.mem_singleton.mpr rfl)), ⟨by decide +kernel, by decide +kernel, by decide +kernel⟩, ⟨(tk_mem (l := [((Jvm.Cond.instanceMethod ({ cls := "SuiteBenchModel", name := "laysWrong", desc := "(I)V" } : Jvm.MethodName)), 9, 159)]) (by decide +kernel) _ (List.mem_singleton.mpr rfl)), gw_sel 124 (by decide +kernel), .inl ⟨_, _, rfl⟩⟩⟩
theorem c_N_laysWrong {E2 : (Nat → Nat) → State → Heap → Prop} (hE : ai_XH E2) : ai_S E2 i_N_laysWrong f_N_laysWrong := snd_M (by decide) rfl (by decide) a_N_laysWrong kc_N_ok (by rfl) (by decide) (fun a i h => match a, h with
    | 0, h => by cases h; exact ⟨c_N_long1 hE, w_N_long1⟩
    | 1, h => by cases h; exact ⟨c_N_inputAt hE, w_N_inputAt⟩
    | _ + 2, h => by simp [cal_N_laysWrong, ai_nth] at h)
def k_N_verdict : ai_C := [
  [(0, .aload_n 0, 1, 0, 0, 0, 0, 0, []), (1, .iconst 0, 1, 0, 0, 0, 0, 0, []), (2, .putfield 145, 3, 12, 0, 67, 0, 0, []), (5, .iload_n 1, 1, 1, 0, 0, 0, 0, []), (6, .ifCond .lt 17, 3, 23, 0, 0, 0, 0, []), (9, .iload_n 1, 1, 1, 0, 0, 0, 0, []), (10, .iconst 3, 1, 0, 0, 0, 0, 3, []), (11, .if_icmp .gt 12, 3, 23, 0, 0, 0, 0, []), (14, .iload_n 2, 1, 2, 0, 0, 0, 0, []), (15, .ifCond .lt 8, 3, 23, 0, 0, 0, 0, [])],
  [(18, .iload_n 2, 1, 2, 0, 0, 0, 0, []), (19, .iconst 3, 1, 0, 0, 0, 0, 3, []), (20, .if_icmp .le 5, 3, 25, 0, 0, 0, 0, []), (23, .iconst (-1), 1, 0, 0, 0, 0, (-1), []), (24, .ireturn, 1, 0, 0, 0, 0, 0, []), (25, .iload_n 1, 1, 1, 0, 0, 0, 0, []), (26, .iconst 1, 1, 0, 0, 0, 0, 1, []), (27, .if_icmp .le 10, 3, 37, 0, 0, 0, 0, []), (30, .aload_n 0, 1, 0, 0, 0, 0, 0, []), (31, .iload_n 1, 1, 1, 0, 0, 0, 0, [])],
  [(32, .iconst 2, 1, 0, 0, 0, 0, 2, []), (33, .isub, 1, 0, 0, 0, 0, 0, []), (34, .invokevirtual 373, 3, 0, 2, 129, 9, 0, [(0, 12)]), (37, .aload_n 0, 1, 0, 0, 0, 0, 0, []), (38, .iload_n 1, 1, 1, 0, 0, 0, 0, []), (39, .invokevirtual 403, 3, 1, 2, 130, 0, 0, [(0, 12)]), (42, .istore_n 3, 1, 3, 0, 0, 0, 0, []), (43, .bipush (-2), 2, 0, 0, 0, 0, (-2), []), (45, .istore 4, 2, 4, 0, 0, 0, 0, []), (47, .iconst 0, 1, 0, 0, 0, 0, 0, [])],
  [(48, .istore 5, 2, 5, 0, 0, 0, 0, []), (50, .iconst 0, 1, 0, 0, 0, 0, 0, []), (51, .istore 6, 2, 6, 0, 0, 0, 0, []), (53, .iload 6, 2, 6, 0, 0, 0, 0, []), (55, .iload_n 3, 1, 3, 0, 0, 0, 0, []), (56, .if_icmp .ge 43, 3, 99, 0, 0, 0, 0, []), (59, .aload_n 0, 1, 0, 0, 0, 0, 0, []), (60, .bipush 24, 2, 0, 0, 0, 0, 24, []), (62, .iload_n 1, 1, 1, 0, 0, 0, 0, []), (63, .iload 6, 2, 6, 0, 0, 0, 0, [])],
  [(65, .invokevirtual 424, 3, 2, 4, 137, 0, 0, [(0, 12)]), (68, .ifCond .eq 6, 3, 74, 0, 0, 0, 0, []), (71, .goto 22, 3, 93, 0, 0, 0, 0, []), (74, .iload 4, 2, 4, 0, 0, 0, 0, []), (76, .bipush (-2), 2, 0, 0, 0, 0, (-2), []), (78, .if_icmp .ne 8, 3, 86, 0, 0, 0, 0, [])],
  [(81, .iload 6, 2, 6, 0, 0, 0, 0, []), (83, .goto 5, 3, 88, 0, 0, 0, 0, []), (86, .iload 4, 2, 4, 0, 0, 0, 0, []), (88, .istore 4, 2, 4, 0, 0, 0, 0, []), (90, .iinc 5 1, 3, 5, 0, 0, 0, 1, []), (93, .iinc 6 1, 3, 6, 0, 0, 0, 1, [])],
  [(96, .goto (-43), 3, 53, 0, 0, 0, 0, []), (99, .iload_n 2, 1, 2, 0, 0, 0, 0, []), (100, .ifCond .ne 6, 3, 106, 0, 0, 0, 0, []), (103, .iload 5, 2, 5, 0, 0, 0, 0, []), (105, .ireturn, 1, 0, 0, 0, 0, 0, []), (106, .iload 4, 2, 4, 0, 0, 0, 0, []), (108, .bipush (-2), 2, 0, 0, 0, 0, (-2), []), (110, .if_icmp .eq 8, 3, 118, 0, 0, 0, 0, [])],
  [(113, .iload_n 2, 1, 2, 0, 0, 0, 0, []), (114, .iconst 1, 1, 0, 0, 0, 0, 1, []), (115, .if_icmp .ne 6, 3, 121, 0, 0, 0, 0, []), (118, .iload 4, 2, 4, 0, 0, 0, 0, []), (120, .ireturn, 1, 0, 0, 0, 0, 0, []), (121, .iload_n 1, 1, 1, 0, 0, 0, 0, []), (122, .iconst 2, 1, 0, 0, 0, 0, 2, []), (123, .if_icmp .ge 18, 3, 141, 0, 0, 0, 0, []), (126, .aload_n 0, 1, 0, 0, 0, 0, 0, []), (127, .aload_n 0, 1, 0, 0, 0, 0, 0, [])],
  [(128, .aload_n 0, 1, 0, 0, 0, 0, 0, []), (129, .iload_n 1, 1, 1, 0, 0, 0, 0, []), (130, .invokevirtual 400, 3, 3, 2, 128, 0, 0, [(0, 12)]), (133, .iload 4, 2, 4, 0, 0, 0, 0, []), (135, .invokevirtual 376, 3, 4, 3, 120, 0, 0, [(0, 12)]), (138, .invokevirtual 428, 3, 5, 2, 138, 9, 0, [(0, 12)]), (141, .iload_n 2, 1, 2, 0, 0, 0, 0, []), (142, .iconst 2, 1, 0, 0, 0, 0, 2, []), (143, .if_icmp .ne 10, 3, 153, 0, 0, 0, 0, [])],
  [(146, .aload_n 0, 1, 0, 0, 0, 0, 0, []), (147, .getfield 412, 3, 12, 41, 133, 0, 41, []), (150, .goto 7, 3, 157, 0, 0, 0, 0, []), (153, .aload_n 0, 1, 0, 0, 0, 0, 0, []), (154, .getfield 415, 3, 12, 42, 134, 0, 42, []), (157, .ireturn, 1, 0, 0, 0, 0, 0, [])]]
def i_N_verdict : ai_I := ((⟨"SuiteBenchModel", "verdict", "(II)I"⟩, prog_14_method_88_code, 7, (some .int), 0, 7, 163, 0, 2, 0, 12) : ai_I)
def o_N_verdict (a : Nat) : SP := match a with
  | 0 => f_N_laysWay
  | 1 => f_N_testsOf
  | 2 => f_N_isTestPassed
  | 3 => f_N_suiteOf
  | 4 => f_N_testAt
  | 5 => f_N_laysWrong
  | _ => fun _ _ _ _ _ => False
theorem mo_N_verdict : ∀ a, ai_mono (o_N_verdict a)
  | 0 => mf_N_laysWay
  | 1 => mf_N_testsOf
  | 2 => mf_N_isTestPassed
  | 3 => mf_N_suiteOf
  | 4 => mf_N_testAt
  | 5 => mf_N_laysWrong
  | _ + 6 => fun _ _ _ _ _ _ _ h => h
def f_N_verdict : SP := ai_M o_N_verdict 0 7 k_N_verdict
theorem mf_N_verdict : ai_mono f_N_verdict := M_mono mo_N_verdict
abbrev cal_N_verdict : List ai_I := [i_N_laysWay, i_N_testsOf, i_N_isTestPassed, i_N_suiteOf, i_N_testAt, i_N_laysWrong]
theorem a_N_verdict : ai_all "SuiteBenchModel" prog_14_method_88_code 7 kc_N cal_N_verdict 7 163 false (some .int) k_N_verdict = true := by decide +kernel
theorem w_N_verdict : ai_CW i_N_verdict := ⟨(tk_mem (l := [((Jvm.Cond.code ({ cls := "SuiteBenchModel", name := "verdict", desc := "(II)I" } : Jvm.MethodName) prog_14_method_88_code (7 : Nat) (Option.some Jvm.ClassFile.FieldType.int)), 9, 144)]) (by decide +kernel) _ (List.mem_singleton.mpr rfl)), (tk_mem (l := [((Jvm.Cond.initialized "SuiteBenchModel"), 1, 15)]) (by decide +kernel) _ (List.mem_singleton.mpr rfl)), ⟨by decide +kernel, by decide +kernel, by decide +kernel⟩, ⟨(tk_mem (l := [((Jvm.Cond.instanceMethod ({ cls := "SuiteBenchModel", name := "verdict", desc := "(II)I" } : Jvm.MethodName)), 9, 142)]) (by decide +kernel) _ (List.mem_singleton.mpr rfl)), (tk_mem (l := [((Jvm.Cond.selects "SuiteBenchModel" ({ cls := "SuiteBenchModel", name := "verdict", desc := "(II)I" } : Jvm.MethodName) ({ cls := "SuiteBenchModel", name := "verdict", desc := "(II)I" } : Jvm.MethodName)), 9, 143)]) (by decide +kernel) _ (List.mem_singleton.mpr rfl)), .inl ⟨_, _, rfl⟩⟩⟩
theorem c_N_verdict {E2 : (Nat → Nat) → State → Heap → Prop} (hE : ai_XH E2) : ai_S E2 i_N_verdict f_N_verdict := snd_M (by decide) rfl (by decide) a_N_verdict kc_N_ok (by rfl) (by decide) (fun a i h => match a, h with
    | 0, h => by cases h; exact ⟨c_N_laysWay hE, w_N_laysWay⟩
    | 1, h => by cases h; exact ⟨c_N_testsOf hE, w_N_testsOf⟩
    | 2, h => by cases h; exact ⟨c_N_isTestPassed hE, w_N_isTestPassed⟩
    | 3, h => by cases h; exact ⟨c_N_suiteOf hE, w_N_suiteOf⟩
    | 4, h => by cases h; exact ⟨c_N_testAt hE, w_N_testAt⟩
    | 5, h => by cases h; exact ⟨c_N_laysWrong hE, w_N_laysWrong⟩
    | _ + 6, h => by simp [cal_N_verdict, ai_nth] at h)
def k_S_unlike : ai_C := [
  [(0, .bipush (-2), 2, 0, 0, 0, 0, (-2), []), (2, .istore_n 3, 1, 3, 0, 0, 0, 0, []), (3, .aload_n 1, 1, 1, 0, 0, 0, 0, []), (4, .getfield 56, 3, 1, 2, 15, 0, 2, []), (7, .ifCond .le 16, 3, 23, 0, 0, 0, 0, []), (10, .aload_n 2, 1, 2, 0, 0, 0, 0, []), (11, .getfield 56, 3, 1, 2, 15, 0, 2, []), (14, .ifCond .le 9, 3, 23, 0, 0, 0, 0, [])],
  [(17, .aload_n 0, 1, 0, 0, 0, 0, 0, []), (18, .iconst 0, 1, 0, 0, 0, 0, 0, []), (19, .iconst 0, 1, 0, 0, 0, 0, 0, []), (20, .invokevirtual 61, 3, 0, 3, 19, 9, 0, [(0, 5)]), (23, .iconst 0, 1, 0, 0, 0, 0, 0, []), (24, .istore 4, 2, 4, 0, 0, 0, 0, []), (26, .iload 4, 2, 4, 0, 0, 0, 0, []), (28, .aload_n 0, 1, 0, 0, 0, 0, 0, []), (29, .getfield 52, 3, 5, 10, 14, 0, 10, [])],
  [(32, .if_icmp .ge 145, 3, 177, 0, 0, 0, 0, []), (35, .iload 4, 2, 4, 0, 0, 0, 0, []), (37, .sipush 3280, 3, 0, 0, 0, 0, 3280, []), (40, .if_icmp .ge 137, 3, 177, 0, 0, 0, 0, []), (43, .iload_n 3, 1, 3, 0, 0, 0, 0, []), (44, .bipush (-2), 2, 0, 0, 0, 0, (-2), []), (46, .if_icmp .ne 131, 3, 177, 0, 0, 0, 0, [])],
  [(49, .aload_n 0, 1, 0, 0, 0, 0, 0, []), (50, .getfield 11, 3, 5, 2, 2, 2, 2, []), (53, .iload 4, 2, 4, 0, 0, 0, 0, []), (55, .iaload, 1, 0, 0, 0, 0, 0, []), (56, .iconst 3, 1, 0, 0, 0, 0, 3, []), (57, .ishr, 1, 0, 0, 0, 0, 0, []), (58, .iconst 3, 1, 0, 0, 0, 0, 3, []), (59, .imul, 1, 0, 0, 0, 0, 0, []), (60, .istore 5, 2, 5, 0, 0, 0, 0, []), (62, .aload_n 0, 1, 0, 0, 0, 0, 0, []), (63, .getfield 11, 3, 5, 2, 2, 2, 2, [])],
  [(66, .iload 4, 2, 4, 0, 0, 0, 0, []), (68, .iaload, 1, 0, 0, 0, 0, 0, []), (69, .bipush 7, 2, 0, 0, 0, 0, 7, []), (71, .iand, 1, 0, 0, 0, 0, 0, []), (72, .iconst 3, 1, 0, 0, 0, 0, 3, []), (73, .imul, 1, 0, 0, 0, 0, 0, []), (74, .istore 6, 2, 6, 0, 0, 0, 0, []), (76, .iconst 0, 1, 0, 0, 0, 0, 0, []), (77, .istore 7, 2, 7, 0, 0, 0, 0, []), (79, .iload 7, 2, 7, 0, 0, 0, 0, [])],
  [(81, .aload_n 1, 1, 1, 0, 0, 0, 0, []), (82, .getfield 65, 3, 1, 3, 20, 0, 3, []), (85, .if_icmp .ge 86, 3, 171, 0, 0, 0, 0, []), (88, .iload_n 3, 1, 3, 0, 0, 0, 0, []), (89, .bipush (-2), 2, 0, 0, 0, 0, (-2), []), (91, .if_icmp .ne 80, 3, 171, 0, 0, 0, 0, []), (94, .aload_n 0, 1, 0, 0, 0, 0, 0, []), (95, .getfield 15, 3, 5, 3, 3, 2, 3, [])],
  [(98, .iload 4, 2, 4, 0, 0, 0, 0, []), (100, .iaload, 1, 0, 0, 0, 0, 0, []), (101, .iconst 4, 1, 0, 0, 0, 0, 4, []), (102, .imul, 1, 0, 0, 0, 0, 0, []), (103, .iload 7, 2, 7, 0, 0, 0, 0, []), (105, .iadd, 1, 0, 0, 0, 0, 0, []), (106, .iconst 1, 1, 0, 0, 0, 0, 1, []), (107, .iadd, 1, 0, 0, 0, 0, 0, []), (108, .istore 8, 2, 8, 0, 0, 0, 0, []), (110, .aload_n 1, 1, 1, 0, 0, 0, 0, []), (111, .getfield 68, 3, 1, 1, 16, 2, 1, [])],
  [(114, .iload 5, 2, 5, 0, 0, 0, 0, []), (116, .iload 7, 2, 7, 0, 0, 0, 0, []), (118, .iadd, 1, 0, 0, 0, 0, 0, []), (119, .iaload, 1, 0, 0, 0, 0, 0, []), (120, .aload_n 2, 1, 2, 0, 0, 0, 0, []), (121, .getfield 68, 3, 1, 1, 16, 2, 1, []), (124, .iload 6, 2, 6, 0, 0, 0, 0, []), (126, .iload 7, 2, 7, 0, 0, 0, 0, [])],
  [(128, .iadd, 1, 0, 0, 0, 0, 0, []), (129, .iaload, 1, 0, 0, 0, 0, 0, []), (130, .if_icmp .eq 6, 3, 136, 0, 0, 0, 0, []), (133, .iload 8, 2, 8, 0, 0, 0, 0, []), (135, .istore_n 3, 1, 3, 0, 0, 0, 0, []), (136, .aload_n 0, 1, 0, 0, 0, 0, 0, []), (137, .aload_n 1, 1, 1, 0, 0, 0, 0, []), (138, .getfield 71, 3, 1, 0, 17, 2, 0, []), (141, .iload 5, 2, 5, 0, 0, 0, 0, []), (143, .iload 7, 2, 7, 0, 0, 0, 0, [])],
  [(145, .iadd, 1, 0, 0, 0, 0, 0, []), (146, .iaload, 1, 0, 0, 0, 0, 0, []), (147, .iconst 3, 1, 0, 0, 0, 0, 3, []), (148, .ishl, 1, 0, 0, 0, 0, 0, []), (149, .aload_n 2, 1, 2, 0, 0, 0, 0, []), (150, .getfield 71, 3, 1, 0, 17, 2, 0, []), (153, .iload 6, 2, 6, 0, 0, 0, 0, []), (155, .iload 7, 2, 7, 0, 0, 0, 0, []), (157, .iadd, 1, 0, 0, 0, 0, 0, []), (158, .iaload, 1, 0, 0, 0, 0, 0, []), (159, .ior, 1, 0, 0, 0, 0, 0, [])],
  [(160, .iload 8, 2, 8, 0, 0, 0, 0, []), (162, .invokevirtual 61, 3, 0, 3, 19, 9, 0, [(0, 5)]), (165, .iinc 7 1, 3, 7, 0, 0, 0, 1, []), (168, .goto (-89), 3, 79, 0, 0, 0, 0, []), (171, .iinc 4 1, 3, 4, 0, 0, 0, 1, []), (174, .goto (-148), 3, 26, 0, 0, 0, 0, [])],
  [(177, .aload_n 0, 1, 0, 0, 0, 0, 0, []), (178, .invokevirtual 74, 3, 1, 1, 22, 9, 0, [(0, 5)]), (181, .iload_n 3, 1, 3, 0, 0, 0, 0, []), (182, .ireturn, 1, 0, 0, 0, 0, 0, [])]]
def i_S_unlike : ai_I := ((⟨"SuiteBench$Search", "unlike", "(LSuiteBench$Machine;LSuiteBench$Machine;)I"⟩, prog_7_method_5_code, 9, (some .int), 0, 1, 23, 0, 2, 0, 5) : ai_I)
def o_S_unlike (a : Nat) : SP := match a with
  | 0 => f_S_push
  | 1 => f_S_leave
  | _ => fun _ _ _ _ _ => False
theorem mo_S_unlike : ∀ a, ai_mono (o_S_unlike a)
  | 0 => mf_S_push
  | 1 => mf_S_leave
  | _ + 2 => fun _ _ _ _ _ _ _ h => h
def f_S_unlike : SP := ai_M o_S_unlike 0 9 k_S_unlike
theorem mf_S_unlike : ai_mono f_S_unlike := M_mono mo_S_unlike
abbrev cal_S_unlike : List ai_I := [i_S_push, i_S_leave]
theorem a_S_unlike : ai_all "SuiteBench$Search" prog_7_method_5_code 9 kc_S cal_S_unlike 1 23 false (some .int) k_S_unlike = true := by decide +kernel
theorem w_S_unlike : ai_CW i_S_unlike := ⟨(tk_mem (l := [((Jvm.Cond.code ({ cls := "SuiteBench$Search", name := "unlike", desc := "(LSuiteBench$Machine;LSuiteBench$Machine;)I" } : Jvm.MethodName) prog_7_method_5_code (9 : Nat) (Option.some Jvm.ClassFile.FieldType.int)), 5, 85)]) (by decide +kernel) _ (List.mem_singleton.mpr rfl)), (tk_mem (l := [((Jvm.Cond.initialized "SuiteBench$Search"), 1, 7)]) (by decide +kernel) _ (List.mem_singleton.mpr rfl)), ⟨by decide +kernel, by decide +kernel, by decide +kernel⟩, ⟨(tk_mem (l := [((Jvm.Cond.instanceMethod ({ cls := "SuiteBench$Search", name := "unlike", desc := "(LSuiteBench$Machine;LSuiteBench$Machine;)I" } : Jvm.MethodName)), 5, 83)]) (by decide +kernel) _ (List.mem_singleton.mpr rfl)), (tk_mem (l := [((Jvm.Cond.selects "SuiteBench$Search" ({ cls := "SuiteBench$Search", name := "unlike", desc := "(LSuiteBench$Machine;LSuiteBench$Machine;)I" } : Jvm.MethodName) ({ cls := "SuiteBench$Search", name := "unlike", desc := "(LSuiteBench$Machine;LSuiteBench$Machine;)I" } : Jvm.MethodName)), 5, 84)]) (by decide +kernel) _ (List.mem_singleton.mpr rfl)), .inl ⟨_, _, rfl⟩⟩⟩
theorem c_S_unlike {E2 : (Nat → Nat) → State → Heap → Prop} (hE : ai_XH E2) : ai_S E2 i_S_unlike f_S_unlike := snd_M (by decide) rfl (by decide) a_S_unlike kc_S_ok (by rfl) (by decide) (fun a i h => match a, h with
    | 0, h => by cases h; exact ⟨c_S_push hE, w_S_push⟩
    | 1, h => by cases h; exact ⟨c_S_leave hE, w_S_leave⟩
    | _ + 2, h => by simp [cal_S_unlike, ai_nth] at h)
def k_B_isEqual : ai_C := [
  [(0, .aload_n 0, 1, 0, 0, 0, 0, 0, []), (1, .getfield 47, 3, 11, 4, 12, 2, 4, []), (4, .aload_n 0, 1, 0, 0, 0, 0, 0, []), (5, .getfield 26, 3, 11, 1, 0, 2, 1, []), (8, .aload_n 0, 1, 0, 0, 0, 0, 0, []), (9, .getfield 30, 3, 11, 2, 7, 2, 2, []), (12, .invokevirtual 240, 3, 0, 3, 112, 0, 0, [(0, 5)]), (15, .bipush (-2), 2, 0, 0, 0, 0, (-2), [])],
  [(17, .if_icmp .ne 7, 3, 24, 0, 0, 0, 0, []), (20, .iconst 1, 1, 0, 0, 0, 0, 1, []), (21, .goto 4, 3, 25, 0, 0, 0, 0, []), (24, .iconst 0, 1, 0, 0, 0, 0, 0, []), (25, .ireturn, 1, 0, 0, 0, 3, 0, [])]]
def i_B_isEqual : ai_I := ((⟨"SuiteBench", "isEqual", "()Z"⟩, prog_1_method_21_code, 1, (some .boolean), 3, 2, 51, 0, 0, 0, 11) : ai_I)
def o_B_isEqual (a : Nat) : SP := match a with
  | 0 => f_S_unlike
  | _ => fun _ _ _ _ _ => False
theorem mo_B_isEqual : ∀ a, ai_mono (o_B_isEqual a)
  | 0 => mf_S_unlike
  | _ + 1 => fun _ _ _ _ _ _ _ h => h
def f_B_isEqual : SP := ai_M o_B_isEqual 0 1 k_B_isEqual
theorem mf_B_isEqual : ai_mono f_B_isEqual := M_mono mo_B_isEqual
abbrev cal_B_isEqual : List ai_I := [i_S_unlike]
theorem a_B_isEqual : ai_all "SuiteBench" prog_1_method_21_code 1 kc_B cal_B_isEqual 2 51 false (some .boolean) k_B_isEqual = true := by decide +kernel
theorem w_B_isEqual : ai_CW i_B_isEqual := ⟨(tk_mem (l := [((Jvm.Cond.code ({ cls := "SuiteBench", name := "isEqual", desc := "()Z" } : Jvm.MethodName) prog_1_method_21_code (1 : Nat) (Option.some Jvm.ClassFile.FieldType.boolean)), 5, 81)]) (by decide +kernel) _ (List.mem_singleton.mpr rfl)), (tk_mem (l := [((Jvm.Cond.initialized "SuiteBench"), 1, 1)]) (by decide +kernel) _ (List.mem_singleton.mpr rfl)), ⟨by decide +kernel, by decide +kernel, by decide +kernel⟩, ⟨(tk_mem (l := [((Jvm.Cond.instanceMethod ({ cls := "SuiteBench", name := "isEqual", desc := "()Z" } : Jvm.MethodName)), 5, 79)]) (by decide +kernel) _ (List.mem_singleton.mpr rfl)), (tk_mem (l := [((Jvm.Cond.selects "SuiteBench" ({ cls := "SuiteBench", name := "isEqual", desc := "()Z" } : Jvm.MethodName) ({ cls := "SuiteBench", name := "isEqual", desc := "()Z" } : Jvm.MethodName)), 5, 80)]) (by decide +kernel) _ (List.mem_singleton.mpr rfl)), .inl ⟨_, _, rfl⟩⟩⟩
theorem c_B_isEqual {E2 : (Nat → Nat) → State → Heap → Prop} (hE : ai_XH E2) : ai_S E2 i_B_isEqual f_B_isEqual := snd_M (by decide) rfl (by decide) a_B_isEqual kc_B_ok (by rfl) (by decide) (fun a i h => match a, h with
    | 0, h => by cases h; exact ⟨c_S_unlike hE, w_S_unlike⟩
    | _ + 1, h => by simp [cal_B_isEqual, ai_nth] at h)
def k_N_isEqual : ai_C := [
  [(0, .aload_n 0, 1, 0, 0, 0, 0, 0, []), (1, .iconst 0, 1, 0, 0, 0, 0, 0, []), (2, .putfield 145, 3, 12, 0, 67, 0, 0, []), (5, .aload_n 0, 1, 0, 0, 0, 0, 0, []), (6, .invokevirtual 272, 3, 0, 1, 2, 0, 0, [(0, 12)]), (9, .ifCond .eq 17, 3, 26, 0, 0, 0, 0, []), (12, .aload_n 0, 1, 0, 0, 0, 0, 0, []), (13, .iconst 0, 1, 0, 0, 0, 0, 0, []), (14, .iconst 0, 1, 0, 0, 0, 0, 0, []), (15, .bipush 24, 2, 0, 0, 0, 0, 24, [])],
  [(17, .iconst 0, 1, 0, 0, 0, 0, 0, []), (18, .invokevirtual 334, 3, 1, 5, 12, 0, 0, [(0, 12)]), (21, .bipush (-2), 2, 0, 0, 0, 0, (-2), []), (23, .if_icmp .ne 7, 3, 30, 0, 0, 0, 0, []), (26, .iconst 1, 1, 0, 0, 0, 0, 1, []), (27, .goto 4, 3, 31, 0, 0, 0, 0, []), (30, .iconst 0, 1, 0, 0, 0, 0, 0, []), (31, .ireturn, 1, 0, 0, 0, 3, 0, [])]]
def i_N_isEqual : ai_I := ((⟨"SuiteBenchModel", "isEqual", "()Z"⟩, prog_14_method_89_code, 1, (some .boolean), 3, 2, 51, 0, 0, 0, 12) : ai_I)
def o_N_isEqual (a : Nat) : SP := match a with
  | 0 => f_N_states
  | 1 => f_N_unlike
  | _ => fun _ _ _ _ _ => False
theorem mo_N_isEqual : ∀ a, ai_mono (o_N_isEqual a)
  | 0 => mf_N_states
  | 1 => mf_N_unlike
  | _ + 2 => fun _ _ _ _ _ _ _ h => h
def f_N_isEqual : SP := ai_M o_N_isEqual 0 1 k_N_isEqual
theorem mf_N_isEqual : ai_mono f_N_isEqual := M_mono mo_N_isEqual
abbrev cal_N_isEqual : List ai_I := [i_N_states, i_N_unlike]
theorem a_N_isEqual : ai_all "SuiteBenchModel" prog_14_method_89_code 1 kc_N cal_N_isEqual 2 51 false (some .boolean) k_N_isEqual = true := by decide +kernel
theorem w_N_isEqual : ai_CW i_N_isEqual := ⟨(tk_mem (l := [((Jvm.Cond.code ({ cls := "SuiteBenchModel", name := "isEqual", desc := "()Z" } : Jvm.MethodName) prog_14_method_89_code (1 : Nat) (Option.some Jvm.ClassFile.FieldType.boolean)), 9, 164)]) (by decide +kernel) _ (List.mem_singleton.mpr rfl)), (tk_mem (l := [((Jvm.Cond.initialized "SuiteBenchModel"), 1, 15)]) (by decide +kernel) _ (List.mem_singleton.mpr rfl)), ⟨by decide +kernel, by decide +kernel, by decide +kernel⟩, ⟨(tk_mem (l := [((Jvm.Cond.instanceMethod ({ cls := "SuiteBenchModel", name := "isEqual", desc := "()Z" } : Jvm.MethodName)), 9, 162)]) (by decide +kernel) _ (List.mem_singleton.mpr rfl)), (tk_mem (l := [((Jvm.Cond.selects "SuiteBenchModel" ({ cls := "SuiteBenchModel", name := "isEqual", desc := "()Z" } : Jvm.MethodName) ({ cls := "SuiteBenchModel", name := "isEqual", desc := "()Z" } : Jvm.MethodName)), 9, 163)]) (by decide +kernel) _ (List.mem_singleton.mpr rfl)), .inl ⟨_, _, rfl⟩⟩⟩
theorem c_N_isEqual {E2 : (Nat → Nat) → State → Heap → Prop} (hE : ai_XH E2) : ai_S E2 i_N_isEqual f_N_isEqual := snd_M (by decide) rfl (by decide) a_N_isEqual kc_N_ok (by rfl) (by decide) (fun a i h => match a, h with
    | 0, h => by cases h; exact ⟨c_N_states hE, w_N_states⟩
    | 1, h => by cases h; exact ⟨c_N_unlike hE, w_N_unlike⟩
    | _ + 2, h => by simp [cal_N_isEqual, ai_nth] at h)
def k_B_witness : ai_C := [
  [(0, .aload_n 0, 1, 0, 0, 0, 0, 0, []), (1, .getfield 47, 3, 11, 4, 12, 2, 4, []), (4, .aload_n 0, 1, 0, 0, 0, 0, 0, []), (5, .getfield 26, 3, 11, 1, 0, 2, 1, []), (8, .aload_n 0, 1, 0, 0, 0, 0, 0, []), (9, .getfield 30, 3, 11, 2, 7, 2, 2, []), (12, .invokevirtual 240, 3, 0, 3, 112, 0, 0, [(0, 5)]), (15, .ireturn, 1, 0, 0, 0, 0, 0, [])]]
def i_B_witness : ai_I := ((⟨"SuiteBench", "witness", "()I"⟩, prog_1_method_22_code, 1, (some .int), 0, 2, 51, 0, 0, 0, 11) : ai_I)
def o_B_witness (a : Nat) : SP := match a with
  | 0 => f_S_unlike
  | _ => fun _ _ _ _ _ => False
theorem mo_B_witness : ∀ a, ai_mono (o_B_witness a)
  | 0 => mf_S_unlike
  | _ + 1 => fun _ _ _ _ _ _ _ h => h
def f_B_witness : SP := ai_M o_B_witness 0 1 k_B_witness
theorem mf_B_witness : ai_mono f_B_witness := M_mono mo_B_witness
abbrev cal_B_witness : List ai_I := [i_S_unlike]
theorem a_B_witness : ai_all "SuiteBench" prog_1_method_22_code 1 kc_B cal_B_witness 2 51 false (some .int) k_B_witness = true := by decide +kernel
theorem w_B_witness : ai_CW i_B_witness := ⟨(tk_mem (l := [((Jvm.Cond.code ({ cls := "SuiteBench", name := "witness", desc := "()I" } : Jvm.MethodName) prog_1_method_22_code (1 : Nat) (Option.some Jvm.ClassFile.FieldType.int)), 5, 89)]) (by decide +kernel) _ (List.mem_singleton.mpr rfl)), (tk_mem (l := [((Jvm.Cond.initialized "SuiteBench"), 1, 1)]) (by decide +kernel) _ (List.mem_singleton.mpr rfl)), ⟨by decide +kernel, by decide +kernel, by decide +kernel⟩, ⟨(tk_mem (l := [((Jvm.Cond.instanceMethod ({ cls := "SuiteBench", name := "witness", desc := "()I" } : Jvm.MethodName)), 5, 87)]) (by decide +kernel) _ (List.mem_singleton.mpr rfl)), (tk_mem (l := [((Jvm.Cond.selects "SuiteBench" ({ cls := "SuiteBench", name := "witness", desc := "()I" } : Jvm.MethodName) ({ cls := "SuiteBench", name := "witness", desc := "()I" } : Jvm.MethodName)), 5, 88)]) (by decide +kernel) _ (List.mem_singleton.mpr rfl)), .inl ⟨_, _, rfl⟩⟩⟩
theorem c_B_witness {E2 : (Nat → Nat) → State → Heap → Prop} (hE : ai_XH E2) : ai_S E2 i_B_witness f_B_witness := snd_M (by decide) rfl (by decide) a_B_witness kc_B_ok (by rfl) (by decide) (fun a i h => match a, h with
    | 0, h => by cases h; exact ⟨c_S_unlike hE, w_S_unlike⟩
    | _ + 1, h => by simp [cal_B_witness, ai_nth] at h)
def k_N_witness : ai_C := [
  [(0, .aload_n 0, 1, 0, 0, 0, 0, 0, []), (1, .iconst 0, 1, 0, 0, 0, 0, 0, []), (2, .putfield 145, 3, 12, 0, 67, 0, 0, []), (5, .aload_n 0, 1, 0, 0, 0, 0, 0, []), (6, .invokevirtual 272, 3, 0, 1, 2, 0, 0, [(0, 12)]), (9, .ifCond .ne 8, 3, 17, 0, 0, 0, 0, []), (12, .bipush (-2), 2, 0, 0, 0, 0, (-2), []), (14, .goto 12, 3, 26, 0, 0, 0, 0, [])],
  [(17, .aload_n 0, 1, 0, 0, 0, 0, 0, []), (18, .iconst 0, 1, 0, 0, 0, 0, 0, []), (19, .iconst 0, 1, 0, 0, 0, 0, 0, []), (20, .bipush 24, 2, 0, 0, 0, 0, 24, []), (22, .iconst 0, 1, 0, 0, 0, 0, 0, []), (23, .invokevirtual 334, 3, 1, 5, 12, 0, 0, [(0, 12)]), (26, .ireturn, 1, 0, 0, 0, 0, 0, [])]]
def i_N_witness : ai_I := ((⟨"SuiteBenchModel", "witness", "()I"⟩, prog_14_method_90_code, 1, (some .int), 0, 2, 51, 0, 0, 0, 12) : ai_I)
def o_N_witness (a : Nat) : SP := match a with
  | 0 => f_N_states
  | 1 => f_N_unlike
  | _ => fun _ _ _ _ _ => False
theorem mo_N_witness : ∀ a, ai_mono (o_N_witness a)
  | 0 => mf_N_states
  | 1 => mf_N_unlike
  | _ + 2 => fun _ _ _ _ _ _ _ h => h
def f_N_witness : SP := ai_M o_N_witness 0 1 k_N_witness
theorem mf_N_witness : ai_mono f_N_witness := M_mono mo_N_witness
abbrev cal_N_witness : List ai_I := [i_N_states, i_N_unlike]
theorem a_N_witness : ai_all "SuiteBenchModel" prog_14_method_90_code 1 kc_N cal_N_witness 2 51 false (some .int) k_N_witness = true := by decide +kernel
theorem w_N_witness : ai_CW i_N_witness := ⟨(tk_mem (l := [((Jvm.Cond.code ({ cls := "SuiteBenchModel", name := "witness", desc := "()I" } : Jvm.MethodName) prog_14_method_90_code (1 : Nat) (Option.some Jvm.ClassFile.FieldType.int)), 9, 168)]) (by decide +kernel) _ (List.mem_singleton.mpr rfl)), (tk_mem (l := [((Jvm.Cond.initialized "SuiteBenchModel"), 1, 15)]) (by decide +kernel) _ (List.mem_singleton.mpr rfl)), ⟨by decide +kernel, by decide +kernel, by decide +kernel⟩, ⟨(tk_mem (l := [((Jvm.Cond.instanceMethod ({ cls := "SuiteBenchModel", name := "witness", desc := "()I" } : Jvm.MethodName)), 9, 166)]) (by decide +kernel) _ (List.mem_singleton.mpr rfl)), (tk_mem (l := [((Jvm.Cond.selects "SuiteBenchModel" ({ cls := "SuiteBenchModel", name := "witness", desc := "()I" } : Jvm.MethodName) ({ cls := "SuiteBenchModel", name := "witness", desc := "()I" } : Jvm.MethodName)), 9, 167)]) (by decide +kernel) _ (List.mem_singleton.mpr rfl)), .inl ⟨_, _, rfl⟩⟩⟩
theorem c_N_witness {E2 : (Nat → Nat) → State → Heap → Prop} (hE : ai_XH E2) : ai_S E2 i_N_witness f_N_witness := snd_M (by decide) rfl (by decide) a_N_witness kc_N_ok (by rfl) (by decide) (fun a i h => match a, h with
    | 0, h => by cases h; exact ⟨c_N_states hE, w_N_states⟩
    | 1, h => by cases h; exact ⟨c_N_unlike hE, w_N_unlike⟩
    | _ + 2, h => by simp [cal_N_witness, ai_nth] at h)
def k_E_isFailedBy : ai_C := [
  [(0, .aload_n 0, 1, 0, 0, 0, 0, 0, []), (1, .getfield 30, 3, 8, 6, 8, 2, 6, []), (4, .iconst 0, 1, 0, 0, 0, 0, 0, []), (5, .iconst 0, 1, 0, 0, 0, 0, 0, []), (6, .iastore, 1, 0, 0, 0, 0, 0, []), (7, .iconst 1, 1, 0, 0, 0, 0, 1, []), (8, .istore_n 2, 1, 2, 0, 0, 0, 0, []), (9, .iload_n 2, 1, 2, 0, 0, 0, 0, []), (10, .aload_n 0, 1, 0, 0, 0, 0, 0, []), (11, .getfield 33, 3, 8, 7, 9, 0, 7, []), (14, .if_icmp .ge 32, 3, 46, 0, 0, 0, 0, [])],
  [(17, .aload_n 0, 1, 0, 0, 0, 0, 0, []), (18, .getfield 30, 3, 8, 6, 8, 2, 6, []), (21, .iload_n 2, 1, 2, 0, 0, 0, 0, []), (22, .aload_n 0, 1, 0, 0, 0, 0, 0, []), (23, .aload_n 1, 1, 1, 0, 0, 0, 0, []), (24, .iload_n 2, 1, 2, 0, 0, 0, 0, []), (25, .invokevirtual 50, 3, 0, 3, 15, 0, 0, [(0, 8)]), (28, .iastore, 1, 0, 0, 0, 0, 0, []), (29, .aload_n 0, 1, 0, 0, 0, 0, 0, []), (30, .getfield 30, 3, 8, 6, 8, 2, 6, [])],
  [(33, .iload_n 2, 1, 2, 0, 0, 0, 0, []), (34, .iaload, 1, 0, 0, 0, 0, 0, []), (35, .ifCond .ge 5, 3, 40, 0, 0, 0, 0, []), (38, .iconst 1, 1, 0, 0, 0, 0, 1, []), (39, .ireturn, 1, 0, 0, 0, 3, 0, []), (40, .iinc 2 1, 3, 2, 0, 0, 0, 1, []), (43, .goto (-34), 3, 9, 0, 0, 0, 0, []), (46, .iconst 0, 1, 0, 0, 0, 0, 0, []), (47, .ireturn, 1, 0, 0, 0, 3, 0, [])]]
def i_E_isFailedBy : ai_I := ((⟨"SuiteBench$Tests", "isFailedBy", "(LSuiteBench$Machine;)Z"⟩, prog_10_method_9_code, 3, (some .boolean), 3, 1, 24, 0, 1, 0, 8) : ai_I)
def o_E_isFailedBy (a : Nat) : SP := match a with
  | 0 => f_E_step
  | _ => fun _ _ _ _ _ => False
theorem mo_E_isFailedBy : ∀ a, ai_mono (o_E_isFailedBy a)
  | 0 => mf_E_step
  | _ + 1 => fun _ _ _ _ _ _ _ h => h
def f_E_isFailedBy : SP := ai_M o_E_isFailedBy 0 3 k_E_isFailedBy
theorem mf_E_isFailedBy : ai_mono f_E_isFailedBy := M_mono mo_E_isFailedBy
abbrev cal_E_isFailedBy : List ai_I := [i_E_step]
theorem a_E_isFailedBy : ai_all "SuiteBench$Tests" prog_10_method_9_code 3 kc_E cal_E_isFailedBy 1 24 false (some .boolean) k_E_isFailedBy = true := by decide +kernel
theorem w_E_isFailedBy : ai_CW i_E_isFailedBy := ⟨(tk_mem (l := [((Jvm.Cond.code ({ cls := "SuiteBench$Tests", name := "isFailedBy", desc := "(LSuiteBench$Machine;)Z" } : Jvm.MethodName) prog_10_method_9_code (3 : Nat) (Option.some Jvm.ClassFile.FieldType.boolean)), 5, 98)]) (by decide +kernel) _ (List.mem_singleton.mpr rfl)), (tk_mem (l := [((Jvm.Cond.initialized "SuiteBench$Tests"), 1, 10)]) (by decide +kernel) _ (List.mem_singleton.mpr rfl)), ⟨by decide +kernel, by decide +kernel, by decide +kernel⟩, ⟨(tk_mem (l := [((Jvm.Cond.instanceMethod ({ cls := "SuiteBench$Tests", name := "isFailedBy", desc := "(LSuiteBench$Machine;)Z" } : Jvm.MethodName)), 5, 96)]) (by decide +kernel) _ (List.mem_singleton.mpr rfl)), (tk_mem (l := [((Jvm.Cond.selects "SuiteBench$Tests" ({ cls := "SuiteBench$Tests", name := "isFailedBy", desc := "(LSuiteBench$Machine;)Z" } : Jvm.MethodName) ({ cls := "SuiteBench$Tests", name := "isFailedBy", desc := "(LSuiteBench$Machine;)Z" } : Jvm.MethodName)), 5, 97)]) (by decide +kernel) _ (List.mem_singleton.mpr rfl)), .inl ⟨_, _, rfl⟩⟩⟩
theorem c_E_isFailedBy {E2 : (Nat → Nat) → State → Heap → Prop} (hE : ai_XH E2) : ai_S E2 i_E_isFailedBy f_E_isFailedBy := snd_M (by decide) rfl (by decide) a_E_isFailedBy kc_E_ok (by rfl) (by decide) (fun a i h => match a, h with
    | 0, h => by cases h; exact ⟨c_E_step hE, w_E_step⟩
    | _ + 1, h => by simp [cal_E_isFailedBy, ai_nth] at h)
def k_B_enough : ai_C := [
  [(0, .iload_n 1, 1, 1, 0, 0, 0, 0, []), (1, .invokestatic 212, 3, 0, 1, 103, 0, 0, [(0, 11)]), (4, .ifCond .ne 5, 3, 9, 0, 0, 0, 0, []), (7, .iconst (-1), 1, 0, 0, 0, 0, (-1), []), (8, .ireturn, 1, 0, 0, 0, 0, 0, []), (9, .iconst 0, 1, 0, 0, 0, 0, 0, []), (10, .istore_n 2, 1, 2, 0, 0, 0, 0, []), (11, .iload_n 2, 1, 2, 0, 0, 0, 0, []), (12, .iconst 2, 1, 0, 0, 0, 0, 2, []), (13, .if_icmp .gt 30, 3, 43, 0, 0, 0, 0, [])],
  [(16, .aload_n 0, 1, 0, 0, 0, 0, 0, []), (17, .getfield 56, 3, 11, 5, 14, 2, 5, []), (20, .iload_n 1, 1, 1, 0, 0, 0, 0, []), (21, .iload_n 2, 1, 2, 0, 0, 0, 0, []), (22, .invokevirtual 244, 3, 1, 3, 113, 2, 0, [(0, 6)]), (25, .aload_n 0, 1, 0, 0, 0, 0, 0, []), (26, .getfield 30, 3, 11, 2, 7, 2, 2, []), (29, .invokevirtual 248, 3, 2, 2, 114, 0, 0, [(0, 8)])],
  [(32, .ifCond .eq 5, 3, 37, 0, 0, 0, 0, []), (35, .iload_n 2, 1, 2, 0, 0, 0, 0, []), (36, .ireturn, 1, 0, 0, 0, 0, 0, []), (37, .iinc 2 1, 3, 2, 0, 0, 0, 1, []), (40, .goto (-29), 3, 11, 0, 0, 0, 0, []), (43, .bipush (-2), 2, 0, 0, 0, 0, (-2), []), (45, .ireturn, 1, 0, 0, 0, 0, 0, [])]]
def i_B_enough : ai_I := ((⟨"SuiteBench", "enough", "(I)I"⟩, prog_1_method_23_code, 3, (some .int), 0, 5, 121, 0, 1, 0, 11) : ai_I)
def o_B_enough (a : Nat) : SP := match a with
  | 0 => f_B_isPlanned
  | 1 => f_T_planned
  | 2 => f_E_isFailedBy
  | _ => fun _ _ _ _ _ => False
theorem mo_B_enough : ∀ a, ai_mono (o_B_enough a)
  | 0 => mf_B_isPlanned
  | 1 => mf_T_planned
  | 2 => mf_E_isFailedBy
  | _ + 3 => fun _ _ _ _ _ _ _ h => h
def f_B_enough : SP := ai_M o_B_enough 0 3 k_B_enough
theorem mf_B_enough : ai_mono f_B_enough := M_mono mo_B_enough
abbrev cal_B_enough : List ai_I := [i_B_isPlanned, i_T_planned, i_E_isFailedBy]
theorem a_B_enough : ai_all "SuiteBench" prog_1_method_23_code 3 kc_B cal_B_enough 5 121 false (some .int) k_B_enough = true := by decide +kernel
theorem w_B_enough : ai_CW i_B_enough := ⟨(tk_mem (l := [((Jvm.Cond.code ({ cls := "SuiteBench", name := "enough", desc := "(I)I" } : Jvm.MethodName) prog_1_method_23_code (3 : Nat) (Option.some Jvm.ClassFile.FieldType.int)), 5, 93)]) (by decide +kernel) _ (List.mem_singleton.mpr rfl)), (tk_mem (l := [((Jvm.Cond.initialized "SuiteBench"), 1, 1)]) (by decide +kernel) _ (List.mem_singleton.mpr rfl)), ⟨by decide +kernel, by decide +kernel, by decide +kernel⟩, ⟨(tk_mem (l := [((Jvm.Cond.instanceMethod ({ cls := "SuiteBench", name := "enough", desc := "(I)I" } : Jvm.MethodName)), 5, 91)]) (by decide +kernel) _ (List.mem_singleton.mpr rfl)), (tk_mem (l := [((Jvm.Cond.selects "SuiteBench" ({ cls := "SuiteBench", name := "enough", desc := "(I)I" } : Jvm.MethodName) ({ cls := "SuiteBench", name := "enough", desc := "(I)I" } : Jvm.MethodName)), 5, 92)]) (by decide +kernel) _ (List.mem_singleton.mpr rfl)), .inl ⟨_, _, rfl⟩⟩⟩
theorem c_B_enough {E2 : (Nat → Nat) → State → Heap → Prop} (hE : ai_XH E2) : ai_S E2 i_B_enough f_B_enough := snd_M (by decide) rfl (by decide) a_B_enough kc_B_ok (by rfl) (by decide) (fun a i h => match a, h with
    | 0, h => by cases h; exact ⟨c_B_isPlanned hE, w_B_isPlanned⟩
    | 1, h => by cases h; exact ⟨c_T_planned hE, w_T_planned⟩
    | 2, h => by cases h; exact ⟨c_E_isFailedBy hE, w_E_isFailedBy⟩
    | _ + 3, h => by simp [cal_B_enough, ai_nth] at h)
def k_N_enough : ai_C := [
  [(0, .aload_n 0, 1, 0, 0, 0, 0, 0, []), (1, .iconst 0, 1, 0, 0, 0, 0, 0, []), (2, .putfield 145, 3, 12, 0, 67, 0, 0, []), (5, .iload_n 1, 1, 1, 0, 0, 0, 0, []), (6, .invokestatic 409, 3, 0, 1, 132, 0, 0, [(0, 12)]), (9, .ifCond .ne 5, 3, 14, 0, 0, 0, 0, []), (12, .iconst (-1), 1, 0, 0, 0, 0, (-1), []), (13, .ireturn, 1, 0, 0, 0, 0, 0, []), (14, .iconst 0, 1, 0, 0, 0, 0, 0, []), (15, .istore_n 2, 1, 2, 0, 0, 0, 0, [])],
  [(16, .iload_n 2, 1, 2, 0, 0, 0, 0, []), (17, .iconst 2, 1, 0, 0, 0, 0, 2, []), (18, .if_icmp .gt 58, 3, 76, 0, 0, 0, 0, []), (21, .iconst 2, 1, 0, 0, 0, 0, 2, []), (22, .iload_n 2, 1, 2, 0, 0, 0, 0, []), (23, .imul, 1, 0, 0, 0, 0, 0, []), (24, .iload_n 1, 1, 1, 0, 0, 0, 0, []), (25, .iadd, 1, 0, 0, 0, 0, 0, []), (26, .istore_n 3, 1, 3, 0, 0, 0, 0, []), (27, .aload_n 0, 1, 0, 0, 0, 0, 0, []), (28, .iload_n 3, 1, 3, 0, 0, 0, 0, []), (29, .invokevirtual 397, 3, 1, 2, 127, 9, 0, [(0, 12)])],
  [(32, .iconst 0, 1, 0, 0, 0, 0, 0, []), (33, .istore 4, 2, 4, 0, 0, 0, 0, []), (35, .iload 4, 2, 4, 0, 0, 0, 0, []), (37, .aload_n 0, 1, 0, 0, 0, 0, 0, []), (38, .getfield 84, 3, 12, 39, 24, 2, 39, []), (41, .iload_n 3, 1, 3, 0, 0, 0, 0, []), (42, .iaload, 1, 0, 0, 0, 0, 0, []), (43, .if_icmp .ge 27, 3, 70, 0, 0, 0, 0, []), (46, .aload_n 0, 1, 0, 0, 0, 0, 0, []), (47, .bipush 24, 2, 0, 0, 0, 0, 24, [])],
  [(49, .aload_n 0, 1, 0, 0, 0, 0, 0, []), (50, .iload_n 3, 1, 3, 0, 0, 0, 0, []), (51, .iload 4, 2, 4, 0, 0, 0, 0, []), (53, .invokevirtual 376, 3, 2, 3, 120, 0, 0, [(0, 12)]), (56, .invokevirtual 418, 3, 3, 3, 135, 0, 0, [(0, 12)]), (59, .ifCond .ne 5, 3, 64, 0, 0, 0, 0, []), (62, .iload_n 2, 1, 2, 0, 0, 0, 0, []), (63, .ireturn, 1, 0, 0, 0, 0, 0, [])],
  [(64, .iinc 4 1, 3, 4, 0, 0, 0, 1, []), (67, .goto (-32), 3, 35, 0, 0, 0, 0, []), (70, .iinc 2 1, 3, 2, 0, 0, 0, 1, []), (73, .goto (-57), 3, 16, 0, 0, 0, 0, []), (76, .bipush (-2), 2, 0, 0, 0, 0, (-2), []), (78, .ireturn, 1, 0, 0, 0, 0, 0, [])]]
def i_N_enough : ai_I := ((⟨"SuiteBenchModel", "enough", "(I)I"⟩, prog_14_method_91_code, 5, (some .int), 0, 5, 118, 0, 1, 0, 12) : ai_I)
def o_N_enough (a : Nat) : SP := match a with
  | 0 => f_N_isOne
  | 1 => f_N_laysSuite
  | 2 => f_N_testAt
  | 3 => f_N_isPassed
  | _ => fun _ _ _ _ _ => False
theorem mo_N_enough : ∀ a, ai_mono (o_N_enough a)
  | 0 => mf_N_isOne
  | 1 => mf_N_laysSuite
  | 2 => mf_N_testAt
  | 3 => mf_N_isPassed
  | _ + 4 => fun _ _ _ _ _ _ _ h => h
def f_N_enough : SP := ai_M o_N_enough 0 5 k_N_enough
theorem mf_N_enough : ai_mono f_N_enough := M_mono mo_N_enough
abbrev cal_N_enough : List ai_I := [i_N_isOne, i_N_laysSuite, i_N_testAt, i_N_isPassed]
theorem a_N_enough : ai_all "SuiteBenchModel" prog_14_method_91_code 5 kc_N cal_N_enough 5 118 false (some .int) k_N_enough = true := by decide +kernel
theorem w_N_enough : ai_CW i_N_enough := ⟨(tk_mem (l := [((Jvm.Cond.code ({ cls := "SuiteBenchModel", name := "enough", desc := "(I)I" } : Jvm.MethodName) prog_14_method_91_code (5 : Nat) (Option.some Jvm.ClassFile.FieldType.int)), 9, 172)]) (by decide +kernel) _ (List.mem_singleton.mpr rfl)), (tk_mem (l := [((Jvm.Cond.initialized "SuiteBenchModel"), 1, 15)]) (by decide +kernel) _ (List.mem_singleton.mpr rfl)), ⟨by decide +kernel, by decide +kernel, by decide +kernel⟩, ⟨(tk_mem (l := [((Jvm.Cond.instanceMethod ({ cls := "SuiteBenchModel", name := "enough", desc := "(I)I" } : Jvm.MethodName)), 9, 170)]) (by decide +kernel) _ (List.mem_singleton.mpr rfl)), (tk_mem (l := [((Jvm.Cond.selects "SuiteBenchModel" ({ cls := "SuiteBenchModel", name := "enough", desc := "(I)I" } : Jvm.MethodName) ({ cls := "SuiteBenchModel", name := "enough", desc := "(I)I" } : Jvm.MethodName)), 9, 171)]) (by decide +kernel) _ (List.mem_singleton.mpr rfl)), .inl ⟨_, _, rfl⟩⟩⟩
theorem c_N_enough {E2 : (Nat → Nat) → State → Heap → Prop} (hE : ai_XH E2) : ai_S E2 i_N_enough f_N_enough := snd_M (by decide) rfl (by decide) a_N_enough kc_N_ok (by rfl) (by decide) (fun a i h => match a, h with
    | 0, h => by cases h; exact ⟨c_N_isOne hE, w_N_isOne⟩
    | 1, h => by cases h; exact ⟨c_N_laysSuite hE, w_N_laysSuite⟩
    | 2, h => by cases h; exact ⟨c_N_testAt hE, w_N_testAt⟩
    | 3, h => by cases h; exact ⟨c_N_isPassed hE, w_N_isPassed⟩
    | _ + 4, h => by simp [cal_N_enough, ai_nth] at h)
def k_M_copyArcs : ai_C := [
  [(0, .aload_n 1, 1, 1, 0, 0, 0, 0, []), (1, .getfield 9, 3, 1, 0, 2, 2, 0, []), (4, .iconst 0, 1, 0, 0, 0, 0, 0, []), (5, .aload_n 0, 1, 0, 0, 0, 0, 0, []), (6, .getfield 9, 3, 1, 0, 2, 2, 0, []), (9, .iconst 0, 1, 0, 0, 0, 0, 0, []), (10, .bipush 24, 2, 0, 0, 0, 0, 24, []), (12, .invokestatic 27, 3, 0, 0, 9, 20, 0, []), (15, .aload_n 1, 1, 1, 0, 0, 0, 0, [])],
  [(16, .getfield 15, 3, 1, 1, 3, 2, 1, []), (19, .iconst 0, 1, 0, 0, 0, 0, 0, []), (20, .aload_n 0, 1, 0, 0, 0, 0, 0, []), (21, .getfield 15, 3, 1, 1, 3, 2, 1, []), (24, .iconst 0, 1, 0, 0, 0, 0, 0, []), (25, .bipush 24, 2, 0, 0, 0, 0, 24, []), (27, .invokestatic 27, 3, 0, 0, 9, 20, 0, []), (30, .return_, 1, 0, 0, 0, 0, 0, [])]]
def i_M_copyArcs : ai_I := ((⟨"SuiteBench$Machine", "copyArcs", "(LSuiteBench$Machine;)V"⟩, prog_3_method_7_code, 2, none, 9, 1, 26, 0, 1, 0, 1) : ai_I)
def o_M_copyArcs (_ : Nat) : SP := fun _ _ _ _ _ => False
theorem mo_M_copyArcs : ∀ a, ai_mono (o_M_copyArcs a) := fun _ _ _ _ _ _ _ _ h => h
def f_M_copyArcs : SP := ai_M o_M_copyArcs 0 2 k_M_copyArcs
theorem mf_M_copyArcs : ai_mono f_M_copyArcs := M_mono mo_M_copyArcs
abbrev cal_M_copyArcs : List ai_I := []
theorem a_M_copyArcs : ai_all "SuiteBench$Machine" prog_3_method_7_code 2 kc_M cal_M_copyArcs 1 26 false none k_M_copyArcs = true := by decide +kernel
theorem w_M_copyArcs : ai_CW i_M_copyArcs := ⟨(tk_mem (l := [((Jvm.Cond.code ({ cls := "SuiteBench$Machine", name := "copyArcs", desc := "(LSuiteBench$Machine;)V" } : Jvm.MethodName) prog_3_method_7_code (2 : Nat) (Option.none : Option Jvm.ClassFile.FieldType)), 5, 114)]) (by decide +kernel) _ (List.mem_singleton.mpr rfl)), (tk_mem (l := [((Jvm.Cond.initialized "SuiteBench$Machine"), 1, 5)]) (by decide +kernel) _ (List.mem_singleton.mpr rfl)), ⟨by decide +kernel, by decide +kernel, by decide +kernel⟩, ⟨(tk_mem (l := [((Jvm.Cond.instanceMethod ({ cls := "SuiteBench$Machine", name := "copyArcs", desc := "(LSuiteBench$Machine;)V" } : Jvm.MethodName)), 5, 112)]) (by decide +kernel) _ (List.mem_singleton.mpr rfl)), (tk_mem (l := [((Jvm.Cond.selects "SuiteBench$Machine" ({ cls := "SuiteBench$Machine", name := "copyArcs", desc := "(LSuiteBench$Machine;)V" } : Jvm.MethodName) ({ cls := "SuiteBench$Machine", name := "copyArcs", desc := "(LSuiteBench$Machine;)V" } : Jvm.MethodName)), 5, 113)]) (by decide +kernel) _ (List.mem_singleton.mpr rfl)), .inl ⟨_, _, rfl⟩⟩⟩
theorem c_M_copyArcs {E2 : (Nat → Nat) → State → Heap → Prop} (hE : ai_XH E2) : ai_S E2 i_M_copyArcs f_M_copyArcs := snd_M (by decide) rfl (by decide) a_M_copyArcs kc_M_ok (by rfl) (by decide) (fun a i h => by simp [cal_M_copyArcs, ai_nth] at h)
def k_M_copy : ai_C := [
  [(0, .aload_n 0, 1, 0, 0, 0, 0, 0, []), (1, .aload_n 1, 1, 1, 0, 0, 0, 0, []), (2, .invokevirtual 33, 3, 0, 2, 10, 9, 0, [(0, 1)]), (5, .aload_n 0, 1, 0, 0, 0, 0, 0, []), (6, .aload_n 1, 1, 1, 0, 0, 0, 0, []), (7, .getfield 18, 3, 1, 2, 4, 0, 2, []), (10, .putfield 18, 3, 1, 2, 4, 0, 2, []), (13, .aload_n 0, 1, 0, 0, 0, 0, 0, []), (14, .aload_n 1, 1, 1, 0, 0, 0, 0, []), (15, .getfield 22, 3, 1, 3, 5, 0, 3, [])],
  [(18, .putfield 22, 3, 1, 3, 5, 0, 3, []), (21, .return_, 1, 0, 0, 0, 0, 0, [])]]
def i_M_copy : ai_I := ((⟨"SuiteBench$Machine", "copy", "(LSuiteBench$Machine;)V"⟩, prog_3_method_8_code, 2, none, 9, 2, 47, 0, 1, 0, 1) : ai_I)
def o_M_copy (a : Nat) : SP := match a with
  | 0 => f_M_copyArcs
  | _ => fun _ _ _ _ _ => False
theorem mo_M_copy : ∀ a, ai_mono (o_M_copy a)
  | 0 => mf_M_copyArcs
  | _ + 1 => fun _ _ _ _ _ _ _ h => h
def f_M_copy : SP := ai_M o_M_copy 0 2 k_M_copy
theorem mf_M_copy : ai_mono f_M_copy := M_mono mo_M_copy
abbrev cal_M_copy : List ai_I := [i_M_copyArcs]
theorem a_M_copy : ai_all "SuiteBench$Machine" prog_3_method_8_code 2 kc_M cal_M_copy 2 47 false none k_M_copy = true := by decide +kernel
theorem w_M_copy : ai_CW i_M_copy := ⟨(tk_mem (l := [((Jvm.Cond.code ({ cls := "SuiteBench$Machine", name := "copy", desc := "(LSuiteBench$Machine;)V" } : Jvm.MethodName) prog_3_method_8_code (2 : Nat) (Option.none : Option Jvm.ClassFile.FieldType)), 5, 110)]) (by decide +kernel) _ (List.mem_singleton.mpr rfl)), (tk_mem (l := [((Jvm.Cond.initialized "SuiteBench$Machine"), 1, 5)]) (by decide +kernel) _ (List.mem_singleton.mpr rfl)), ⟨by decide +kernel, by decide +kernel, by decide +kernel⟩, ⟨(tk_mem (l := [((Jvm.Cond.instanceMethod ({ cls := "SuiteBench$Machine", name := "copy", desc := "(LSuiteBench$Machine;)V" } : Jvm.MethodName)), 5, 108)]) (by decide +kernel) _ (List.mem_singleton.mpr rfl)), (tk_mem (l := [((Jvm.Cond.selects "SuiteBench$Machine" ({ cls := "SuiteBench$Machine", name := "copy", desc := "(LSuiteBench$Machine;)V" } : Jvm.MethodName) ({ cls := "SuiteBench$Machine", name := "copy", desc := "(LSuiteBench$Machine;)V" } : Jvm.MethodName)), 5, 109)]) (by decide +kernel) _ (List.mem_singleton.mpr rfl)), .inl ⟨_, _, rfl⟩⟩⟩
theorem c_M_copy {E2 : (Nat → Nat) → State → Heap → Prop} (hE : ai_XH E2) : ai_S E2 i_M_copy f_M_copy := snd_M (by decide) rfl (by decide) a_M_copy kc_M_ok (by rfl) (by decide) (fun a i h => match a, h with
    | 0, h => by cases h; exact ⟨c_M_copyArcs hE, w_M_copyArcs⟩
    | _ + 1, h => by simp [cal_M_copy, ai_nth] at h)
def k_U_dress : ai_C := [
  [(0, .aload_n 0, 1, 0, 0, 0, 0, 0, []), (1, .getfield 21, 3, 2, 5, 8, 2, 5, []), (4, .iload_n 2, 1, 2, 0, 0, 0, 0, []), (5, .iaload, 1, 0, 0, 0, 0, 0, []), (6, .bipush 8, 2, 0, 0, 0, 0, 8, []), (8, .ishr, 1, 0, 0, 0, 0, 0, []), (9, .istore_n 3, 1, 3, 0, 0, 0, 0, []), (10, .aload_n 1, 1, 1, 0, 0, 0, 0, []), (11, .getfield 90, 3, 1, 0, 22, 2, 0, []), (14, .iload_n 3, 1, 3, 0, 0, 0, 0, []), (15, .aload_n 0, 1, 0, 0, 0, 0, 0, [])],
  [(16, .getfield 21, 3, 2, 5, 8, 2, 5, []), (19, .iload_n 2, 1, 2, 0, 0, 0, 0, []), (20, .iaload, 1, 0, 0, 0, 0, 0, []), (21, .iconst 4, 1, 0, 0, 0, 0, 4, []), (22, .ishr, 1, 0, 0, 0, 0, 0, []), (23, .bipush 15, 2, 0, 0, 0, 0, 15, []), (25, .iand, 1, 0, 0, 0, 0, 0, []), (26, .iastore, 1, 0, 0, 0, 0, 0, []), (27, .aload_n 1, 1, 1, 0, 0, 0, 0, []), (28, .getfield 93, 3, 1, 1, 23, 2, 1, []), (31, .iload_n 3, 1, 3, 0, 0, 0, 0, [])],
  [(32, .aload_n 0, 1, 0, 0, 0, 0, 0, []), (33, .getfield 21, 3, 2, 5, 8, 2, 5, []), (36, .iload_n 2, 1, 2, 0, 0, 0, 0, []), (37, .iaload, 1, 0, 0, 0, 0, 0, []), (38, .bipush 15, 2, 0, 0, 0, 0, 15, []), (40, .iand, 1, 0, 0, 0, 0, 0, []), (41, .iastore, 1, 0, 0, 0, 0, 0, []), (42, .return_, 1, 0, 0, 0, 0, 0, [])]]
def i_U_dress : ai_I := ((⟨"SuiteBench$Mutants", "dress", "(LSuiteBench$Machine;I)V"⟩, prog_4_method_8_code, 4, none, 9, 0, 0, 0, 2, 0, 2) : ai_I)
def o_U_dress (_ : Nat) : SP := fun _ _ _ _ _ => False
theorem mo_U_dress : ∀ a, ai_mono (o_U_dress a) := fun _ _ _ _ _ _ _ _ h => h
def f_U_dress : SP := ai_M o_U_dress 0 4 k_U_dress
theorem mf_U_dress : ai_mono f_U_dress := M_mono mo_U_dress
abbrev cal_U_dress : List ai_I := []
theorem a_U_dress : ai_all "SuiteBench$Mutants" prog_4_method_8_code 4 kc_U cal_U_dress 0 0 false none k_U_dress = true := by decide +kernel
theorem w_U_dress : ai_CW i_U_dress := ⟨(tk_mem (l := [((Jvm.Cond.code ({ cls := "SuiteBench$Mutants", name := "dress", desc := "(LSuiteBench$Machine;I)V" } : Jvm.MethodName) prog_4_method_8_code (4 : Nat) (Option.none : Option Jvm.ClassFile.FieldType)), 5, 121)]) (by decide +kernel) _ (List.mem_singleton.mpr rfl)), (tk_mem (l := [((Jvm.Cond.initialized "SuiteBench$Mutants"), 1, 11)]) (by decide +kernel) _ (List.mem_singleton.mpr rfl)), ⟨by decide +kernel, by decide +kernel, by decide +kernel⟩, ⟨(tk_mem (l := [((Jvm.Cond.instanceMethod ({ cls := "SuiteBench$Mutants", name := "dress", desc := "(LSuiteBench$Machine;I)V" } : Jvm.MethodName)), 5, 119)]) (by decide +kernel) _ (List.mem_singleton.mpr rfl)), (tk_mem (l := [((Jvm.Cond.selects "SuiteBench$Mutants" ({ cls := "SuiteBench$Mutants", name := "dress", desc := "(LSuiteBench$Machine;I)V" } : Jvm.MethodName) ({ cls := "SuiteBench$Mutants", name := "dress", desc := "(LSuiteBench$Machine;I)V" } : Jvm.MethodName)), 5, 120)]) (by decide +kernel) _ (List.mem_singleton.mpr rfl)), .inl ⟨_, _, rfl⟩⟩⟩
theorem c_U_dress {E2 : (Nat → Nat) → State → Heap → Prop} (hE : ai_XH E2) : ai_S E2 i_U_dress f_U_dress := snd_M (by decide) rfl (by decide) a_U_dress kc_U_ok (by rfl) (by decide) (fun a i h => by simp [cal_U_dress, ai_nth] at h)
def k_U_undress : ai_C := [
  [(0, .aload_n 0, 1, 0, 0, 0, 0, 0, []), (1, .getfield 21, 3, 2, 5, 8, 2, 5, []), (4, .iload_n 2, 1, 2, 0, 0, 0, 0, []), (5, .iaload, 1, 0, 0, 0, 0, 0, []), (6, .bipush 8, 2, 0, 0, 0, 0, 8, []), (8, .ishr, 1, 0, 0, 0, 0, 0, []), (9, .istore_n 3, 1, 3, 0, 0, 0, 0, []), (10, .aload_n 1, 1, 1, 0, 0, 0, 0, []), (11, .getfield 90, 3, 1, 0, 22, 2, 0, []), (14, .iload_n 3, 1, 3, 0, 0, 0, 0, []), (15, .aload_n 0, 1, 0, 0, 0, 0, 0, [])],
  [(16, .getfield 50, 3, 2, 0, 18, 2, 0, []), (19, .getfield 90, 3, 1, 0, 22, 2, 0, []), (22, .iload_n 3, 1, 3, 0, 0, 0, 0, []), (23, .iaload, 1, 0, 0, 0, 0, 0, []), (24, .iastore, 1, 0, 0, 0, 0, 0, []), (25, .aload_n 1, 1, 1, 0, 0, 0, 0, []), (26, .getfield 93, 3, 1, 1, 23, 2, 1, []), (29, .iload_n 3, 1, 3, 0, 0, 0, 0, []), (30, .aload_n 0, 1, 0, 0, 0, 0, 0, []), (31, .getfield 50, 3, 2, 0, 18, 2, 0, [])],
  [(34, .getfield 93, 3, 1, 1, 23, 2, 1, []), (37, .iload_n 3, 1, 3, 0, 0, 0, 0, []), (38, .iaload, 1, 0, 0, 0, 0, 0, []), (39, .iastore, 1, 0, 0, 0, 0, 0, []), (40, .return_, 1, 0, 0, 0, 0, 0, [])]]
def i_U_undress : ai_I := ((⟨"SuiteBench$Mutants", "undress", "(LSuiteBench$Machine;I)V"⟩, prog_4_method_9_code, 4, none, 9, 0, 0, 0, 2, 0, 2) : ai_I)
def o_U_undress (_ : Nat) : SP := fun _ _ _ _ _ => False
theorem mo_U_undress : ∀ a, ai_mono (o_U_undress a) := fun _ _ _ _ _ _ _ _ h => h
def f_U_undress : SP := ai_M o_U_undress 0 4 k_U_undress
theorem mf_U_undress : ai_mono f_U_undress := M_mono mo_U_undress
abbrev cal_U_undress : List ai_I := []
theorem a_U_undress : ai_all "SuiteBench$Mutants" prog_4_method_9_code 4 kc_U cal_U_undress 0 0 false none k_U_undress = true := by decide +kernel
theorem w_U_undress : ai_CW i_U_undress := ⟨(tk_mem (l := [((Jvm.Cond.code ({ cls := "SuiteBench$Mutants", name := "undress", desc := "(LSuiteBench$Machine;I)V" } : Jvm.MethodName) prog_4_method_9_code (4 : Nat) (Option.none : Option Jvm.ClassFile.FieldType)), 5, 126)]) (by decide +kernel) _ (List.mem_singleton.mpr rfl)), (tk_mem (l := [((Jvm.Cond.initialized "SuiteBench$Mutants"), 1, 11)]) (by decide +kernel) _ (List.mem_singleton.mpr rfl)), ⟨by decide +kernel, by decide +kernel, by decide +kernel⟩, ⟨(tk_mem (l := [((Jvm.Cond.instanceMethod ({ cls := "SuiteBench$Mutants", name := "undress", desc := "(LSuiteBench$Machine;I)V" } : Jvm.MethodName)), 5, 124)]) (by decide +kernel) _ (List.mem_singleton.mpr rfl)), (tk_mem (l := [((Jvm.Cond.selects "SuiteBench$Mutants" ({ cls := "SuiteBench$Mutants", name := "undress", desc := "(LSuiteBench$Machine;I)V" } : Jvm.MethodName) ({ cls := "SuiteBench$Mutants", name := "undress", desc := "(LSuiteBench$Machine;I)V" } : Jvm.MethodName)), 5, 125)]) (by decide +kernel) _ (List.mem_singleton.mpr rfl)), .inl ⟨_, _, rfl⟩⟩⟩
theorem c_U_undress {E2 : (Nat → Nat) → State → Heap → Prop} (hE : ai_XH E2) : ai_S E2 i_U_undress f_U_undress := snd_M (by decide) rfl (by decide) a_U_undress kc_U_ok (by rfl) (by decide) (fun a i h => by simp [cal_U_undress, ai_nth] at h)
def k_U_equalOnes : ai_C := [
  [(0, .aload_n 0, 1, 0, 0, 0, 0, 0, []), (1, .getfield 67, 3, 2, 14, 28, 0, 14, []), (4, .bipush (-9), 2, 0, 0, 0, 0, (-9), []), (6, .if_icmp .ne 107, 3, 113, 0, 0, 0, 0, []), (9, .aload_n 0, 1, 0, 0, 0, 0, 0, []), (10, .iconst 0, 1, 0, 0, 0, 0, 0, []), (11, .putfield 67, 3, 2, 14, 28, 0, 14, []), (14, .aload_n 0, 1, 0, 0, 0, 0, 0, []), (15, .getfield 12, 3, 2, 3, 5, 2, 3, [])],
  [(18, .aload_n 0, 1, 0, 0, 0, 0, 0, []), (19, .getfield 50, 3, 2, 0, 18, 2, 0, []), (22, .invokevirtual 102, 3, 0, 2, 32, 9, 0, [(0, 1)]), (25, .iconst 0, 1, 0, 0, 0, 0, 0, []), (26, .istore_n 1, 1, 1, 0, 0, 0, 0, []), (27, .iload_n 1, 1, 1, 0, 0, 0, 0, []), (28, .aload_n 0, 1, 0, 0, 0, 0, 0, []), (29, .getfield 71, 3, 2, 15, 21, 0, 15, [])],
  [(32, .if_icmp .ge 81, 3, 113, 0, 0, 0, 0, []), (35, .aload_n 0, 1, 0, 0, 0, 0, 0, []), (36, .aload_n 0, 1, 0, 0, 0, 0, 0, []), (37, .getfield 12, 3, 2, 3, 5, 2, 3, []), (40, .iload_n 1, 1, 1, 0, 0, 0, 0, []), (41, .invokevirtual 106, 3, 1, 3, 33, 9, 0, [(0, 2)]), (44, .aload_n 0, 1, 0, 0, 0, 0, 0, []), (45, .getfield 25, 3, 2, 6, 10, 2, 6, [])],
  [(48, .iload_n 1, 1, 1, 0, 0, 0, 0, []), (49, .aload_n 0, 1, 0, 0, 0, 0, 0, []), (50, .getfield 57, 3, 2, 2, 20, 2, 2, []), (53, .aload_n 0, 1, 0, 0, 0, 0, 0, []), (54, .getfield 50, 3, 2, 0, 18, 2, 0, []), (57, .aload_n 0, 1, 0, 0, 0, 0, 0, []), (58, .getfield 12, 3, 2, 3, 5, 2, 3, []), (61, .invokevirtual 110, 3, 2, 3, 34, 0, 0, [(0, 5)])],
  [(64, .bipush (-2), 2, 0, 0, 0, 0, (-2), []), (66, .if_icmp .ne 7, 3, 73, 0, 0, 0, 0, []), (69, .iconst 1, 1, 0, 0, 0, 0, 1, []), (70, .goto 4, 3, 74, 0, 0, 0, 0, []), (73, .iconst 0, 1, 0, 0, 0, 0, 0, []), (74, .bastore, 1, 0, 0, 0, 52, 0, []), (75, .aload_n 0, 1, 0, 0, 0, 0, 0, []), (76, .dup, 1, 0, 0, 0, 0, 0, []), (77, .getfield 67, 3, 2, 14, 28, 0, 14, [])],
  [(80, .aload_n 0, 1, 0, 0, 0, 0, 0, []), (81, .getfield 25, 3, 2, 6, 10, 2, 6, []), (84, .iload_n 1, 1, 1, 0, 0, 0, 0, []), (85, .baload, 1, 0, 0, 0, 52, 0, []), (86, .ifCond .eq 7, 3, 93, 0, 0, 0, 0, []), (89, .iconst 1, 1, 0, 0, 0, 0, 1, []), (90, .goto 4, 3, 94, 0, 0, 0, 0, []), (93, .iconst 0, 1, 0, 0, 0, 0, 0, []), (94, .iadd, 1, 0, 0, 0, 0, 0, []), (95, .putfield 67, 3, 2, 14, 28, 0, 14, [])],
  [(98, .aload_n 0, 1, 0, 0, 0, 0, 0, []), (99, .aload_n 0, 1, 0, 0, 0, 0, 0, []), (100, .getfield 12, 3, 2, 3, 5, 2, 3, []), (103, .iload_n 1, 1, 1, 0, 0, 0, 0, []), (104, .invokevirtual 116, 3, 3, 3, 35, 9, 0, [(0, 2)]), (107, .iinc 1 1, 3, 1, 0, 0, 0, 1, []), (110, .goto (-83), 3, 27, 0, 0, 0, 0, [])],
  [(113, .aload_n 0, 1, 0, 0, 0, 0, 0, []), (114, .getfield 67, 3, 2, 14, 28, 0, 14, []), (117, .ireturn, 1, 0, 0, 0, 0, 0, [])]]
def i_U_equalOnes : ai_I := ((⟨"SuiteBench$Mutants", "equalOnes", "()I"⟩, prog_4_method_11_code, 2, (some .int), 0, 3, 68, 0, 0, 0, 2) : ai_I)
def o_U_equalOnes (a : Nat) : SP := match a with
  | 0 => f_M_copy
  | 1 => f_U_dress
  | 2 => f_S_unlike
  | 3 => f_U_undress
  | _ => fun _ _ _ _ _ => False
theorem mo_U_equalOnes : ∀ a, ai_mono (o_U_equalOnes a)
  | 0 => mf_M_copy
  | 1 => mf_U_dress
  | 2 => mf_S_unlike
  | 3 => mf_U_undress
  | _ + 4 => fun _ _ _ _ _ _ _ h => h
def f_U_equalOnes : SP := ai_M o_U_equalOnes 0 2 k_U_equalOnes
theorem mf_U_equalOnes : ai_mono f_U_equalOnes := M_mono mo_U_equalOnes
abbrev cal_U_equalOnes : List ai_I := [i_M_copy, i_U_dress, i_S_unlike, i_U_undress]
theorem a_U_equalOnes : ai_all "SuiteBench$Mutants" prog_4_method_11_code 2 kc_U cal_U_equalOnes 3 68 false (some .int) k_U_equalOnes = true := by decide +kernel
theorem w_U_equalOnes : ai_CW i_U_equalOnes := ⟨(tk_mem (l := [((Jvm.Cond.code ({ cls := "SuiteBench$Mutants", name := "equalOnes", desc := "()I" } : Jvm.MethodName) prog_4_method_11_code (2 : Nat) (Option.some Jvm.ClassFile.FieldType.int)), 5, 106)]) (by decide +kernel) _ (List.mem_singleton.mpr rfl)), (tk_mem (l := [((Jvm.Cond.initialized "SuiteBench$Mutants"), 1, 11)]) (by decide +kernel) _ (List.mem_singleton.mpr rfl)), ⟨by decide +kernel, by decide +kernel, by decide +kernel⟩, ⟨(tk_mem (l := [((Jvm.Cond.instanceMethod ({ cls := "SuiteBench$Mutants", name := "equalOnes", desc := "()I" } : Jvm.MethodName)), 5, 104)]) (by decide +kernel) _ (List.mem_singleton.mpr rfl)), (tk_mem (l := [((Jvm.Cond.selects "SuiteBench$Mutants" ({ cls := "SuiteBench$Mutants", name := "equalOnes", desc := "()I" } : Jvm.MethodName) ({ cls := "SuiteBench$Mutants", name := "equalOnes", desc := "()I" } : Jvm.MethodName)), 5, 105)]) (by decide +kernel) _ (List.mem_singleton.mpr rfl)), .inl ⟨_, _, rfl⟩⟩⟩
theorem c_U_equalOnes {E2 : (Nat → Nat) → State → Heap → Prop} (hE : ai_XH E2) : ai_S E2 i_U_equalOnes f_U_equalOnes := snd_M (by decide) rfl (by decide) a_U_equalOnes kc_U_ok (by rfl) (by decide) (fun a i h => match a, h with
    | 0, h => by cases h; exact ⟨c_M_copy hE, w_M_copy⟩
    | 1, h => by cases h; exact ⟨c_U_dress hE, w_U_dress⟩
    | 2, h => by cases h; exact ⟨c_S_unlike hE, w_S_unlike⟩
    | 3, h => by cases h; exact ⟨c_U_undress hE, w_U_undress⟩
    | _ + 4, h => by simp [cal_U_equalOnes, ai_nth] at h)
def k_U_learnNoticed : ai_C := [
  [(0, .aload_n 0, 1, 0, 0, 0, 0, 0, []), (1, .getfield 29, 3, 2, 7, 11, 2, 7, []), (4, .iload_n 1, 1, 1, 0, 0, 0, 0, []), (5, .iaload, 1, 0, 0, 0, 0, 0, []), (6, .bipush (-9), 2, 0, 0, 0, 0, (-9), []), (8, .if_icmp .eq 4, 3, 12, 0, 0, 0, 0, []), (11, .return_, 1, 0, 0, 0, 0, 0, []), (12, .aload_n 0, 1, 0, 0, 0, 0, 0, []), (13, .invokevirtual 123, 3, 0, 1, 36, 0, 0, [(0, 2)])],
  [(16, .pop, 1, 0, 0, 0, 0, 0, []), (17, .aload_n 0, 1, 0, 0, 0, 0, 0, []), (18, .getfield 29, 3, 2, 7, 11, 2, 7, []), (21, .iload_n 1, 1, 1, 0, 0, 0, 0, []), (22, .iconst 0, 1, 0, 0, 0, 0, 0, []), (23, .iastore, 1, 0, 0, 0, 0, 0, []), (24, .aload_n 0, 1, 0, 0, 0, 0, 0, []), (25, .getfield 32, 3, 2, 8, 12, 2, 8, []), (28, .iload_n 1, 1, 1, 0, 0, 0, 0, []), (29, .bipush (-2), 2, 0, 0, 0, 0, (-2), []), (31, .iastore, 1, 0, 0, 0, 0, 0, [])],
  [(32, .aload_n 0, 1, 0, 0, 0, 0, 0, []), (33, .getfield 12, 3, 2, 3, 5, 2, 3, []), (36, .aload_n 0, 1, 0, 0, 0, 0, 0, []), (37, .getfield 50, 3, 2, 0, 18, 2, 0, []), (40, .invokevirtual 102, 3, 1, 2, 32, 9, 0, [(0, 1)]), (43, .iconst 0, 1, 0, 0, 0, 0, 0, []), (44, .istore_n 3, 1, 3, 0, 0, 0, 0, []), (45, .iload_n 3, 1, 3, 0, 0, 0, 0, []), (46, .aload_n 0, 1, 0, 0, 0, 0, 0, []), (47, .getfield 71, 3, 2, 15, 21, 0, 15, [])],
  [(50, .if_icmp .ge 78, 3, 128, 0, 0, 0, 0, []), (53, .aload_n 0, 1, 0, 0, 0, 0, 0, []), (54, .aload_n 0, 1, 0, 0, 0, 0, 0, []), (55, .getfield 12, 3, 2, 3, 5, 2, 3, []), (58, .iload_n 3, 1, 3, 0, 0, 0, 0, []), (59, .invokevirtual 106, 3, 2, 3, 33, 9, 0, [(0, 2)]), (62, .aload_n 0, 1, 0, 0, 0, 0, 0, []), (63, .getfield 25, 3, 2, 6, 10, 2, 6, [])],
  [(66, .iload_n 3, 1, 3, 0, 0, 0, 0, []), (67, .baload, 1, 0, 0, 0, 52, 0, []), (68, .ifCond .ne 45, 3, 113, 0, 0, 0, 0, []), (71, .aload_n 2, 1, 2, 0, 0, 0, 0, []), (72, .aload_n 0, 1, 0, 0, 0, 0, 0, []), (73, .getfield 12, 3, 2, 3, 5, 2, 3, []), (76, .invokevirtual 127, 3, 3, 2, 37, 0, 0, [(0, 8)]), (79, .ifCond .eq 16, 3, 95, 0, 0, 0, 0, [])],
  [(82, .aload_n 0, 1, 0, 0, 0, 0, 0, []), (83, .getfield 29, 3, 2, 7, 11, 2, 7, []), (86, .iload_n 1, 1, 1, 0, 0, 0, 0, []), (87, .dup2, 1, 0, 0, 0, 0, 0, []), (88, .iaload, 1, 0, 0, 0, 0, 0, []), (89, .iconst 1, 1, 0, 0, 0, 0, 1, []), (90, .iadd, 1, 0, 0, 0, 0, 0, []), (91, .iastore, 1, 0, 0, 0, 0, 0, []), (92, .goto 21, 3, 113, 0, 0, 0, 0, []), (95, .aload_n 0, 1, 0, 0, 0, 0, 0, [])],
  [(96, .getfield 32, 3, 2, 8, 12, 2, 8, []), (99, .iload_n 1, 1, 1, 0, 0, 0, 0, []), (100, .iaload, 1, 0, 0, 0, 0, 0, []), (101, .bipush (-2), 2, 0, 0, 0, 0, (-2), []), (103, .if_icmp .ne 10, 3, 113, 0, 0, 0, 0, []), (106, .aload_n 0, 1, 0, 0, 0, 0, 0, []), (107, .getfield 32, 3, 2, 8, 12, 2, 8, []), (110, .iload_n 1, 1, 1, 0, 0, 0, 0, []), (111, .iload_n 3, 1, 3, 0, 0, 0, 0, [])],
  [(112, .iastore, 1, 0, 0, 0, 0, 0, []), (113, .aload_n 0, 1, 0, 0, 0, 0, 0, []), (114, .aload_n 0, 1, 0, 0, 0, 0, 0, []), (115, .getfield 12, 3, 2, 3, 5, 2, 3, []), (118, .iload_n 3, 1, 3, 0, 0, 0, 0, []), (119, .invokevirtual 116, 3, 4, 3, 35, 9, 0, [(0, 2)]), (122, .iinc 3 1, 3, 3, 0, 0, 0, 1, []), (125, .goto (-80), 3, 45, 0, 0, 0, 0, [])],
  [(128, .return_, 1, 0, 0, 0, 0, 0, [])]]
def i_U_learnNoticed : ai_I := ((⟨"SuiteBench$Mutants", "learnNoticed", "(ILSuiteBench$Tests;)V"⟩, prog_4_method_14_code, 4, none, 9, 4, 89, 0, 2, 0, 2) : ai_I)
def o_U_learnNoticed (a : Nat) : SP := match a with
  | 0 => f_U_equalOnes
  | 1 => f_M_copy
  | 2 => f_U_dress
  | 3 => f_E_isFailedBy
  | 4 => f_U_undress
  | _ => fun _ _ _ _ _ => False
theorem mo_U_learnNoticed : ∀ a, ai_mono (o_U_learnNoticed a)
  | 0 => mf_U_equalOnes
  | 1 => mf_M_copy
  | 2 => mf_U_dress
  | 3 => mf_E_isFailedBy
  | 4 => mf_U_undress
  | _ + 5 => fun _ _ _ _ _ _ _ h => h
def f_U_learnNoticed : SP := ai_M o_U_learnNoticed 0 4 k_U_learnNoticed
theorem mf_U_learnNoticed : ai_mono f_U_learnNoticed := M_mono mo_U_learnNoticed
abbrev cal_U_learnNoticed : List ai_I := [i_U_equalOnes, i_M_copy, i_U_dress, i_E_isFailedBy, i_U_undress]
theorem a_U_learnNoticed : ai_all "SuiteBench$Mutants" prog_4_method_14_code 4 kc_U cal_U_learnNoticed 4 89 false none k_U_learnNoticed = true := by decide +kernel
theorem w_U_learnNoticed : ai_CW i_U_learnNoticed := ⟨(tk_mem (l := [((Jvm.Cond.code ({ cls := "SuiteBench$Mutants", name := "learnNoticed", desc := "(ILSuiteBench$Tests;)V" } : Jvm.MethodName) prog_4_method_14_code (4 : Nat) (Option.none : Option Jvm.ClassFile.FieldType)), 5, 134)]) (by decide +kernel) _ (List.mem_singleton.mpr rfl)), (tk_mem (l := [((Jvm.Cond.initialized "SuiteBench$Mutants"), 1, 11)]) (by decide +kernel) _ (List.mem_singleton.mpr rfl)), ⟨by decide +kernel, by decide +kernel, by decide +kernel⟩, ⟨(tk_mem (l := [((Jvm.Cond.instanceMethod ({ cls := "SuiteBench$Mutants", name := "learnNoticed", desc := "(ILSuiteBench$Tests;)V" } : Jvm.MethodName)), 5, 133)]) (by decide +kernel) _ (List.mem_singleton.mpr rfl)), gw_sel 44 (by decide +kernel), .inl ⟨_, _, rfl⟩⟩⟩
theorem c_U_learnNoticed {E2 : (Nat → Nat) → State → Heap → Prop} (hE : ai_XH E2) : ai_S E2 i_U_learnNoticed f_U_learnNoticed := snd_M (by decide) rfl (by decide) a_U_learnNoticed kc_U_ok (by rfl) (by decide) (fun a i h => match a, h with
    | 0, h => by cases h; exact ⟨c_U_equalOnes hE, w_U_equalOnes⟩
    | 1, h => by cases h; exact ⟨c_M_copy hE, w_M_copy⟩
    | 2, h => by cases h; exact ⟨c_U_dress hE, w_U_dress⟩
    | 3, h => by cases h; exact ⟨c_E_isFailedBy hE, w_E_isFailedBy⟩
    | 4, h => by cases h; exact ⟨c_U_undress hE, w_U_undress⟩
    | _ + 5, h => by simp [cal_U_learnNoticed, ai_nth] at h)
def k_U_noticedBy : ai_C := [
  [(0, .aload_n 0, 1, 0, 0, 0, 0, 0, []), (1, .iload_n 1, 1, 1, 0, 0, 0, 0, []), (2, .aload_n 2, 1, 2, 0, 0, 0, 0, []), (3, .invokevirtual 119, 3, 0, 3, 38, 9, 0, [(0, 2)]), (6, .aload_n 0, 1, 0, 0, 0, 0, 0, []), (7, .getfield 29, 3, 2, 7, 11, 2, 7, []), (10, .iload_n 1, 1, 1, 0, 0, 0, 0, []), (11, .iaload, 1, 0, 0, 0, 0, 0, []), (12, .ireturn, 1, 0, 0, 0, 0, 0, [])]]
def i_U_noticedBy : ai_I := ((⟨"SuiteBench$Mutants", "noticedBy", "(ILSuiteBench$Tests;)I"⟩, prog_4_method_12_code, 3, (some .int), 0, 5, 112, 0, 2, 0, 2) : ai_I)
def o_U_noticedBy (a : Nat) : SP := match a with
  | 0 => f_U_learnNoticed
  | _ => fun _ _ _ _ _ => False
theorem mo_U_noticedBy : ∀ a, ai_mono (o_U_noticedBy a)
  | 0 => mf_U_learnNoticed
  | _ + 1 => fun _ _ _ _ _ _ _ h => h
def f_U_noticedBy : SP := ai_M o_U_noticedBy 0 3 k_U_noticedBy
theorem mf_U_noticedBy : ai_mono f_U_noticedBy := M_mono mo_U_noticedBy
abbrev cal_U_noticedBy : List ai_I := [i_U_learnNoticed]
theorem a_U_noticedBy : ai_all "SuiteBench$Mutants" prog_4_method_12_code 3 kc_U cal_U_noticedBy 5 112 false (some .int) k_U_noticedBy = true := by decide +kernel
theorem w_U_noticedBy : ai_CW i_U_noticedBy := ⟨(tk_mem (l := [((Jvm.Cond.code ({ cls := "SuiteBench$Mutants", name := "noticedBy", desc := "(ILSuiteBench$Tests;)I" } : Jvm.MethodName) prog_4_method_12_code (3 : Nat) (Option.some Jvm.ClassFile.FieldType.int)), 5, 130)]) (by decide +kernel) _ (List.mem_singleton.mpr rfl)), (tk_mem (l := [((Jvm.Cond.initialized "SuiteBench$Mutants"), 1, 11)]) (by decide +kernel) _ (List.mem_singleton.mpr rfl)), ⟨by decide +kernel, by decide +kernel, by decide +kernel⟩, ⟨(tk_mem (l := [((Jvm.Cond.instanceMethod ({ cls := "SuiteBench$Mutants", name := "noticedBy", desc := "(ILSuiteBench$Tests;)I" } : Jvm.MethodName)), 5, 128)]) (by decide +kernel) _ (List.mem_singleton.mpr rfl)), (tk_mem (l := [((Jvm.Cond.selects "SuiteBench$Mutants" ({ cls := "SuiteBench$Mutants", name := "noticedBy", desc := "(ILSuiteBench$Tests;)I" } : Jvm.MethodName) ({ cls := "SuiteBench$Mutants", name := "noticedBy", desc := "(ILSuiteBench$Tests;)I" } : Jvm.MethodName)), 5, 129)]) (by decide +kernel) _ (List.mem_singleton.mpr rfl)), .inl ⟨_, _, rfl⟩⟩⟩
theorem c_U_noticedBy {E2 : (Nat → Nat) → State → Heap → Prop} (hE : ai_XH E2) : ai_S E2 i_U_noticedBy f_U_noticedBy := snd_M (by decide) rfl (by decide) a_U_noticedBy kc_U_ok (by rfl) (by decide) (fun a i h => match a, h with
    | 0, h => by cases h; exact ⟨c_U_learnNoticed hE, w_U_learnNoticed⟩
    | _ + 1, h => by simp [cal_U_noticedBy, ai_nth] at h)
def k_U_firstMissedBy : ai_C := [
  [(0, .aload_n 0, 1, 0, 0, 0, 0, 0, []), (1, .iload_n 1, 1, 1, 0, 0, 0, 0, []), (2, .aload_n 2, 1, 2, 0, 0, 0, 0, []), (3, .invokevirtual 119, 3, 0, 3, 38, 9, 0, [(0, 2)]), (6, .aload_n 0, 1, 0, 0, 0, 0, 0, []), (7, .getfield 32, 3, 2, 8, 12, 2, 8, []), (10, .iload_n 1, 1, 1, 0, 0, 0, 0, []), (11, .iaload, 1, 0, 0, 0, 0, 0, []), (12, .ireturn, 1, 0, 0, 0, 0, 0, [])]]
def i_U_firstMissedBy : ai_I := ((⟨"SuiteBench$Mutants", "firstMissedBy", "(ILSuiteBench$Tests;)I"⟩, prog_4_method_13_code, 3, (some .int), 0, 5, 112, 0, 2, 0, 2) : ai_I)
def o_U_firstMissedBy (a : Nat) : SP := match a with
  | 0 => f_U_learnNoticed
  | _ => fun _ _ _ _ _ => False
theorem mo_U_firstMissedBy : ∀ a, ai_mono (o_U_firstMissedBy a)
  | 0 => mf_U_learnNoticed
  | _ + 1 => fun _ _ _ _ _ _ _ h => h
def f_U_firstMissedBy : SP := ai_M o_U_firstMissedBy 0 3 k_U_firstMissedBy
theorem mf_U_firstMissedBy : ai_mono f_U_firstMissedBy := M_mono mo_U_firstMissedBy
abbrev cal_U_firstMissedBy : List ai_I := [i_U_learnNoticed]
theorem a_U_firstMissedBy : ai_all "SuiteBench$Mutants" prog_4_method_13_code 3 kc_U cal_U_firstMissedBy 5 112 false (some .int) k_U_firstMissedBy = true := by decide +kernel
theorem w_U_firstMissedBy : ai_CW i_U_firstMissedBy := ⟨(tk_mem (l := [((Jvm.Cond.code ({ cls := "SuiteBench$Mutants", name := "firstMissedBy", desc := "(ILSuiteBench$Tests;)I" } : Jvm.MethodName) prog_4_method_13_code (3 : Nat) (Option.some Jvm.ClassFile.FieldType.int)), 5, 140)]) (by decide +kernel) _ (List.mem_singleton.mpr rfl)), (tk_mem (l := [((Jvm.Cond.initialized "SuiteBench$Mutants"), 1, 11)]) (by decide +kernel) _ (List.mem_singleton.mpr rfl)), ⟨by decide +kernel, by decide +kernel, by decide +kernel⟩, ⟨(tk_mem (l := [((Jvm.Cond.instanceMethod ({ cls := "SuiteBench$Mutants", name := "firstMissedBy", desc := "(ILSuiteBench$Tests;)I" } : Jvm.MethodName)), 5, 138)]) (by decide +kernel) _ (List.mem_singleton.mpr rfl)), (tk_mem (l := [((Jvm.Cond.selects "SuiteBench$Mutants" ({ cls := "SuiteBench$Mutants", name := "firstMissedBy", desc := "(ILSuiteBench$Tests;)I" } : Jvm.MethodName) ({ cls := "SuiteBench$Mutants", name := "firstMissedBy", desc := "(ILSuiteBench$Tests;)I" } : Jvm.MethodName)), 5, 139)]) (by decide +kernel) _ (List.mem_singleton.mpr rfl)), .inl ⟨_, _, rfl⟩⟩⟩
theorem c_U_firstMissedBy {E2 : (Nat → Nat) → State → Heap → Prop} (hE : ai_XH E2) : ai_S E2 i_U_firstMissedBy f_U_firstMissedBy := snd_M (by decide) rfl (by decide) a_U_firstMissedBy kc_U_ok (by rfl) (by decide) (fun a i h => match a, h with
    | 0, h => by cases h; exact ⟨c_U_learnNoticed hE, w_U_learnNoticed⟩
    | _ + 1, h => by simp [cal_U_firstMissedBy, ai_nth] at h)
def k_B_mutants : ai_C := [
  [(0, .iload_n 1, 1, 1, 0, 0, 0, 0, []), (1, .invokestatic 193, 3, 0, 1, 98, 0, 0, [(0, 11)]), (4, .ifCond .eq 12, 3, 16, 0, 0, 0, 0, []), (7, .iload_n 2, 1, 2, 0, 0, 0, 0, []), (8, .ifCond .lt 8, 3, 16, 0, 0, 0, 0, []), (11, .iload_n 2, 1, 2, 0, 0, 0, 0, []), (12, .iconst 4, 1, 0, 0, 0, 0, 4, []), (13, .if_icmp .le 5, 3, 18, 0, 0, 0, 0, [])],
  [(16, .iconst (-1), 1, 0, 0, 0, 0, (-1), []), (17, .ireturn, 1, 0, 0, 0, 0, 0, []), (18, .iload_n 2, 1, 2, 0, 0, 0, 0, []), (19, .ifCond .ne 11, 3, 30, 0, 0, 0, 0, []), (22, .aload_n 0, 1, 0, 0, 0, 0, 0, []), (23, .getfield 63, 3, 11, 6, 17, 2, 6, []), (26, .getfield 252, 3, 2, 15, 115, 0, 15, []), (29, .ireturn, 1, 0, 0, 0, 0, 0, []), (30, .iload_n 2, 1, 2, 0, 0, 0, 0, []), (31, .iconst 1, 1, 0, 0, 0, 0, 1, [])],
  [(32, .if_icmp .ne 11, 3, 43, 0, 0, 0, 0, []), (35, .aload_n 0, 1, 0, 0, 0, 0, 0, []), (36, .getfield 63, 3, 11, 6, 17, 2, 6, []), (39, .invokevirtual 253, 3, 1, 1, 116, 0, 0, [(0, 2)]), (42, .ireturn, 1, 0, 0, 0, 0, 0, []), (43, .iload_n 2, 1, 2, 0, 0, 0, 0, []), (44, .iconst 2, 1, 0, 0, 0, 0, 2, []), (45, .if_icmp .ne 20, 3, 65, 0, 0, 0, 0, [])],
  [(48, .aload_n 0, 1, 0, 0, 0, 0, 0, []), (49, .getfield 63, 3, 11, 6, 17, 2, 6, []), (52, .iload_n 1, 1, 1, 0, 0, 0, 0, []), (53, .aload_n 0, 1, 0, 0, 0, 0, 0, []), (54, .getfield 56, 3, 11, 5, 14, 2, 5, []), (57, .iload_n 1, 1, 1, 0, 0, 0, 0, []), (58, .invokevirtual 196, 3, 2, 2, 99, 2, 0, [(0, 6)]), (61, .invokevirtual 256, 3, 3, 3, 117, 0, 0, [(0, 2)])],
  [(64, .ireturn, 1, 0, 0, 0, 0, 0, []), (65, .iload_n 2, 1, 2, 0, 0, 0, 0, []), (66, .iconst 3, 1, 0, 0, 0, 0, 3, []), (67, .if_icmp .ne 36, 3, 103, 0, 0, 0, 0, []), (70, .aload_n 0, 1, 0, 0, 0, 0, 0, []), (71, .getfield 63, 3, 11, 6, 17, 2, 6, []), (74, .getfield 252, 3, 2, 15, 115, 0, 15, []), (77, .aload_n 0, 1, 0, 0, 0, 0, 0, []), (78, .getfield 63, 3, 11, 6, 17, 2, 6, [])],
  [(81, .invokevirtual 253, 3, 1, 1, 116, 0, 0, [(0, 2)]), (84, .isub, 1, 0, 0, 0, 0, 0, []), (85, .aload_n 0, 1, 0, 0, 0, 0, 0, []), (86, .getfield 63, 3, 11, 6, 17, 2, 6, []), (89, .iload_n 1, 1, 1, 0, 0, 0, 0, []), (90, .aload_n 0, 1, 0, 0, 0, 0, 0, []), (91, .getfield 56, 3, 11, 5, 14, 2, 5, []), (94, .iload_n 1, 1, 1, 0, 0, 0, 0, []), (95, .invokevirtual 196, 3, 2, 2, 99, 2, 0, [(0, 6)])],
  [(98, .invokevirtual 256, 3, 3, 3, 117, 0, 0, [(0, 2)]), (101, .isub, 1, 0, 0, 0, 0, 0, []), (102, .ireturn, 1, 0, 0, 0, 0, 0, []), (103, .aload_n 0, 1, 0, 0, 0, 0, 0, []), (104, .getfield 63, 3, 11, 6, 17, 2, 6, []), (107, .iload_n 1, 1, 1, 0, 0, 0, 0, []), (108, .aload_n 0, 1, 0, 0, 0, 0, 0, []), (109, .getfield 56, 3, 11, 5, 14, 2, 5, [])],
  [(112, .iload_n 1, 1, 1, 0, 0, 0, 0, []), (113, .invokevirtual 196, 3, 2, 2, 99, 2, 0, [(0, 6)]), (116, .invokevirtual 260, 3, 4, 3, 118, 0, 0, [(0, 2)]), (119, .ireturn, 1, 0, 0, 0, 0, 0, [])]]
def i_B_mutants : ai_I := ((⟨"SuiteBench", "mutants", "(II)I"⟩, prog_1_method_24_code, 3, (some .int), 0, 6, 143, 0, 2, 0, 11) : ai_I)
def o_B_mutants (a : Nat) : SP := match a with
  | 0 => f_B_isSuite
  | 1 => f_U_equalOnes
  | 2 => f_T_give
  | 3 => f_U_noticedBy
  | 4 => f_U_firstMissedBy
  | _ => fun _ _ _ _ _ => False
theorem mo_B_mutants : ∀ a, ai_mono (o_B_mutants a)
  | 0 => mf_B_isSuite
  | 1 => mf_U_equalOnes
  | 2 => mf_T_give
  | 3 => mf_U_noticedBy
  | 4 => mf_U_firstMissedBy
  | _ + 5 => fun _ _ _ _ _ _ _ h => h
def f_B_mutants : SP := ai_M o_B_mutants 0 3 k_B_mutants
theorem mf_B_mutants : ai_mono f_B_mutants := M_mono mo_B_mutants
abbrev cal_B_mutants : List ai_I := [i_B_isSuite, i_U_equalOnes, i_T_give, i_U_noticedBy, i_U_firstMissedBy]
theorem a_B_mutants : ai_all "SuiteBench" prog_1_method_24_code 3 kc_B cal_B_mutants 6 143 false (some .int) k_B_mutants = true := by decide +kernel
theorem w_B_mutants : ai_CW i_B_mutants := ⟨(tk_mem (l := [((Jvm.Cond.code ({ cls := "SuiteBench", name := "mutants", desc := "(II)I" } : Jvm.MethodName) prog_1_method_24_code (3 : Nat) (Option.some Jvm.ClassFile.FieldType.int)), 5, 102)]) (by decide +kernel) _ (List.mem_singleton.mpr rfl)), (tk_mem (l := [((Jvm.Cond.initialized "SuiteBench"), 1, 1)]) (by decide +kernel) _ (List.mem_singleton.mpr rfl)), ⟨by decide +kernel, by decide +kernel, by decide +kernel⟩, ⟨(tk_mem (l := [((Jvm.Cond.instanceMethod ({ cls := "SuiteBench", name := "mutants", desc := "(II)I" } : Jvm.MethodName)), 5, 100)]) (by decide +kernel) _ (List.mem_singleton.mpr rfl)), (tk_mem (l := [((Jvm.Cond.selects "SuiteBench" ({ cls := "SuiteBench", name := "mutants", desc := "(II)I" } : Jvm.MethodName) ({ cls := "SuiteBench", name := "mutants", desc := "(II)I" } : Jvm.MethodName)), 5, 101)]) (by decide +kernel) _ (List.mem_singleton.mpr rfl)), .inl ⟨_, _, rfl⟩⟩⟩
theorem c_B_mutants {E2 : (Nat → Nat) → State → Heap → Prop} (hE : ai_XH E2) : ai_S E2 i_B_mutants f_B_mutants := snd_M (by decide) rfl (by decide) a_B_mutants kc_B_ok (by rfl) (by decide) (fun a i h => match a, h with
    | 0, h => by cases h; exact ⟨c_B_isSuite hE, w_B_isSuite⟩
    | 1, h => by cases h; exact ⟨c_U_equalOnes hE, w_U_equalOnes⟩
    | 2, h => by cases h; exact ⟨c_T_give hE, w_T_give⟩
    | 3, h => by cases h; exact ⟨c_U_noticedBy hE, w_U_noticedBy⟩
    | 4, h => by cases h; exact ⟨c_U_firstMissedBy hE, w_U_firstMissedBy⟩
    | _ + 5, h => by simp [cal_B_mutants, ai_nth] at h)
def k_N_top : ai_C := [
  [(0, .iconst 1, 1, 0, 0, 0, 0, 1, []), (1, .istore_n 1, 1, 1, 0, 0, 0, 0, []), (2, .iconst 0, 1, 0, 0, 0, 0, 0, []), (3, .istore_n 2, 1, 2, 0, 0, 0, 0, []), (4, .iload_n 2, 1, 2, 0, 0, 0, 0, []), (5, .aload_n 0, 1, 0, 0, 0, 0, 0, []), (6, .invokevirtual 272, 3, 0, 1, 2, 0, 0, [(0, 12)]), (9, .if_icmp .ge 52, 3, 61, 0, 0, 0, 0, []), (12, .iconst 0, 1, 0, 0, 0, 0, 0, []), (13, .istore_n 3, 1, 3, 0, 0, 0, 0, []), (14, .iload_n 3, 1, 3, 0, 0, 0, 0, []), (15, .aload_n 0, 1, 0, 0, 0, 0, 0, [])],
  [(16, .invokevirtual 269, 3, 1, 1, 3, 0, 0, [(0, 12)]), (19, .if_icmp .ge 36, 3, 55, 0, 0, 0, 0, []), (22, .aload_n 0, 1, 0, 0, 0, 0, 0, []), (23, .getfield 41, 3, 12, 21, 10, 2, 21, []), (26, .iconst 0, 1, 0, 0, 0, 0, 0, []), (27, .iconst 3, 1, 0, 0, 0, 0, 3, []), (28, .iload_n 2, 1, 2, 0, 0, 0, 0, []), (29, .imul, 1, 0, 0, 0, 0, 0, []), (30, .iadd, 1, 0, 0, 0, 0, 0, []), (31, .iload_n 3, 1, 3, 0, 0, 0, 0, [])],
  [(32, .iadd, 1, 0, 0, 0, 0, 0, []), (33, .iaload, 1, 0, 0, 0, 0, 0, []), (34, .istore 4, 2, 4, 0, 0, 0, 0, []), (36, .iload 4, 2, 4, 0, 0, 0, 0, []), (38, .iload_n 1, 1, 1, 0, 0, 0, 0, []), (39, .if_icmp .le 8, 3, 47, 0, 0, 0, 0, []), (42, .iload 4, 2, 4, 0, 0, 0, 0, []), (44, .goto 4, 3, 48, 0, 0, 0, 0, []), (47, .iload_n 1, 1, 1, 0, 0, 0, 0, [])],
  [(48, .istore_n 1, 1, 1, 0, 0, 0, 0, []), (49, .iinc 3 1, 3, 3, 0, 0, 0, 1, []), (52, .goto (-38), 3, 14, 0, 0, 0, 0, []), (55, .iinc 2 1, 3, 2, 0, 0, 0, 1, []), (58, .goto (-54), 3, 4, 0, 0, 0, 0, []), (61, .iload_n 1, 1, 1, 0, 0, 0, 0, []), (62, .ireturn, 1, 0, 0, 0, 0, 0, [])]]
def i_N_top : ai_I := ((⟨"SuiteBenchModel", "top", "()I"⟩, prog_14_method_92_code, 5, (some .int), 0, 1, 20, 0, 0, 0, 12) : ai_I)
def o_N_top (a : Nat) : SP := match a with
  | 0 => f_N_states
  | 1 => f_N_inputs
  | _ => fun _ _ _ _ _ => False
theorem mo_N_top : ∀ a, ai_mono (o_N_top a)
  | 0 => mf_N_states
  | 1 => mf_N_inputs
  | _ + 2 => fun _ _ _ _ _ _ _ h => h
def f_N_top : SP := ai_M o_N_top 0 5 k_N_top
theorem mf_N_top : ai_mono f_N_top := M_mono mo_N_top
abbrev cal_N_top : List ai_I := [i_N_states, i_N_inputs]
theorem a_N_top : ai_all "SuiteBenchModel" prog_14_method_92_code 5 kc_N cal_N_top 1 20 false (some .int) k_N_top = true := by decide +kernel
theorem w_N_top : ai_CW i_N_top := ⟨(tk_mem (l := [((Jvm.Cond.code ({ cls := "SuiteBenchModel", name := "top", desc := "()I" } : Jvm.MethodName) prog_14_method_92_code (5 : Nat) (Option.some Jvm.ClassFile.FieldType.int)), 9, 184)]) (by decide +kernel) _ (List.mem_singleton.mpr rfl)), (tk_mem (l := [((Jvm.Cond.initialized "SuiteBenchModel"), 1, 15)]) (by decide +kernel) _ (List.mem_singleton.mpr rfl)), ⟨by decide +kernel, by decide +kernel, by decide +kernel⟩, ⟨(tk_mem (l := [((Jvm.Cond.instanceMethod ({ cls := "SuiteBenchModel", name := "top", desc := "()I" } : Jvm.MethodName)), 9, 183)]) (by decide +kernel) _ (List.mem_singleton.mpr rfl)), gw_sel 126 (by decide +kernel), .inl ⟨_, _, rfl⟩⟩⟩
theorem c_N_top {E2 : (Nat → Nat) → State → Heap → Prop} (hE : ai_XH E2) : ai_S E2 i_N_top f_N_top := snd_M (by decide) rfl (by decide) a_N_top kc_N_ok (by rfl) (by decide) (fun a i h => match a, h with
    | 0, h => by cases h; exact ⟨c_N_states hE, w_N_states⟩
    | 1, h => by cases h; exact ⟨c_N_inputs hE, w_N_inputs⟩
    | _ + 2, h => by simp [cal_N_top, ai_nth] at h)
def k_N_mutantMany : ai_C := [
  [(0, .aload_n 0, 1, 0, 0, 0, 0, 0, []), (1, .invokevirtual 272, 3, 0, 1, 2, 0, 0, [(0, 12)]), (4, .ifCond .ne 7, 3, 11, 0, 0, 0, 0, []), (7, .iconst 0, 1, 0, 0, 0, 0, 0, []), (8, .goto 24, 3, 32, 0, 0, 0, 0, []), (11, .aload_n 0, 1, 0, 0, 0, 0, 0, []), (12, .getfield 328, 3, 12, 23, 5, 0, 23, []), (15, .aload_n 0, 1, 0, 0, 0, 0, 0, [])],
  [(16, .invokevirtual 269, 3, 1, 1, 3, 0, 0, [(0, 12)]), (19, .imul, 1, 0, 0, 0, 0, 0, []), (20, .aload_n 0, 1, 0, 0, 0, 0, 0, []), (21, .invokevirtual 272, 3, 0, 1, 2, 0, 0, [(0, 12)]), (24, .iconst 1, 1, 0, 0, 0, 0, 1, []), (25, .isub, 1, 0, 0, 0, 0, 0, []), (26, .aload_n 0, 1, 0, 0, 0, 0, 0, []), (27, .invokevirtual 431, 3, 2, 1, 139, 0, 0, [(0, 12)]), (30, .iadd, 1, 0, 0, 0, 0, 0, []), (31, .imul, 1, 0, 0, 0, 0, 0, [])],
  [(32, .ireturn, 1, 0, 0, 0, 0, 0, [])]]
def i_N_mutantMany : ai_I := ((⟨"SuiteBenchModel", "mutantMany", "()I"⟩, prog_14_method_93_code, 1, (some .int), 0, 2, 44, 0, 0, 0, 12) : ai_I)
def o_N_mutantMany (a : Nat) : SP := match a with
  | 0 => f_N_states
  | 1 => f_N_inputs
  | 2 => f_N_top
  | _ => fun _ _ _ _ _ => False
theorem mo_N_mutantMany : ∀ a, ai_mono (o_N_mutantMany a)
  | 0 => mf_N_states
  | 1 => mf_N_inputs
  | 2 => mf_N_top
  | _ + 3 => fun _ _ _ _ _ _ _ h => h
def f_N_mutantMany : SP := ai_M o_N_mutantMany 0 1 k_N_mutantMany
theorem mf_N_mutantMany : ai_mono f_N_mutantMany := M_mono mo_N_mutantMany
abbrev cal_N_mutantMany : List ai_I := [i_N_states, i_N_inputs, i_N_top]
theorem a_N_mutantMany : ai_all "SuiteBenchModel" prog_14_method_93_code 1 kc_N cal_N_mutantMany 2 44 false (some .int) k_N_mutantMany = true := by decide +kernel
theorem w_N_mutantMany : ai_CW i_N_mutantMany := ⟨(tk_mem (l := [((Jvm.Cond.code ({ cls := "SuiteBenchModel", name := "mutantMany", desc := "()I" } : Jvm.MethodName) prog_14_method_93_code (1 : Nat) (Option.some Jvm.ClassFile.FieldType.int)), 9, 180)]) (by decide +kernel) _ (List.mem_singleton.mpr rfl)), (tk_mem (l := [((Jvm.Cond.initialized "SuiteBenchModel"), 1, 15)]) (by decide +kernel) _ (List.mem_singleton.mpr rfl)), ⟨by decide +kernel, by decide +kernel, by decide +kernel⟩, ⟨(tk_mem (l := [((Jvm.Cond.instanceMethod ({ cls := "SuiteBenchModel", name := "mutantMany", desc := "()I" } : Jvm.MethodName)), 9, 179)]) (by decide +kernel) _ (List.mem_singleton.mpr rfl)), gw_sel 125 (by decide +kernel), .inl ⟨_, _, rfl⟩⟩⟩
theorem c_N_mutantMany {E2 : (Nat → Nat) → State → Heap → Prop} (hE : ai_XH E2) : ai_S E2 i_N_mutantMany f_N_mutantMany := snd_M (by decide) rfl (by decide) a_N_mutantMany kc_N_ok (by rfl) (by decide) (fun a i h => match a, h with
    | 0, h => by cases h; exact ⟨c_N_states hE, w_N_states⟩
    | 1, h => by cases h; exact ⟨c_N_inputs hE, w_N_inputs⟩
    | 2, h => by cases h; exact ⟨c_N_top hE, w_N_top⟩
    | _ + 3, h => by simp [cal_N_mutantMany, ai_nth] at h)
def k_N_tellsMutant : ai_C := [
  [(0, .aload_n 0, 1, 0, 0, 0, 0, 0, []), (1, .invokevirtual 272, 3, 0, 1, 2, 0, 0, [(0, 12)]), (4, .iconst 1, 1, 0, 0, 0, 0, 1, []), (5, .isub, 1, 0, 0, 0, 0, 0, []), (6, .aload_n 0, 1, 0, 0, 0, 0, 0, []), (7, .invokevirtual 431, 3, 1, 1, 139, 0, 0, [(0, 12)]), (10, .iadd, 1, 0, 0, 0, 0, 0, []), (11, .istore_n 2, 1, 2, 0, 0, 0, 0, []), (12, .iload_n 1, 1, 1, 0, 0, 0, 0, []), (13, .iload_n 2, 1, 2, 0, 0, 0, 0, []), (14, .idiv, 1, 0, 0, 0, 0, 0, []), (15, .aload_n 0, 1, 0, 0, 0, 0, 0, [])],
  [(16, .invokevirtual 269, 3, 2, 1, 3, 0, 0, [(0, 12)]), (19, .idiv, 1, 0, 0, 0, 0, 0, []), (20, .istore_n 3, 1, 3, 0, 0, 0, 0, []), (21, .aload_n 0, 1, 0, 0, 0, 0, 0, []), (22, .iconst 0, 1, 0, 0, 0, 0, 0, []), (23, .putfield 434, 3, 12, 43, 140, 0, 43, []), (26, .aload_n 0, 1, 0, 0, 0, 0, 0, []), (27, .aload_n 0, 1, 0, 0, 0, 0, 0, []), (28, .getfield 434, 3, 12, 43, 140, 0, 43, []), (31, .invokevirtual 331, 3, 3, 2, 6, 0, 0, [(0, 12)])],
  [(34, .ifCond .eq 7, 3, 41, 0, 0, 0, 0, []), (37, .iload_n 3, 1, 3, 0, 0, 0, 0, []), (38, .ifCond .le 35, 3, 73, 0, 0, 0, 0, []), (41, .iload_n 3, 1, 3, 0, 0, 0, 0, []), (42, .aload_n 0, 1, 0, 0, 0, 0, 0, []), (43, .aload_n 0, 1, 0, 0, 0, 0, 0, []), (44, .getfield 434, 3, 12, 43, 140, 0, 43, []), (47, .invokevirtual 331, 3, 3, 2, 6, 0, 0, [(0, 12)])],
  [(50, .ifCond .eq 7, 3, 57, 0, 0, 0, 0, []), (53, .iconst 1, 1, 0, 0, 0, 0, 1, []), (54, .goto 4, 3, 58, 0, 0, 0, 0, []), (57, .iconst 0, 1, 0, 0, 0, 0, 0, []), (58, .isub, 1, 0, 0, 0, 0, 0, []), (59, .istore_n 3, 1, 3, 0, 0, 0, 0, []), (60, .aload_n 0, 1, 0, 0, 0, 0, 0, []), (61, .dup, 1, 0, 0, 0, 0, 0, []), (62, .getfield 434, 3, 12, 43, 140, 0, 43, [])],
  [(65, .iconst 1, 1, 0, 0, 0, 0, 1, []), (66, .iadd, 1, 0, 0, 0, 0, 0, []), (67, .putfield 434, 3, 12, 43, 140, 0, 43, []), (70, .goto (-44), 3, 26, 0, 0, 0, 0, []), (73, .aload_n 0, 1, 0, 0, 0, 0, 0, []), (74, .iload_n 1, 1, 1, 0, 0, 0, 0, []), (75, .iload_n 2, 1, 2, 0, 0, 0, 0, []), (76, .idiv, 1, 0, 0, 0, 0, 0, []), (77, .aload_n 0, 1, 0, 0, 0, 0, 0, []), (78, .invokevirtual 269, 3, 2, 1, 3, 0, 0, [(0, 12)])],
  [(81, .irem, 1, 0, 0, 0, 0, 0, []), (82, .putfield 437, 3, 12, 44, 141, 0, 44, []), (85, .iconst 0, 1, 0, 0, 0, 0, 0, []), (86, .iconst 3, 1, 0, 0, 0, 0, 3, []), (87, .aload_n 0, 1, 0, 0, 0, 0, 0, []), (88, .getfield 434, 3, 12, 43, 140, 0, 43, []), (91, .imul, 1, 0, 0, 0, 0, 0, []), (92, .iadd, 1, 0, 0, 0, 0, 0, []), (93, .aload_n 0, 1, 0, 0, 0, 0, 0, []), (94, .getfield 437, 3, 12, 44, 141, 0, 44, [])],
  [(97, .iadd, 1, 0, 0, 0, 0, 0, []), (98, .istore 4, 2, 4, 0, 0, 0, 0, []), (100, .iload_n 1, 1, 1, 0, 0, 0, 0, []), (101, .iload_n 2, 1, 2, 0, 0, 0, 0, []), (102, .irem, 1, 0, 0, 0, 0, 0, []), (103, .istore 5, 2, 5, 0, 0, 0, 0, []), (105, .aload_n 0, 1, 0, 0, 0, 0, 0, []), (106, .aload_n 0, 1, 0, 0, 0, 0, 0, []), (107, .getfield 38, 3, 12, 20, 4, 2, 20, []), (110, .iload 4, 2, 4, 0, 0, 0, 0, [])],
  [(112, .iaload, 1, 0, 0, 0, 0, 0, []), (113, .putfield 440, 3, 12, 45, 142, 0, 45, []), (116, .aload_n 0, 1, 0, 0, 0, 0, 0, []), (117, .aload_n 0, 1, 0, 0, 0, 0, 0, []), (118, .getfield 41, 3, 12, 21, 10, 2, 21, []), (121, .iload 4, 2, 4, 0, 0, 0, 0, []), (123, .iaload, 1, 0, 0, 0, 0, 0, []), (124, .putfield 443, 3, 12, 46, 143, 0, 46, []), (127, .iload 5, 2, 5, 0, 0, 0, 0, [])],
  [(129, .aload_n 0, 1, 0, 0, 0, 0, 0, []), (130, .invokevirtual 272, 3, 0, 1, 2, 0, 0, [(0, 12)]), (133, .iconst 1, 1, 0, 0, 0, 0, 1, []), (134, .isub, 1, 0, 0, 0, 0, 0, []), (135, .if_icmp .ge 31, 3, 166, 0, 0, 0, 0, []), (138, .aload_n 0, 1, 0, 0, 0, 0, 0, []), (139, .iload 5, 2, 5, 0, 0, 0, 0, []), (141, .aload_n 0, 1, 0, 0, 0, 0, 0, []), (142, .getfield 38, 3, 12, 20, 4, 2, 20, [])],
  [(145, .iload 4, 2, 4, 0, 0, 0, 0, []), (147, .iaload, 1, 0, 0, 0, 0, 0, []), (148, .if_icmp .ge 8, 3, 156, 0, 0, 0, 0, []), (151, .iload 5, 2, 5, 0, 0, 0, 0, []), (153, .goto 7, 3, 160, 0, 0, 0, 0, []), (156, .iload 5, 2, 5, 0, 0, 0, 0, []), (158, .iconst 1, 1, 0, 0, 0, 0, 1, []), (159, .iadd, 1, 0, 0, 0, 0, 0, [])],
  [(160, .putfield 440, 3, 12, 45, 142, 0, 45, []), (163, .goto 47, 3, 210, 0, 0, 0, 0, []), (166, .aload_n 0, 1, 0, 0, 0, 0, 0, []), (167, .iload 5, 2, 5, 0, 0, 0, 0, []), (169, .aload_n 0, 1, 0, 0, 0, 0, 0, []), (170, .invokevirtual 272, 3, 0, 1, 2, 0, 0, [(0, 12)]), (173, .isub, 1, 0, 0, 0, 0, 0, []), (174, .iconst 1, 1, 0, 0, 0, 0, 1, []), (175, .iadd, 1, 0, 0, 0, 0, 0, [])],
  [(176, .aload_n 0, 1, 0, 0, 0, 0, 0, []), (177, .getfield 41, 3, 12, 21, 10, 2, 21, []), (180, .iload 4, 2, 4, 0, 0, 0, 0, []), (182, .iaload, 1, 0, 0, 0, 0, 0, []), (183, .if_icmp .ge 15, 3, 198, 0, 0, 0, 0, []), (186, .iload 5, 2, 5, 0, 0, 0, 0, []), (188, .aload_n 0, 1, 0, 0, 0, 0, 0, []), (189, .invokevirtual 272, 3, 0, 1, 2, 0, 0, [(0, 12)])],
  [(192, .isub, 1, 0, 0, 0, 0, 0, []), (193, .iconst 1, 1, 0, 0, 0, 0, 1, []), (194, .iadd, 1, 0, 0, 0, 0, 0, []), (195, .goto 12, 3, 207, 0, 0, 0, 0, []), (198, .iload 5, 2, 5, 0, 0, 0, 0, []), (200, .aload_n 0, 1, 0, 0, 0, 0, 0, []), (201, .invokevirtual 272, 3, 0, 1, 2, 0, 0, [(0, 12)]), (204, .isub, 1, 0, 0, 0, 0, 0, []), (205, .iconst 2, 1, 0, 0, 0, 0, 2, []), (206, .iadd, 1, 0, 0, 0, 0, 0, []), (207, .putfield 443, 3, 12, 46, 143, 0, 46, [])],
  [(210, .return_, 1, 0, 0, 0, 0, 0, [])]]
def i_N_tellsMutant : ai_I := ((⟨"SuiteBenchModel", "tellsMutant", "(I)V"⟩, prog_14_method_94_code, 6, none, 9, 2, 44, 0, 1, 0, 12) : ai_I)
def o_N_tellsMutant (a : Nat) : SP := match a with
  | 0 => f_N_states
  | 1 => f_N_top
  | 2 => f_N_inputs
  | 3 => f_N_isReached
  | _ => fun _ _ _ _ _ => False
theorem mo_N_tellsMutant : ∀ a, ai_mono (o_N_tellsMutant a)
  | 0 => mf_N_states
  | 1 => mf_N_top
  | 2 => mf_N_inputs
  | 3 => mf_N_isReached
  | _ + 4 => fun _ _ _ _ _ _ _ h => h
def f_N_tellsMutant : SP := ai_M o_N_tellsMutant 0 6 k_N_tellsMutant
theorem mf_N_tellsMutant : ai_mono f_N_tellsMutant := M_mono mo_N_tellsMutant
abbrev cal_N_tellsMutant : List ai_I := [i_N_states, i_N_top, i_N_inputs, i_N_isReached]
theorem a_N_tellsMutant : ai_all "SuiteBenchModel" prog_14_method_94_code 6 kc_N cal_N_tellsMutant 2 44 false none k_N_tellsMutant = true := by decide +kernel
theorem w_N_tellsMutant : ai_CW i_N_tellsMutant := ⟨(tk_mem (l := [((Jvm.Cond.code ({ cls := "SuiteBenchModel", name := "tellsMutant", desc := "(I)V" } : Jvm.MethodName) prog_14_method_94_code (6 : Nat) (Option.none : Option Jvm.ClassFile.FieldType)), 9, 196)]) (by decide +kernel) _ (List.mem_singleton.mpr rfl)), (tk_mem (l := [((Jvm.Cond.initialized "SuiteBenchModel"), 1, 15)]) (by decide +kernel) _ (List.mem_singleton.mpr rfl)), ⟨by decide +kernel, by decide +kernel, by decide +kernel⟩, ⟨(tk_mem (l := [((Jvm.Cond.instanceMethod ({ cls := "SuiteBenchModel", name := "tellsMutant", desc := "(I)V" } : Jvm.MethodName)), 9, 195)]) (by decide +kernel) _ (List.mem_singleton.mpr rfl)), gw_sel 129 (by decide +kernel), .inl ⟨_, _, rfl⟩⟩⟩
theorem c_N_tellsMutant {E2 : (Nat → Nat) → State → Heap → Prop} (hE : ai_XH E2) : ai_S E2 i_N_tellsMutant f_N_tellsMutant := snd_M (by decide) rfl (by decide) a_N_tellsMutant kc_N_ok (by rfl) (by decide) (fun a i h => match a, h with
    | 0, h => by cases h; exact ⟨c_N_states hE, w_N_states⟩
    | 1, h => by cases h; exact ⟨c_N_top hE, w_N_top⟩
    | 2, h => by cases h; exact ⟨c_N_inputs hE, w_N_inputs⟩
    | 3, h => by cases h; exact ⟨c_N_isReached hE, w_N_isReached⟩
    | _ + 4, h => by simp [cal_N_tellsMutant, ai_nth] at h)
def k_N_laysMutant : ai_C := [
  [(0, .iconst 0, 1, 0, 0, 0, 0, 0, []), (1, .istore_n 3, 1, 3, 0, 0, 0, 0, []), (2, .iload_n 3, 1, 3, 0, 0, 0, 0, []), (3, .bipush 24, 2, 0, 0, 0, 0, 24, []), (5, .if_icmp .ge 41, 3, 46, 0, 0, 0, 0, []), (8, .aload_n 0, 1, 0, 0, 0, 0, 0, []), (9, .getfield 38, 3, 12, 20, 4, 2, 20, []), (12, .iload_n 2, 1, 2, 0, 0, 0, 0, []), (13, .iload_n 3, 1, 3, 0, 0, 0, 0, []), (14, .iadd, 1, 0, 0, 0, 0, 0, []), (15, .aload_n 0, 1, 0, 0, 0, 0, 0, [])],
  [(16, .getfield 38, 3, 12, 20, 4, 2, 20, []), (19, .iconst 0, 1, 0, 0, 0, 0, 0, []), (20, .iload_n 3, 1, 3, 0, 0, 0, 0, []), (21, .iadd, 1, 0, 0, 0, 0, 0, []), (22, .iaload, 1, 0, 0, 0, 0, 0, []), (23, .iastore, 1, 0, 0, 0, 0, 0, []), (24, .aload_n 0, 1, 0, 0, 0, 0, 0, []), (25, .getfield 41, 3, 12, 21, 10, 2, 21, []), (28, .iload_n 2, 1, 2, 0, 0, 0, 0, []), (29, .iload_n 3, 1, 3, 0, 0, 0, 0, []), (30, .iadd, 1, 0, 0, 0, 0, 0, []), (31, .aload_n 0, 1, 0, 0, 0, 0, 0, [])],
  [(32, .getfield 41, 3, 12, 21, 10, 2, 21, []), (35, .iconst 0, 1, 0, 0, 0, 0, 0, []), (36, .iload_n 3, 1, 3, 0, 0, 0, 0, []), (37, .iadd, 1, 0, 0, 0, 0, 0, []), (38, .iaload, 1, 0, 0, 0, 0, 0, []), (39, .iastore, 1, 0, 0, 0, 0, 0, []), (40, .iinc 3 1, 3, 3, 0, 0, 0, 1, []), (43, .goto (-41), 3, 2, 0, 0, 0, 0, []), (46, .aload_n 0, 1, 0, 0, 0, 0, 0, []), (47, .iload_n 1, 1, 1, 0, 0, 0, 0, [])],
  [(48, .invokevirtual 446, 3, 0, 2, 144, 9, 0, [(0, 12)]), (51, .aload_n 0, 1, 0, 0, 0, 0, 0, []), (52, .getfield 38, 3, 12, 20, 4, 2, 20, []), (55, .iload_n 2, 1, 2, 0, 0, 0, 0, []), (56, .iconst 3, 1, 0, 0, 0, 0, 3, []), (57, .aload_n 0, 1, 0, 0, 0, 0, 0, []), (58, .getfield 434, 3, 12, 43, 140, 0, 43, []), (61, .imul, 1, 0, 0, 0, 0, 0, []), (62, .iadd, 1, 0, 0, 0, 0, 0, []), (63, .aload_n 0, 1, 0, 0, 0, 0, 0, [])],
  [(64, .getfield 437, 3, 12, 44, 141, 0, 44, []), (67, .iadd, 1, 0, 0, 0, 0, 0, []), (68, .aload_n 0, 1, 0, 0, 0, 0, 0, []), (69, .getfield 440, 3, 12, 45, 142, 0, 45, []), (72, .iastore, 1, 0, 0, 0, 0, 0, []), (73, .aload_n 0, 1, 0, 0, 0, 0, 0, []), (74, .getfield 41, 3, 12, 21, 10, 2, 21, []), (77, .iload_n 2, 1, 2, 0, 0, 0, 0, []), (78, .iconst 3, 1, 0, 0, 0, 0, 3, []), (79, .aload_n 0, 1, 0, 0, 0, 0, 0, [])],
  [(80, .getfield 434, 3, 12, 43, 140, 0, 43, []), (83, .imul, 1, 0, 0, 0, 0, 0, []), (84, .iadd, 1, 0, 0, 0, 0, 0, []), (85, .aload_n 0, 1, 0, 0, 0, 0, 0, []), (86, .getfield 437, 3, 12, 44, 141, 0, 44, []), (89, .iadd, 1, 0, 0, 0, 0, 0, []), (90, .aload_n 0, 1, 0, 0, 0, 0, 0, []), (91, .getfield 443, 3, 12, 46, 143, 0, 46, []), (94, .iastore, 1, 0, 0, 0, 0, 0, []), (95, .return_, 1, 0, 0, 0, 0, 0, [])]]
def i_N_laysMutant : ai_I := ((⟨"SuiteBenchModel", "laysMutant", "(II)V"⟩, prog_14_method_95_code, 4, none, 9, 3, 69, 0, 2, 0, 12) : ai_I)
def o_N_laysMutant (a : Nat) : SP := match a with
  | 0 => f_N_tellsMutant
  | _ => fun _ _ _ _ _ => False
theorem mo_N_laysMutant : ∀ a, ai_mono (o_N_laysMutant a)
  | 0 => mf_N_tellsMutant
  | _ + 1 => fun _ _ _ _ _ _ _ h => h
def f_N_laysMutant : SP := ai_M o_N_laysMutant 0 4 k_N_laysMutant
theorem mf_N_laysMutant : ai_mono f_N_laysMutant := M_mono mo_N_laysMutant
abbrev cal_N_laysMutant : List ai_I := [i_N_tellsMutant]
theorem a_N_laysMutant : ai_all "SuiteBenchModel" prog_14_method_95_code 4 kc_N cal_N_laysMutant 3 69 false none k_N_laysMutant = true := by decide +kernel
theorem w_N_laysMutant : ai_CW i_N_laysMutant := ⟨(tk_mem (l := [((Jvm.Cond.code ({ cls := "SuiteBenchModel", name := "laysMutant", desc := "(II)V" } : Jvm.MethodName) prog_14_method_95_code (4 : Nat) (Option.none : Option Jvm.ClassFile.FieldType)), 9, 192)]) (by decide +kernel) _ (List.mem_singleton.mpr rfl)), (tk_mem (l := [((Jvm.Cond.initialized "SuiteBenchModel"), 1, 15)]) (by decide +kernel) _ (List.mem_singleton.mpr rfl)), ⟨by decide +kernel, by decide +kernel, by decide +kernel⟩, ⟨(tk_mem (l := [((Jvm.Cond.instanceMethod ({ cls := "SuiteBenchModel", name := "laysMutant", desc := "(II)V" } : Jvm.MethodName)), 9, 191)]) (by decide +kernel) _ (List.mem_singleton.mpr rfl)), gw_sel 128 (by decide +kernel), .inl ⟨_, _, rfl⟩⟩⟩
theorem c_N_laysMutant {E2 : (Nat → Nat) → State → Heap → Prop} (hE : ai_XH E2) : ai_S E2 i_N_laysMutant f_N_laysMutant := snd_M (by decide) rfl (by decide) a_N_laysMutant kc_N_ok (by rfl) (by decide) (fun a i h => match a, h with
    | 0, h => by cases h; exact ⟨c_N_tellsMutant hE, w_N_tellsMutant⟩
    | _ + 1, h => by simp [cal_N_laysMutant, ai_nth] at h)
