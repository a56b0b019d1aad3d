/-! the code of the methods, by program; what it rests on, looked at; the contracts -/
def k_M_part : ai_C := [
  [(0, .iload_n 1, 1, 1, 0, 0, 0, 0, []), (1, .iconst 3, 1, 0, 0, 0, 0, 3, []), (2, .imul, 1, 0, 0, 0, 0, 0, []), (3, .iload_n 2, 1, 2, 0, 0, 0, 0, []), (4, .iadd, 1, 0, 0, 0, 0, 0, []), (5, .istore 4, 2, 4, 0, 0, 0, 0, []), (7, .iload_n 3, 1, 3, 0, 0, 0, 0, []), (8, .ifCond .ne 13, 3, 21, 0, 0, 0, 0, []), (11, .aload_n 0, 1, 0, 0, 0, 0, 0, []), (12, .getfield 9, 3, 1, 0, 2, 2, 0, []), (15, .iload 4, 2, 4, 0, 0, 0, 0, [])],
  [(17, .iaload, 1, 0, 0, 0, 0, 0, []), (18, .goto 10, 3, 28, 0, 0, 0, 0, []), (21, .aload_n 0, 1, 0, 0, 0, 0, 0, []), (22, .getfield 15, 3, 1, 1, 3, 2, 1, []), (25, .iload 4, 2, 4, 0, 0, 0, 0, []), (27, .iaload, 1, 0, 0, 0, 0, 0, []), (28, .ireturn, 1, 0, 0, 0, 0, 0, [])]]
def i_M_part : ai_I := ((⟨"SuiteBench$Machine", "part", "(III)I"⟩, prog_3_method_5_code, 5, (some .int), 0, 0, 0, 0, 3, 0, 1) : ai_I)
def o_M_part (_ : Nat) : SP := fun _ _ _ _ _ => False
theorem mo_M_part : ∀ a, ai_mono (o_M_part a) := fun _ _ _ _ _ _ _ _ h => h
def f_M_part : SP := ai_M o_M_part 0 5 k_M_part
theorem mf_M_part : ai_mono f_M_part := M_mono mo_M_part
abbrev cal_M_part : List ai_I := []
theorem a_M_part : ai_all "SuiteBench$Machine" prog_3_method_5_code 5 kc_M cal_M_part 0 0 false (some .int) k_M_part = true := by decide +kernel
theorem w_M_part : ai_CW i_M_part := ⟨(tk_mem (l := [((Jvm.Cond.code ({ cls := "SuiteBench$Machine", name := "part", desc := "(III)I" } : Jvm.MethodName) prog_3_method_5_code (5 : Nat) (Option.some Jvm.ClassFile.FieldType.int)), 4, 117)]) (by decide +kernel) _ (List.mem_singleton.mpr rfl)), (tk_mem (l := [((Jvm.Cond.initialized "SuiteBench$Machine"), 1, 5)]) (by decide +kernel) _ (List.mem_singleton.mpr rfl)), ⟨by decide +kernel, by decide +kernel, by decide +kernel⟩, ⟨(tk_mem (l := [((Jvm.Cond.instanceMethod ({ cls := "SuiteBench$Machine", name := "part", desc := "(III)I" } : Jvm.MethodName)), 4, 115)]) (by decide +kernel) _ (List.mem_singleton.mpr rfl)), (tk_mem (l := [((Jvm.Cond.selects "SuiteBench$Machine" ({ cls := "SuiteBench$Machine", name := "part", desc := "(III)I" } : Jvm.MethodName) ({ cls := "SuiteBench$Machine", name := "part", desc := "(III)I" } : Jvm.MethodName)), 4, 116)]) (by decide +kernel) _ (List.mem_singleton.mpr rfl)), .inl ⟨_, _, rfl⟩⟩⟩
theorem c_M_part {E2 : (Nat → Nat) → State → Heap → Prop} (hE : ai_XH E2) : ai_S E2 i_M_part f_M_part := snd_M (by decide) rfl (by decide) a_M_part kc_M_ok (by rfl) (by decide) (fun a i h => by simp [cal_M_part, ai_nth] at h)
def k_B_built : ai_C := [
  [(0, .aload_n 0, 1, 0, 0, 0, 0, 0, []), (1, .getfield 30, 3, 11, 2, 7, 2, 2, []), (4, .iload_n 1, 1, 1, 0, 0, 0, 0, []), (5, .iload_n 2, 1, 2, 0, 0, 0, 0, []), (6, .invokevirtual 127, 3, 0, 3, 78, 0, 0, [(0, 1)]), (9, .ifCond .eq 12, 3, 21, 0, 0, 0, 0, []), (12, .iload_n 3, 1, 3, 0, 0, 0, 0, []), (13, .ifCond .lt 8, 3, 21, 0, 0, 0, 0, [])],
  [(16, .iload_n 3, 1, 3, 0, 0, 0, 0, []), (17, .iconst 1, 1, 0, 0, 0, 0, 1, []), (18, .if_icmp .le 5, 3, 23, 0, 0, 0, 0, []), (21, .iconst (-1), 1, 0, 0, 0, 0, (-1), []), (22, .ireturn, 1, 0, 0, 0, 0, 0, []), (23, .aload_n 0, 1, 0, 0, 0, 0, 0, []), (24, .getfield 30, 3, 11, 2, 7, 2, 2, []), (27, .iload_n 1, 1, 1, 0, 0, 0, 0, []), (28, .iload_n 2, 1, 2, 0, 0, 0, 0, []), (29, .iload_n 3, 1, 3, 0, 0, 0, 0, []), (30, .invokevirtual 143, 3, 1, 4, 79, 0, 0, [(0, 1)])],
  [(33, .ireturn, 1, 0, 0, 0, 0, 0, [])]]
def i_B_built : ai_I := ((⟨"SuiteBench", "built", "(III)I"⟩, prog_1_method_7_code, 4, (some .int), 0, 1, 24, 0, 3, 0, 11) : ai_I)
def o_B_built (a : Nat) : SP := match a with
  | 0 => f_M_has
  | 1 => f_M_part
  | _ => fun _ _ _ _ _ => False
theorem mo_B_built : ∀ a, ai_mono (o_B_built a)
  | 0 => mf_M_has
  | 1 => mf_M_part
  | _ + 2 => fun _ _ _ _ _ _ _ h => h
def f_B_built : SP := ai_M o_B_built 0 4 k_B_built
theorem mf_B_built : ai_mono f_B_built := M_mono mo_B_built
abbrev cal_B_built : List ai_I := [i_M_has, i_M_part]
theorem a_B_built : ai_all "SuiteBench" prog_1_method_7_code 4 kc_B cal_B_built 1 24 false (some .int) k_B_built = true := by decide +kernel
theorem w_B_built : ai_CW i_B_built := ⟨(tk_mem (l := [((Jvm.Cond.code ({ cls := "SuiteBench", name := "built", desc := "(III)I" } : Jvm.MethodName) prog_1_method_7_code (4 : Nat) (Option.some Jvm.ClassFile.FieldType.int)), 4, 109)]) (by decide +kernel) _ (List.mem_singleton.mpr rfl)), (tk_mem (l := [((Jvm.Cond.initialized "SuiteBench"), 1, 1)]) (by decide +kernel) _ (List.mem_singleton.mpr rfl)), ⟨by decide +kernel, by decide +kernel, by decide +kernel⟩, ⟨(tk_mem (l := [((Jvm.Cond.instanceMethod ({ cls := "SuiteBench", name := "built", desc := "(III)I" } : Jvm.MethodName)), 4, 107)]) (by decide +kernel) _ (List.mem_singleton.mpr rfl)), (tk_mem (l := [((Jvm.Cond.selects "SuiteBench" ({ cls := "SuiteBench", name := "built", desc := "(III)I" } : Jvm.MethodName) ({ cls := "SuiteBench", name := "built", desc := "(III)I" } : Jvm.MethodName)), 4, 108)]) (by decide +kernel) _ (List.mem_singleton.mpr rfl)), .inl ⟨_, _, rfl⟩⟩⟩
theorem c_B_built {E2 : (Nat → Nat) → State → Heap → Prop} (hE : ai_XH E2) : ai_S E2 i_B_built f_B_built := snd_M (by decide) rfl (by decide) a_B_built kc_B_ok (by rfl) (by decide) (fun a i h => match a, h with
    | 0, h => by cases h; exact ⟨c_M_has hE, w_M_has⟩
    | 1, h => by cases h; exact ⟨c_M_part hE, w_M_part⟩
    | _ + 2, h => by simp [cal_B_built, ai_nth] at h)
def k_N_isPlace : ai_C := [
  [(0, .iload_n 1, 1, 1, 0, 0, 0, 0, []), (1, .ifCond .lt 15, 3, 16, 0, 0, 0, 0, []), (4, .iload_n 1, 1, 1, 0, 0, 0, 0, []), (5, .aload_n 0, 1, 0, 0, 0, 0, 0, []), (6, .invokevirtual 266, 3, 0, 1, 104, 0, 0, [(0, 12)]), (9, .if_icmp .ge 7, 3, 16, 0, 0, 0, 0, []), (12, .iconst 1, 1, 0, 0, 0, 0, 1, []), (13, .goto 4, 3, 17, 0, 0, 0, 0, [])],
  [(16, .iconst 0, 1, 0, 0, 0, 0, 0, []), (17, .ireturn, 1, 0, 0, 0, 3, 0, [])]]
def i_N_isPlace : ai_I := ((⟨"SuiteBenchModel", "isPlace", "(I)Z"⟩, prog_14_method_41_code, 2, (some .boolean), 3, 1, 20, 0, 1, 0, 12) : ai_I)
def o_N_isPlace (a : Nat) : SP := match a with
  | 0 => f_N_places
  | _ => fun _ _ _ _ _ => False
theorem mo_N_isPlace : ∀ a, ai_mono (o_N_isPlace a)
  | 0 => mf_N_places
  | _ + 1 => fun _ _ _ _ _ _ _ h => h
def f_N_isPlace : SP := ai_M o_N_isPlace 0 2 k_N_isPlace
theorem mf_N_isPlace : ai_mono f_N_isPlace := M_mono mo_N_isPlace
abbrev cal_N_isPlace : List ai_I := [i_N_places]
theorem a_N_isPlace : ai_all "SuiteBenchModel" prog_14_method_41_code 2 kc_N cal_N_isPlace 1 20 false (some .boolean) k_N_isPlace = true := by decide +kernel
theorem w_N_isPlace : ai_CW i_N_isPlace := ⟨(tk_mem (l := [((Jvm.Cond.code ({ cls := "SuiteBenchModel", name := "isPlace", desc := "(I)Z" } : Jvm.MethodName) prog_14_method_41_code (2 : Nat) (Option.some Jvm.ClassFile.FieldType.boolean)), 9, 4)]) (by decide +kernel) _ (List.mem_singleton.mpr rfl)), (tk_mem (l := [((Jvm.Cond.initialized "SuiteBenchModel"), 1, 15)]) (by decide +kernel) _ (List.mem_singleton.mpr rfl)), ⟨by decide +kernel, by decide +kernel, by decide +kernel⟩, ⟨(tk_mem (l := [((Jvm.Cond.instanceMethod ({ cls := "SuiteBenchModel", name := "isPlace", desc := "(I)Z" } : Jvm.MethodName)), 9, 3)]) (by decide +kernel) _ (List.mem_singleton.mpr rfl)), gw_sel 100 (by decide +kernel), .inl ⟨_, _, rfl⟩⟩⟩
theorem c_N_isPlace {E2 : (Nat → Nat) → State → Heap → Prop} (hE : ai_XH E2) : ai_S E2 i_N_isPlace f_N_isPlace := snd_M (by decide) rfl (by decide) a_N_isPlace kc_N_ok (by rfl) (by decide) (fun a i h => match a, h with
    | 0, h => by cases h; exact ⟨c_N_places hE, w_N_places⟩
    | _ + 1, h => by simp [cal_N_isPlace, ai_nth] at h)
def k_N_built : ai_C := [
  [(0, .aload_n 0, 1, 0, 0, 0, 0, 0, []), (1, .iconst 0, 1, 0, 0, 0, 0, 0, []), (2, .putfield 145, 3, 12, 0, 67, 0, 0, []), (5, .aload_n 0, 1, 0, 0, 0, 0, 0, []), (6, .iload_n 1, 1, 1, 0, 0, 0, 0, []), (7, .invokevirtual 313, 3, 0, 2, 107, 0, 0, [(0, 12)]), (10, .ifCond .eq 20, 3, 30, 0, 0, 0, 0, []), (13, .aload_n 0, 1, 0, 0, 0, 0, 0, []), (14, .iload_n 2, 1, 2, 0, 0, 0, 0, []), (15, .invokevirtual 310, 3, 1, 2, 106, 0, 0, [(0, 12)])],
  [(18, .ifCond .eq 12, 3, 30, 0, 0, 0, 0, []), (21, .iload_n 3, 1, 3, 0, 0, 0, 0, []), (22, .ifCond .lt 8, 3, 30, 0, 0, 0, 0, []), (25, .iload_n 3, 1, 3, 0, 0, 0, 0, []), (26, .iconst 1, 1, 0, 0, 0, 0, 1, []), (27, .if_icmp .le 5, 3, 32, 0, 0, 0, 0, []), (30, .iconst (-1), 1, 0, 0, 0, 0, (-1), []), (31, .ireturn, 1, 0, 0, 0, 0, 0, [])],
  [(32, .bipush 24, 2, 0, 0, 0, 0, 24, []), (34, .iconst 3, 1, 0, 0, 0, 0, 3, []), (35, .iload_n 1, 1, 1, 0, 0, 0, 0, []), (36, .imul, 1, 0, 0, 0, 0, 0, []), (37, .iadd, 1, 0, 0, 0, 0, 0, []), (38, .iload_n 2, 1, 2, 0, 0, 0, 0, []), (39, .iadd, 1, 0, 0, 0, 0, 0, []), (40, .istore 4, 2, 4, 0, 0, 0, 0, []), (42, .iload_n 3, 1, 3, 0, 0, 0, 0, []), (43, .ifCond .ne 13, 3, 56, 0, 0, 0, 0, []), (46, .aload_n 0, 1, 0, 0, 0, 0, 0, []), (47, .getfield 38, 3, 12, 20, 4, 2, 20, [])],
  [(50, .iload 4, 2, 4, 0, 0, 0, 0, []), (52, .iaload, 1, 0, 0, 0, 0, 0, []), (53, .goto 10, 3, 63, 0, 0, 0, 0, []), (56, .aload_n 0, 1, 0, 0, 0, 0, 0, []), (57, .getfield 41, 3, 12, 21, 10, 2, 21, []), (60, .iload 4, 2, 4, 0, 0, 0, 0, []), (62, .iaload, 1, 0, 0, 0, 0, 0, []), (63, .ireturn, 1, 0, 0, 0, 0, 0, [])]]
def i_N_built : ai_I := ((⟨"SuiteBenchModel", "built", "(III)I"⟩, prog_14_method_44_code, 5, (some .int), 0, 2, 41, 0, 3, 0, 12) : ai_I)
def o_N_built (a : Nat) : SP := match a with
  | 0 => f_N_isPlace
  | 1 => f_N_isInput
  | _ => fun _ _ _ _ _ => False
theorem mo_N_built : ∀ a, ai_mono (o_N_built a)
  | 0 => mf_N_isPlace
  | 1 => mf_N_isInput
  | _ + 2 => fun _ _ _ _ _ _ _ h => h
def f_N_built : SP := ai_M o_N_built 0 5 k_N_built
theorem mf_N_built : ai_mono f_N_built := M_mono mo_N_built
abbrev cal_N_built : List ai_I := [i_N_isPlace, i_N_isInput]
theorem a_N_built : ai_all "SuiteBenchModel" prog_14_method_44_code 5 kc_N cal_N_built 2 41 false (some .int) k_N_built = true := by decide +kernel
theorem w_N_built : ai_CW i_N_built := ⟨(tk_mem (l := [((Jvm.Cond.code ({ cls := "SuiteBenchModel", name := "built", desc := "(III)I" } : Jvm.MethodName) prog_14_method_44_code (5 : Nat) (Option.some Jvm.ClassFile.FieldType.int)), 9, 0)]) (by decide +kernel) _ (List.mem_singleton.mpr rfl)), (tk_mem (l := [((Jvm.Cond.initialized "SuiteBenchModel"), 1, 15)]) (by decide +kernel) _ (List.mem_singleton.mpr rfl)), ⟨by decide +kernel, by decide +kernel, by decide +kernel⟩, ⟨(tk_mem (l := [((Jvm.Cond.instanceMethod ({ cls := "SuiteBenchModel", name := "built", desc := "(III)I" } : Jvm.MethodName)), 8, 238)]) (by decide +kernel) _ (List.mem_singleton.mpr rfl)), (tk_mem (l := [((Jvm.Cond.selects "SuiteBenchModel" ({ cls := "SuiteBenchModel", name := "built", desc := "(III)I" } : Jvm.MethodName) ({ cls := "SuiteBenchModel", name := "built", desc := "(III)I" } : Jvm.MethodName)), 8, 239)]) (by decide +kernel) _ (List.mem_singleton.mpr rfl)), .inl ⟨_, _, rfl⟩⟩⟩
theorem c_N_built {E2 : (Nat → Nat) → State → Heap → Prop} (hE : ai_XH E2) : ai_S E2 i_N_built f_N_built := snd_M (by decide) rfl (by decide) a_N_built kc_N_ok (by rfl) (by decide) (fun a i h => match a, h with
    | 0, h => by cases h; exact ⟨c_N_isPlace hE, w_N_isPlace⟩
    | 1, h => by cases h; exact ⟨c_N_isInput hE, w_N_isInput⟩
    | _ + 2, h => by simp [cal_N_built, ai_nth] at h)
def k_B_isState : ai_C := [
  [(0, .iload_n 1, 1, 1, 0, 0, 0, 0, []), (1, .ifCond .lt 18, 3, 19, 0, 0, 0, 0, []), (4, .iload_n 1, 1, 1, 0, 0, 0, 0, []), (5, .aload_n 0, 1, 0, 0, 0, 0, 0, []), (6, .getfield 26, 3, 11, 1, 0, 2, 1, []), (9, .getfield 166, 3, 1, 2, 80, 0, 2, []), (12, .if_icmp .ge 7, 3, 19, 0, 0, 0, 0, []), (15, .iconst 1, 1, 0, 0, 0, 0, 1, [])],
  [(16, .goto 4, 3, 20, 0, 0, 0, 0, []), (19, .iconst 0, 1, 0, 0, 0, 0, 0, []), (20, .ireturn, 1, 0, 0, 0, 3, 0, [])]]
def i_B_isState : ai_I := ((⟨"SuiteBench", "isState", "(I)Z"⟩, prog_1_method_44_code, 2, (some .boolean), 3, 0, 0, 0, 1, 0, 11) : ai_I)
def o_B_isState (_ : Nat) : SP := fun _ _ _ _ _ => False
theorem mo_B_isState : ∀ a, ai_mono (o_B_isState a) := fun _ _ _ _ _ _ _ _ h => h
def f_B_isState : SP := ai_M o_B_isState 0 2 k_B_isState
theorem mf_B_isState : ai_mono f_B_isState := M_mono mo_B_isState
abbrev cal_B_isState : List ai_I := []
theorem a_B_isState : ai_all "SuiteBench" prog_1_method_44_code 2 kc_B cal_B_isState 0 0 false (some .boolean) k_B_isState = true := by decide +kernel
theorem w_B_isState : ai_CW i_B_isState := ⟨(tk_mem (l := [((Jvm.Cond.code ({ cls := "SuiteBench", name := "isState", desc := "(I)Z" } : Jvm.MethodName) prog_1_method_44_code (2 : Nat) (Option.some Jvm.ClassFile.FieldType.boolean)), 4, 125)]) (by decide +kernel) _ (List.mem_singleton.mpr rfl)), (tk_mem (l := [((Jvm.Cond.initialized "SuiteBench"), 1, 1)]) (by decide +kernel) _ (List.mem_singleton.mpr rfl)), ⟨by decide +kernel, by decide +kernel, by decide +kernel⟩, ⟨(tk_mem (l := [((Jvm.Cond.instanceMethod ({ cls := "SuiteBench", name := "isState", desc := "(I)Z" } : Jvm.MethodName)), 4, 124)]) (by decide +kernel) _ (List.mem_singleton.mpr rfl)), gw_sel 28 (by decide +kernel), .inl ⟨_, _, rfl⟩⟩⟩
theorem c_B_isState {E2 : (Nat → Nat) → State → Heap → Prop} (hE : ai_XH E2) : ai_S E2 i_B_isState f_B_isState := snd_M (by decide) rfl (by decide) a_B_isState kc_B_ok (by rfl) (by decide) (fun a i h => by simp [cal_B_isState, ai_nth] at h)
def k_B_isWord : ai_C := [
  [(0, .iload_n 0, 1, 0, 0, 0, 0, 0, []), (1, .ifCond .lt 10, 3, 11, 0, 0, 0, 0, []), (4, .iload_n 0, 1, 0, 0, 0, 0, 0, []), (5, .ldc_w 379, 3, 0, 0, 81, 0, 1073741824, []), (8, .if_icmp .lt 5, 3, 13, 0, 0, 0, 0, []), (11, .iconst 0, 1, 0, 0, 0, 0, 0, []), (12, .ireturn, 1, 0, 0, 0, 3, 0, []), (13, .iload_n 0, 1, 0, 0, 0, 0, 0, []), (14, .invokestatic 380, 3, 0, 1, 82, 0, 0, [(0, 11)])],
  [(17, .istore_n 2, 1, 2, 0, 0, 0, 0, []), (18, .iconst 0, 1, 0, 0, 0, 0, 0, []), (19, .istore_n 3, 1, 3, 0, 0, 0, 0, []), (20, .iload_n 3, 1, 3, 0, 0, 0, 0, []), (21, .iload_n 2, 1, 2, 0, 0, 0, 0, []), (22, .if_icmp .ge 29, 3, 51, 0, 0, 0, 0, []), (25, .iload_n 0, 1, 0, 0, 0, 0, 0, []), (26, .iload_n 3, 1, 3, 0, 0, 0, 0, []), (27, .invokestatic 383, 3, 1, 2, 83, 0, 0, [(0, 11)]), (30, .istore 4, 2, 4, 0, 0, 0, 0, [])],
  [(32, .iload 4, 2, 4, 0, 0, 0, 0, []), (34, .ifCond .lt 9, 3, 43, 0, 0, 0, 0, []), (37, .iload 4, 2, 4, 0, 0, 0, 0, []), (39, .iload_n 1, 1, 1, 0, 0, 0, 0, []), (40, .if_icmp .lt 5, 3, 45, 0, 0, 0, 0, []), (43, .iconst 0, 1, 0, 0, 0, 0, 0, []), (44, .ireturn, 1, 0, 0, 0, 3, 0, []), (45, .iinc 3 1, 3, 3, 0, 0, 0, 1, [])],
  [(48, .goto (-28), 3, 20, 0, 0, 0, 0, []), (51, .iconst 1, 1, 0, 0, 0, 0, 1, []), (52, .ireturn, 1, 0, 0, 0, 3, 0, [])]]
def i_B_isWord : ai_I := ((⟨"SuiteBench", "isWord", "(II)Z"⟩, prog_1_method_47_code, 5, (some .boolean), 3, 1, 21, 0, 2, 1, 11) : ai_I)
def o_B_isWord (a : Nat) : SP := match a with
  | 0 => f_B_lengthOf
  | 1 => f_B_inputAt
  | _ => fun _ _ _ _ _ => False
theorem mo_B_isWord : ∀ a, ai_mono (o_B_isWord a)
  | 0 => mf_B_lengthOf
  | 1 => mf_B_inputAt
  | _ + 2 => fun _ _ _ _ _ _ _ h => h
def f_B_isWord : SP := ai_M o_B_isWord 0 5 k_B_isWord
theorem mf_B_isWord : ai_mono f_B_isWord := M_mono mo_B_isWord
abbrev cal_B_isWord : List ai_I := [i_B_lengthOf, i_B_inputAt]
theorem a_B_isWord : ai_all "SuiteBench" prog_1_method_47_code 5 kc_B cal_B_isWord 1 21 false (some .boolean) k_B_isWord = true := by decide +kernel
theorem w_B_isWord : ai_CW i_B_isWord := ⟨(tk_mem (l := [((Jvm.Cond.code ({ cls := "SuiteBench", name := "isWord", desc := "(II)Z" } : Jvm.MethodName) prog_1_method_47_code (5 : Nat) (Option.some Jvm.ClassFile.FieldType.boolean)), 4, 128)]) (by decide +kernel) _ (List.mem_singleton.mpr rfl)), (tk_mem (l := [((Jvm.Cond.initialized "SuiteBench"), 1, 1)]) (by decide +kernel) _ (List.mem_singleton.mpr rfl)), ⟨by decide +kernel, by decide +kernel, by decide +kernel⟩, (tk_mem (l := [((Jvm.Cond.static ({ cls := "SuiteBench", name := "isWord", desc := "(II)Z" } : Jvm.MethodName)), 4, 127)]) (by decide +kernel) _ (List.mem_singleton.mpr rfl))⟩
theorem c_B_isWord {E2 : (Nat → Nat) → State → Heap → Prop} (hE : ai_XH E2) : ai_S E2 i_B_isWord f_B_isWord := snd_M (by decide) rfl (by decide) a_B_isWord kc_B_ok (by rfl) (by decide) (fun a i h => match a, h with
    | 0, h => by cases h; exact ⟨c_B_lengthOf hE, w_B_lengthOf⟩
    | 1, h => by cases h; exact ⟨c_B_inputAt hE, w_B_inputAt⟩
    | _ + 2, h => by simp [cal_B_isWord, ai_nth] at h)
def k_B_answer : ai_C := [
  [(0, .aload_n 0, 1, 0, 0, 0, 0, 0, []), (1, .iload_n 1, 1, 1, 0, 0, 0, 0, []), (2, .invokevirtual 147, 3, 0, 2, 84, 0, 0, [(0, 11)]), (5, .ifCond .eq 17, 3, 22, 0, 0, 0, 0, []), (8, .iload_n 2, 1, 2, 0, 0, 0, 0, []), (9, .aload_n 0, 1, 0, 0, 0, 0, 0, []), (10, .getfield 26, 3, 11, 1, 0, 2, 1, []), (13, .getfield 150, 3, 1, 3, 85, 0, 3, [])],
  [(16, .invokestatic 153, 3, 1, 2, 86, 0, 0, [(0, 11)]), (19, .ifCond .ne 7, 3, 26, 0, 0, 0, 0, []), (22, .ldc2_w 156, 3, 0, 0, 87, 0, (-1), []), (25, .lreturn, 1, 0, 0, 0, 0, 0, []), (26, .aload_n 0, 1, 0, 0, 0, 0, 0, []), (27, .getfield 26, 3, 11, 1, 0, 2, 1, []), (30, .iload_n 1, 1, 1, 0, 0, 0, 0, []), (31, .iload_n 2, 1, 2, 0, 0, 0, 0, [])],
  [(32, .invokevirtual 158, 3, 2, 3, 88, 1, 0, [(0, 1)]), (35, .lreturn, 1, 0, 0, 0, 0, 0, [])]]
def i_B_answer : ai_I := ((⟨"SuiteBench", "answer", "(II)J"⟩, prog_1_method_8_code, 3, (some .long), 1, 2, 48, 0, 2, 0, 11) : ai_I)
def o_B_answer (a : Nat) : SP := match a with
  | 0 => f_B_isState
  | 1 => f_B_isWord
  | 2 => f_M_tell
  | _ => fun _ _ _ _ _ => False
theorem mo_B_answer : ∀ a, ai_mono (o_B_answer a)
  | 0 => mf_B_isState
  | 1 => mf_B_isWord
  | 2 => mf_M_tell
  | _ + 3 => fun _ _ _ _ _ _ _ h => h
def f_B_answer : SP := ai_M o_B_answer 0 3 k_B_answer
theorem mf_B_answer : ai_mono f_B_answer := M_mono mo_B_answer
abbrev cal_B_answer : List ai_I := [i_B_isState, i_B_isWord, i_M_tell]
theorem a_B_answer : ai_all "SuiteBench" prog_1_method_8_code 3 kc_B cal_B_answer 2 48 false (some .long) k_B_answer = true := by decide +kernel
theorem w_B_answer : ai_CW i_B_answer := ⟨(tk_mem (l := [((Jvm.Cond.code ({ cls := "SuiteBench", name := "answer", desc := "(II)J" } : Jvm.MethodName) prog_1_method_8_code (3 : Nat) (Option.some Jvm.ClassFile.FieldType.long)), 4, 121)]) (by decide +kernel) _ (List.mem_singleton.mpr rfl)), (tk_mem (l := [((Jvm.Cond.initialized "SuiteBench"), 1, 1)]) (by decide +kernel) _ (List.mem_singleton.mpr rfl)), ⟨by decide +kernel, by decide +kernel, by decide +kernel⟩, ⟨(tk_mem (l := [((Jvm.Cond.instanceMethod ({ cls := "SuiteBench", name := "answer", desc := "(II)J" } : Jvm.MethodName)), 4, 119)]) (by decide +kernel) _ (List.mem_singleton.mpr rfl)), (tk_mem (l := [((Jvm.Cond.selects "SuiteBench" ({ cls := "SuiteBench", name := "answer", desc := "(II)J" } : Jvm.MethodName) ({ cls := "SuiteBench", name := "answer", desc := "(II)J" } : Jvm.MethodName)), 4, 120)]) (by decide +kernel) _ (List.mem_singleton.mpr rfl)), .inl ⟨_, _, rfl⟩⟩⟩
theorem c_B_answer {E2 : (Nat → Nat) → State → Heap → Prop} (hE : ai_XH E2) : ai_S E2 i_B_answer f_B_answer := snd_M (by decide) rfl (by decide) a_B_answer kc_B_ok (by rfl) (by decide) (fun a i h => match a, h with
    | 0, h => by cases h; exact ⟨c_B_isState hE, w_B_isState⟩
    | 1, h => by cases h; exact ⟨c_B_isWord hE, w_B_isWord⟩
    | 2, h => by cases h; exact ⟨c_M_tell hE, w_M_tell⟩
    | _ + 3, h => by simp [cal_B_answer, ai_nth] at h)
def k_N_isWordNumber : ai_C := [
  [(0, .iload_n 1, 1, 1, 0, 0, 0, 0, []), (1, .ifCond .lt 10, 3, 11, 0, 0, 0, 0, []), (4, .iload_n 1, 1, 1, 0, 0, 0, 0, []), (5, .ldc_w 297, 3, 0, 0, 108, 0, 1073741824, []), (8, .if_icmp .lt 5, 3, 13, 0, 0, 0, 0, []), (11, .iconst 0, 1, 0, 0, 0, 0, 0, []), (12, .ireturn, 1, 0, 0, 0, 3, 0, []), (13, .iload_n 1, 1, 1, 0, 0, 0, 0, []), (14, .istore_n 2, 1, 2, 0, 0, 0, 0, []), (15, .iload_n 2, 1, 2, 0, 0, 0, 0, [])],
  [(16, .ifCond .le 28, 3, 44, 0, 0, 0, 0, []), (19, .iload_n 2, 1, 2, 0, 0, 0, 0, []), (20, .iconst 3, 1, 0, 0, 0, 0, 3, []), (21, .iand, 1, 0, 0, 0, 0, 0, []), (22, .ifCond .eq 13, 3, 35, 0, 0, 0, 0, []), (25, .iload_n 2, 1, 2, 0, 0, 0, 0, []), (26, .iconst 3, 1, 0, 0, 0, 0, 3, []), (27, .iand, 1, 0, 0, 0, 0, 0, []), (28, .aload_n 0, 1, 0, 0, 0, 0, 0, []), (29, .invokevirtual 269, 3, 0, 1, 3, 0, 0, [(0, 12)])],
  [(32, .if_icmp .le 5, 3, 37, 0, 0, 0, 0, []), (35, .iconst 0, 1, 0, 0, 0, 0, 0, []), (36, .ireturn, 1, 0, 0, 0, 3, 0, []), (37, .iload_n 2, 1, 2, 0, 0, 0, 0, []), (38, .iconst 2, 1, 0, 0, 0, 0, 2, []), (39, .ishr, 1, 0, 0, 0, 0, 0, []), (40, .istore_n 2, 1, 2, 0, 0, 0, 0, []), (41, .goto (-26), 3, 15, 0, 0, 0, 0, []), (44, .iconst 1, 1, 0, 0, 0, 0, 1, []), (45, .ireturn, 1, 0, 0, 0, 3, 0, [])]]
def i_N_isWordNumber : ai_I := ((⟨"SuiteBenchModel", "isWordNumber", "(I)Z"⟩, prog_14_method_37_code, 3, (some .boolean), 3, 1, 20, 0, 1, 0, 12) : ai_I)
def o_N_isWordNumber (a : Nat) : SP := match a with
  | 0 => f_N_inputs
  | _ => fun _ _ _ _ _ => False
theorem mo_N_isWordNumber : ∀ a, ai_mono (o_N_isWordNumber a)
  | 0 => mf_N_inputs
  | _ + 1 => fun _ _ _ _ _ _ _ h => h
def f_N_isWordNumber : SP := ai_M o_N_isWordNumber 0 3 k_N_isWordNumber
theorem mf_N_isWordNumber : ai_mono f_N_isWordNumber := M_mono mo_N_isWordNumber
abbrev cal_N_isWordNumber : List ai_I := [i_N_inputs]
theorem a_N_isWordNumber : ai_all "SuiteBenchModel" prog_14_method_37_code 3 kc_N cal_N_isWordNumber 1 20 false (some .boolean) k_N_isWordNumber = true := by decide +kernel
theorem w_N_isWordNumber : ai_CW i_N_isWordNumber := ⟨(tk_mem (l := [((Jvm.Cond.code ({ cls := "SuiteBenchModel", name := "isWordNumber", desc := "(I)Z" } : Jvm.MethodName) prog_14_method_37_code (3 : Nat) (Option.some Jvm.ClassFile.FieldType.boolean)), 9, 12)]) (by decide +kernel) _ (List.mem_singleton.mpr rfl)), (tk_mem (l := [((Jvm.Cond.initialized "SuiteBenchModel"), 1, 15)]) (by decide +kernel) _ (List.mem_singleton.mpr rfl)), ⟨by decide +kernel, by decide +kernel, by decide +kernel⟩, ⟨(tk_mem (l := [((Jvm.Cond.instanceMethod ({ cls := "SuiteBenchModel", name := "isWordNumber", desc := "(I)Z" } : Jvm.MethodName)), 9, 11)]) (by decide +kernel) _ (List.mem_singleton.mpr rfl)), gw_sel 101 (by decide +kernel), .inl ⟨_, _, rfl⟩⟩⟩
theorem c_N_isWordNumber {E2 : (Nat → Nat) → State → Heap → Prop} (hE : ai_XH E2) : ai_S E2 i_N_isWordNumber f_N_isWordNumber := snd_M (by decide) rfl (by decide) a_N_isWordNumber kc_N_ok (by rfl) (by decide) (fun a i h => match a, h with
    | 0, h => by cases h; exact ⟨c_N_inputs hE, w_N_inputs⟩
    | _ + 1, h => by simp [cal_N_isWordNumber, ai_nth] at h)
def k_N_answer : ai_C := [
  [(0, .aload_n 0, 1, 0, 0, 0, 0, 0, []), (1, .iconst 0, 1, 0, 0, 0, 0, 0, []), (2, .putfield 145, 3, 12, 0, 67, 0, 0, []), (5, .aload_n 0, 1, 0, 0, 0, 0, 0, []), (6, .iload_n 1, 1, 1, 0, 0, 0, 0, []), (7, .invokevirtual 307, 3, 0, 2, 105, 0, 0, [(0, 12)]), (10, .ifCond .eq 21, 3, 31, 0, 0, 0, 0, []), (13, .aload_n 0, 1, 0, 0, 0, 0, 0, []), (14, .iload_n 2, 1, 2, 0, 0, 0, 0, []), (15, .invokevirtual 316, 3, 1, 2, 109, 0, 0, [(0, 12)])],
  [(18, .ifCond .eq 13, 3, 31, 0, 0, 0, 0, []), (21, .aload_n 0, 1, 0, 0, 0, 0, 0, []), (22, .iconst 0, 1, 0, 0, 0, 0, 0, []), (23, .iload_n 1, 1, 1, 0, 0, 0, 0, []), (24, .iload_n 2, 1, 2, 0, 0, 0, 0, []), (25, .invokevirtual 319, 3, 2, 4, 18, 1, 0, [(0, 12)]), (28, .goto 6, 3, 34, 0, 0, 0, 0, []), (31, .ldc2_w 323, 3, 0, 0, 110, 0, (-1), [])],
  [(34, .lreturn, 1, 0, 0, 0, 0, 0, [])]]
def i_N_answer : ai_I := ((⟨"SuiteBenchModel", "answer", "(II)J"⟩, prog_14_method_45_code, 3, (some .long), 1, 2, 51, 0, 2, 0, 12) : ai_I)
def o_N_answer (a : Nat) : SP := match a with
  | 0 => f_N_isState
  | 1 => f_N_isWordNumber
  | 2 => f_N_answers
  | _ => fun _ _ _ _ _ => False
theorem mo_N_answer : ∀ a, ai_mono (o_N_answer a)
  | 0 => mf_N_isState
  | 1 => mf_N_isWordNumber
  | 2 => mf_N_answers
  | _ + 3 => fun _ _ _ _ _ _ _ h => h
def f_N_answer : SP := ai_M o_N_answer 0 3 k_N_answer
theorem mf_N_answer : ai_mono f_N_answer := M_mono mo_N_answer
abbrev cal_N_answer : List ai_I := [i_N_isState, i_N_isWordNumber, i_N_answers]
theorem a_N_answer : ai_all "SuiteBenchModel" prog_14_method_45_code 3 kc_N cal_N_answer 2 51 false (some .long) k_N_answer = true := by decide +kernel
theorem w_N_answer : ai_CW i_N_answer := ⟨(tk_mem (l := [((Jvm.Cond.code ({ cls := "SuiteBenchModel", name := "answer", desc := "(II)J" } : Jvm.MethodName) prog_14_method_45_code (3 : Nat) (Option.some Jvm.ClassFile.FieldType.long)), 9, 8)]) (by decide +kernel) _ (List.mem_singleton.mpr rfl)), (tk_mem (l := [((Jvm.Cond.initialized "SuiteBenchModel"), 1, 15)]) (by decide +kernel) _ (List.mem_singleton.mpr rfl)), ⟨by decide +kernel, by decide +kernel, by decide +kernel⟩, ⟨(tk_mem (l := [((Jvm.Cond.instanceMethod ({ cls := "SuiteBenchModel", name := "answer", desc := "(II)J" } : Jvm.MethodName)), 9, 6)]) (by decide +kernel) _ (List.mem_singleton.mpr rfl)), (tk_mem (l := [((Jvm.Cond.selects "SuiteBenchModel" ({ cls := "SuiteBenchModel", name := "answer", desc := "(II)J" } : Jvm.MethodName) ({ cls := "SuiteBenchModel", name := "answer", desc := "(II)J" } : Jvm.MethodName)), 9, 7)]) (by decide +kernel) _ (List.mem_singleton.mpr rfl)), .inl ⟨_, _, rfl⟩⟩⟩
theorem c_N_answer {E2 : (Nat → Nat) → State → Heap → Prop} (hE : ai_XH E2) : ai_S E2 i_N_answer f_N_answer := snd_M (by decide) rfl (by decide) a_N_answer kc_N_ok (by rfl) (by decide) (fun a i h => match a, h with
    | 0, h => by cases h; exact ⟨c_N_isState hE, w_N_isState⟩
    | 1, h => by cases h; exact ⟨c_N_isWordNumber hE, w_N_isWordNumber⟩
    | 2, h => by cases h; exact ⟨c_N_answers hE, w_N_answers⟩
    | _ + 3, h => by simp [cal_N_answer, ai_nth] at h)
def k_M_go : ai_C := [
  [(0, .iload_n 1, 1, 1, 0, 0, 0, 0, []), (1, .istore_n 3, 1, 3, 0, 0, 0, 0, []), (2, .iload_n 2, 1, 2, 0, 0, 0, 0, []), (3, .invokestatic 37, 3, 0, 1, 6, 0, 0, [(0, 11)]), (6, .iconst 1, 1, 0, 0, 0, 0, 1, []), (7, .isub, 1, 0, 0, 0, 0, 0, []), (8, .istore 4, 2, 4, 0, 0, 0, 0, []), (10, .iload 4, 2, 4, 0, 0, 0, 0, []), (12, .ifCond .lt 25, 3, 37, 0, 0, 0, 0, []), (15, .aload_n 0, 1, 0, 0, 0, 0, 0, [])],
  [(16, .getfield 9, 3, 1, 0, 2, 2, 0, []), (19, .iload_n 3, 1, 3, 0, 0, 0, 0, []), (20, .iconst 3, 1, 0, 0, 0, 0, 3, []), (21, .imul, 1, 0, 0, 0, 0, 0, []), (22, .iload_n 2, 1, 2, 0, 0, 0, 0, []), (23, .iload 4, 2, 4, 0, 0, 0, 0, []), (25, .invokestatic 41, 3, 1, 2, 7, 0, 0, [(0, 11)]), (28, .iadd, 1, 0, 0, 0, 0, 0, []), (29, .iaload, 1, 0, 0, 0, 0, 0, []), (30, .istore_n 3, 1, 3, 0, 0, 0, 0, []), (31, .iinc 4 (-1), 3, 4, 0, 0, 0, (-1), [])],
  [(34, .goto (-24), 3, 10, 0, 0, 0, 0, []), (37, .iload_n 3, 1, 3, 0, 0, 0, 0, []), (38, .ireturn, 1, 0, 0, 0, 0, 0, [])]]
def i_M_go : ai_I := ((⟨"SuiteBench$Machine", "go", "(II)I"⟩, prog_3_method_11_code, 5, (some .int), 0, 1, 21, 0, 2, 0, 1) : ai_I)
def o_M_go (a : Nat) : SP := match a with
  | 0 => f_B_lengthOf
  | 1 => f_B_inputAt
  | _ => fun _ _ _ _ _ => False
theorem mo_M_go : ∀ a, ai_mono (o_M_go a)
  | 0 => mf_B_lengthOf
  | 1 => mf_B_inputAt
  | _ + 2 => fun _ _ _ _ _ _ _ h => h
def f_M_go : SP := ai_M o_M_go 0 5 k_M_go
theorem mf_M_go : ai_mono f_M_go := M_mono mo_M_go
abbrev cal_M_go : List ai_I := [i_B_lengthOf, i_B_inputAt]
theorem a_M_go : ai_all "SuiteBench$Machine" prog_3_method_11_code 5 kc_M cal_M_go 1 21 false (some .int) k_M_go = true := by decide +kernel
theorem w_M_go : ai_CW i_M_go := ⟨(tk_mem (l := [((Jvm.Cond.code ({ cls := "SuiteBench$Machine", name := "go", desc := "(II)I" } : Jvm.MethodName) prog_3_method_11_code (5 : Nat) (Option.some Jvm.ClassFile.FieldType.int)), 4, 141)]) (by decide +kernel) _ (List.mem_singleton.mpr rfl)), (tk_mem (l := [((Jvm.Cond.initialized "SuiteBench$Machine"), 1, 5)]) (by decide +kernel) _ (List.mem_singleton.mpr rfl)), ⟨by decide +kernel, by decide +kernel, by decide +kernel⟩, ⟨(tk_mem (l := [((Jvm.Cond.instanceMethod ({ cls := "SuiteBench$Machine", name := "go", desc := "(II)I" } : Jvm.MethodName)), 4, 139)]) (by decide +kernel) _ (List.mem_singleton.mpr rfl)), (tk_mem (l := [((Jvm.Cond.selects "SuiteBench$Machine" ({ cls := "SuiteBench$Machine", name := "go", desc := "(II)I" } : Jvm.MethodName) ({ cls := "SuiteBench$Machine", name := "go", desc := "(II)I" } : Jvm.MethodName)), 4, 140)]) (by decide +kernel) _ (List.mem_singleton.mpr rfl)), .inl ⟨_, _, rfl⟩⟩⟩
theorem c_M_go {E2 : (Nat → Nat) → State → Heap → Prop} (hE : ai_XH E2) : ai_S E2 i_M_go f_M_go := snd_M (by decide) rfl (by decide) a_M_go kc_M_ok (by rfl) (by decide) (fun a i h => match a, h with
    | 0, h => by cases h; exact ⟨c_B_lengthOf hE, w_B_lengthOf⟩
    | 1, h => by cases h; exact ⟨c_B_inputAt hE, w_B_inputAt⟩
    | _ + 2, h => by simp [cal_M_go, ai_nth] at h)
def k_B_leads : ai_C := [
  [(0, .aload_n 0, 1, 0, 0, 0, 0, 0, []), (1, .iload_n 1, 1, 1, 0, 0, 0, 0, []), (2, .invokevirtual 147, 3, 0, 2, 84, 0, 0, [(0, 11)]), (5, .ifCond .eq 17, 3, 22, 0, 0, 0, 0, []), (8, .iload_n 2, 1, 2, 0, 0, 0, 0, []), (9, .aload_n 0, 1, 0, 0, 0, 0, 0, []), (10, .getfield 26, 3, 11, 1, 0, 2, 1, []), (13, .getfield 150, 3, 1, 3, 85, 0, 3, [])],
  [(16, .invokestatic 153, 3, 1, 2, 86, 0, 0, [(0, 11)]), (19, .ifCond .ne 5, 3, 24, 0, 0, 0, 0, []), (22, .iconst (-1), 1, 0, 0, 0, 0, (-1), []), (23, .ireturn, 1, 0, 0, 0, 0, 0, []), (24, .aload_n 0, 1, 0, 0, 0, 0, 0, []), (25, .getfield 26, 3, 11, 1, 0, 2, 1, []), (28, .iload_n 1, 1, 1, 0, 0, 0, 0, []), (29, .iload_n 2, 1, 2, 0, 0, 0, 0, []), (30, .invokevirtual 162, 3, 2, 3, 89, 0, 0, [(0, 1)])],
  [(33, .ireturn, 1, 0, 0, 0, 0, 0, [])]]
def i_B_leads : ai_I := ((⟨"SuiteBench", "leads", "(II)I"⟩, prog_1_method_9_code, 3, (some .int), 0, 2, 45, 0, 2, 0, 11) : ai_I)
def o_B_leads (a : Nat) : SP := match a with
  | 0 => f_B_isState
  | 1 => f_B_isWord
  | 2 => f_M_go
  | _ => fun _ _ _ _ _ => False
theorem mo_B_leads : ∀ a, ai_mono (o_B_leads a)
  | 0 => mf_B_isState
  | 1 => mf_B_isWord
  | 2 => mf_M_go
  | _ + 3 => fun _ _ _ _ _ _ _ h => h
def f_B_leads : SP := ai_M o_B_leads 0 3 k_B_leads
theorem mf_B_leads : ai_mono f_B_leads := M_mono mo_B_leads
abbrev cal_B_leads : List ai_I := [i_B_isState, i_B_isWord, i_M_go]
theorem a_B_leads : ai_all "SuiteBench" prog_1_method_9_code 3 kc_B cal_B_leads 2 45 false (some .int) k_B_leads = true := by decide +kernel
theorem w_B_leads : ai_CW i_B_leads := ⟨(tk_mem (l := [((Jvm.Cond.code ({ cls := "SuiteBench", name := "leads", desc := "(II)I" } : Jvm.MethodName) prog_1_method_9_code (3 : Nat) (Option.some Jvm.ClassFile.FieldType.int)), 4, 137)]) (by decide +kernel) _ (List.mem_singleton.mpr rfl)), (tk_mem (l := [((Jvm.Cond.initialized "SuiteBench"), 1, 1)]) (by decide +kernel) _ (List.mem_singleton.mpr rfl)), ⟨by decide +kernel, by decide +kernel, by decide +kernel⟩, ⟨(tk_mem (l := [((Jvm.Cond.instanceMethod ({ cls := "SuiteBench", name := "leads", desc := "(II)I" } : Jvm.MethodName)), 4, 135)]) (by decide +kernel) _ (List.mem_singleton.mpr rfl)), (tk_mem (l := [((Jvm.Cond.selects "SuiteBench" ({ cls := "SuiteBench", name := "leads", desc := "(II)I" } : Jvm.MethodName) ({ cls := "SuiteBench", name := "leads", desc := "(II)I" } : Jvm.MethodName)), 4, 136)]) (by decide +kernel) _ (List.mem_singleton.mpr rfl)), .inl ⟨_, _, rfl⟩⟩⟩
theorem c_B_leads {E2 : (Nat → Nat) → State → Heap → Prop} (hE : ai_XH E2) : ai_S E2 i_B_leads f_B_leads := snd_M (by decide) rfl (by decide) a_B_leads kc_B_ok (by rfl) (by decide) (fun a i h => match a, h with
    | 0, h => by cases h; exact ⟨c_B_isState hE, w_B_isState⟩
    | 1, h => by cases h; exact ⟨c_B_isWord hE, w_B_isWord⟩
    | 2, h => by cases h; exact ⟨c_M_go hE, w_M_go⟩
    | _ + 3, h => by simp [cal_B_leads, ai_nth] at h)
def k_N_leadsTo : ai_C := [
  [(0, .iload_n 3, 1, 3, 0, 0, 0, 0, []), (1, .invokestatic 298, 3, 0, 1, 13, 0, 0, [(0, 12)]), (4, .istore 4, 2, 4, 0, 0, 0, 0, []), (6, .iload_n 2, 1, 2, 0, 0, 0, 0, []), (7, .istore 5, 2, 5, 0, 0, 0, 0, []), (9, .iconst 0, 1, 0, 0, 0, 0, 0, []), (10, .istore 6, 2, 6, 0, 0, 0, 0, []), (12, .iload 6, 2, 6, 0, 0, 0, 0, []), (14, .iload 4, 2, 4, 0, 0, 0, 0, [])],
  [(16, .if_icmp .ge 31, 3, 47, 0, 0, 0, 0, []), (19, .aload_n 0, 1, 0, 0, 0, 0, 0, []), (20, .getfield 38, 3, 12, 20, 4, 2, 20, []), (23, .iload_n 1, 1, 1, 0, 0, 0, 0, []), (24, .iconst 3, 1, 0, 0, 0, 0, 3, []), (25, .iload 5, 2, 5, 0, 0, 0, 0, []), (27, .imul, 1, 0, 0, 0, 0, 0, []), (28, .iadd, 1, 0, 0, 0, 0, 0, []), (29, .iload_n 3, 1, 3, 0, 0, 0, 0, []), (30, .iload 4, 2, 4, 0, 0, 0, 0, [])],
  [(32, .iload 6, 2, 6, 0, 0, 0, 0, []), (34, .invokestatic 301, 3, 1, 3, 14, 0, 0, [(0, 12)]), (37, .iadd, 1, 0, 0, 0, 0, 0, []), (38, .iaload, 1, 0, 0, 0, 0, 0, []), (39, .istore 5, 2, 5, 0, 0, 0, 0, []), (41, .iinc 6 1, 3, 6, 0, 0, 0, 1, []), (44, .goto (-32), 3, 12, 0, 0, 0, 0, []), (47, .iload 5, 2, 5, 0, 0, 0, 0, [])],
  [(49, .ireturn, 1, 0, 0, 0, 0, 0, [])]]
def i_N_leadsTo : ai_I := ((⟨"SuiteBenchModel", "leadsTo", "(III)I"⟩, prog_14_method_38_code, 7, (some .int), 0, 1, 22, 0, 3, 0, 12) : ai_I)
def o_N_leadsTo (a : Nat) : SP := match a with
  | 0 => f_N_long1
  | 1 => f_N_inputAt
  | _ => fun _ _ _ _ _ => False
theorem mo_N_leadsTo : ∀ a, ai_mono (o_N_leadsTo a)
  | 0 => mf_N_long1
  | 1 => mf_N_inputAt
  | _ + 2 => fun _ _ _ _ _ _ _ h => h
def f_N_leadsTo : SP := ai_M o_N_leadsTo 0 7 k_N_leadsTo
theorem mf_N_leadsTo : ai_mono f_N_leadsTo := M_mono mo_N_leadsTo
abbrev cal_N_leadsTo : List ai_I := [i_N_long1, i_N_inputAt]
theorem a_N_leadsTo : ai_all "SuiteBenchModel" prog_14_method_38_code 7 kc_N cal_N_leadsTo 1 22 false (some .int) k_N_leadsTo = true := by decide +kernel
theorem w_N_leadsTo : ai_CW i_N_leadsTo := ⟨(tk_mem (l := [((Jvm.Cond.code ({ cls := "SuiteBenchModel", name := "leadsTo", desc := "(III)I" } : Jvm.MethodName) prog_14_method_38_code (7 : Nat) (Option.some Jvm.ClassFile.FieldType.int)), 9, 22)]) (by decide +kernel) _ (List.mem_singleton.mpr rfl)), (tk_mem (l := [((Jvm.Cond.initialized "SuiteBenchModel"), 1, 15)]) (by decide +kernel) _ (List.mem_singleton.mpr rfl)), ⟨by decide +kernel, by decide +kernel, by decide +kernel⟩, ⟨(tk_mem (l := [((Jvm.Cond.instanceMethod ({ cls := "SuiteBenchModel", name := "leadsTo", desc := "(III)I" } : Jvm.MethodName)), 9, 21)]) (by decide +kernel) _ (List.mem_singleton.mpr rfl)), gw_sel 102 (by decide +kernel), .inl ⟨_, _, rfl⟩⟩⟩
theorem c_N_leadsTo {E2 : (Nat → Nat) → State → Heap → Prop} (hE : ai_XH E2) : ai_S E2 i_N_leadsTo f_N_leadsTo := snd_M (by decide) rfl (by decide) a_N_leadsTo kc_N_ok (by rfl) (by decide) (fun a i h => match a, h with
    | 0, h => by cases h; exact ⟨c_N_long1 hE, w_N_long1⟩
    | 1, h => by cases h; exact ⟨c_N_inputAt hE, w_N_inputAt⟩
    | _ + 2, h => by simp [cal_N_leadsTo, ai_nth] at h)
def k_N_leads : ai_C := [
  [(0, .aload_n 0, 1, 0, 0, 0, 0, 0, []), (1, .iconst 0, 1, 0, 0, 0, 0, 0, []), (2, .putfield 145, 3, 12, 0, 67, 0, 0, []), (5, .aload_n 0, 1, 0, 0, 0, 0, 0, []), (6, .iload_n 1, 1, 1, 0, 0, 0, 0, []), (7, .invokevirtual 307, 3, 0, 2, 105, 0, 0, [(0, 12)]), (10, .ifCond .eq 21, 3, 31, 0, 0, 0, 0, []), (13, .aload_n 0, 1, 0, 0, 0, 0, 0, []), (14, .iload_n 2, 1, 2, 0, 0, 0, 0, []), (15, .invokevirtual 316, 3, 1, 2, 109, 0, 0, [(0, 12)])],
  [(18, .ifCond .eq 13, 3, 31, 0, 0, 0, 0, []), (21, .aload_n 0, 1, 0, 0, 0, 0, 0, []), (22, .iconst 0, 1, 0, 0, 0, 0, 0, []), (23, .iload_n 1, 1, 1, 0, 0, 0, 0, []), (24, .iload_n 2, 1, 2, 0, 0, 0, 0, []), (25, .invokevirtual 325, 3, 2, 4, 111, 0, 0, [(0, 12)]), (28, .goto 4, 3, 32, 0, 0, 0, 0, []), (31, .iconst (-1), 1, 0, 0, 0, 0, (-1), [])],
  [(32, .ireturn, 1, 0, 0, 0, 0, 0, [])]]
def i_N_leads : ai_I := ((⟨"SuiteBenchModel", "leads", "(II)I"⟩, prog_14_method_46_code, 3, (some .int), 0, 2, 48, 0, 2, 0, 12) : ai_I)
def o_N_leads (a : Nat) : SP := match a with
  | 0 => f_N_isState
  | 1 => f_N_isWordNumber
  | 2 => f_N_leadsTo
  | _ => fun _ _ _ _ _ => False
theorem mo_N_leads : ∀ a, ai_mono (o_N_leads a)
  | 0 => mf_N_isState
  | 1 => mf_N_isWordNumber
  | 2 => mf_N_leadsTo
  | _ + 3 => fun _ _ _ _ _ _ _ h => h
def f_N_leads : SP := ai_M o_N_leads 0 3 k_N_leads
theorem mf_N_leads : ai_mono f_N_leads := M_mono mo_N_leads
abbrev cal_N_leads : List ai_I := [i_N_isState, i_N_isWordNumber, i_N_leadsTo]
theorem a_N_leads : ai_all "SuiteBenchModel" prog_14_method_46_code 3 kc_N cal_N_leads 2 48 false (some .int) k_N_leads = true := by decide +kernel
theorem w_N_leads : ai_CW i_N_leads := ⟨(tk_mem (l := [((Jvm.Cond.code ({ cls := "SuiteBenchModel", name := "leads", desc := "(II)I" } : Jvm.MethodName) prog_14_method_46_code (3 : Nat) (Option.some Jvm.ClassFile.FieldType.int)), 9, 18)]) (by decide +kernel) _ (List.mem_singleton.mpr rfl)), (tk_mem (l := [((Jvm.Cond.initialized "SuiteBenchModel"), 1, 15)]) (by decide +kernel) _ (List.mem_singleton.mpr rfl)), ⟨by decide +kernel, by decide +kernel, by decide +kernel⟩, ⟨(tk_mem (l := [((Jvm.Cond.instanceMethod ({ cls := "SuiteBenchModel", name := "leads", desc := "(II)I" } : Jvm.MethodName)), 9, 16)]) (by decide +kernel) _ (List.mem_singleton.mpr rfl)), (tk_mem (l := [((Jvm.Cond.selects "SuiteBenchModel" ({ cls := "SuiteBenchModel", name := "leads", desc := "(II)I" } : Jvm.MethodName) ({ cls := "SuiteBenchModel", name := "leads", desc := "(II)I" } : Jvm.MethodName)), 9, 17)]) (by decide +kernel) _ (List.mem_singleton.mpr rfl)), .inl ⟨_, _, rfl⟩⟩⟩
theorem c_N_leads {E2 : (Nat → Nat) → State → Heap → Prop} (hE : ai_XH E2) : ai_S E2 i_N_leads f_N_leads := snd_M (by decide) rfl (by decide) a_N_leads kc_N_ok (by rfl) (by decide) (fun a i h => match a, h with
    | 0, h => by cases h; exact ⟨c_N_isState hE, w_N_isState⟩
    | 1, h => by cases h; exact ⟨c_N_isWordNumber hE, w_N_isWordNumber⟩
    | 2, h => by cases h; exact ⟨c_N_leadsTo hE, w_N_leadsTo⟩
    | _ + 3, h => by simp [cal_N_leads, ai_nth] at h)
def k_B_answerBuilt : ai_C := [
  [(0, .aload_n 0, 1, 0, 0, 0, 0, 0, []), (1, .getfield 26, 3, 11, 1, 0, 2, 1, []), (4, .getfield 166, 3, 1, 2, 80, 0, 2, []), (7, .ifCond .eq 17, 3, 24, 0, 0, 0, 0, []), (10, .iload_n 1, 1, 1, 0, 0, 0, 0, []), (11, .aload_n 0, 1, 0, 0, 0, 0, 0, []), (12, .getfield 30, 3, 11, 2, 7, 2, 2, []), (15, .getfield 150, 3, 1, 3, 85, 0, 3, [])],
  [(18, .invokestatic 153, 3, 0, 2, 86, 0, 0, [(0, 11)]), (21, .ifCond .ne 7, 3, 28, 0, 0, 0, 0, []), (24, .ldc2_w 156, 3, 0, 0, 87, 0, (-1), []), (27, .lreturn, 1, 0, 0, 0, 0, 0, []), (28, .aload_n 0, 1, 0, 0, 0, 0, 0, []), (29, .getfield 30, 3, 11, 2, 7, 2, 2, [])],
  [(32, .iconst 0, 1, 0, 0, 0, 0, 0, []), (33, .iload_n 1, 1, 1, 0, 0, 0, 0, []), (34, .invokevirtual 158, 3, 1, 3, 88, 1, 0, [(0, 1)]), (37, .lreturn, 1, 0, 0, 0, 0, 0, [])]]
def i_B_answerBuilt : ai_I := ((⟨"SuiteBench", "answerBuilt", "(I)J"⟩, prog_1_method_10_code, 2, (some .long), 1, 2, 48, 0, 1, 0, 11) : ai_I)
def o_B_answerBuilt (a : Nat) : SP := match a with
  | 0 => f_B_isWord
  | 1 => f_M_tell
  | _ => fun _ _ _ _ _ => False
theorem mo_B_answerBuilt : ∀ a, ai_mono (o_B_answerBuilt a)
  | 0 => mf_B_isWord
  | 1 => mf_M_tell
  | _ + 2 => fun _ _ _ _ _ _ _ h => h
def f_B_answerBuilt : SP := ai_M o_B_answerBuilt 0 2 k_B_answerBuilt
theorem mf_B_answerBuilt : ai_mono f_B_answerBuilt := M_mono mo_B_answerBuilt
abbrev cal_B_answerBuilt : List ai_I := [i_B_isWord, i_M_tell]
theorem a_B_answerBuilt : ai_all "SuiteBench" prog_1_method_10_code 2 kc_B cal_B_answerBuilt 2 48 false (some .long) k_B_answerBuilt = true := by decide +kernel
theorem w_B_answerBuilt : ai_CW i_B_answerBuilt := ⟨(tk_mem (l := [((Jvm.Cond.code ({ cls := "SuiteBench", name := "answerBuilt", desc := "(I)J" } : Jvm.MethodName) prog_1_method_10_code (2 : Nat) (Option.some Jvm.ClassFile.FieldType.long)), 4, 145)]) (by decide +kernel) _ (List.mem_singleton.mpr rfl)), (tk_mem (l := [((Jvm.Cond.initialized "SuiteBench"), 1, 1)]) (by decide +kernel) _ (List.mem_singleton.mpr rfl)), ⟨by decide +kernel, by decide +kernel, by decide +kernel⟩, ⟨(tk_mem (l := [((Jvm.Cond.instanceMethod ({ cls := "SuiteBench", name := "answerBuilt", desc := "(I)J" } : Jvm.MethodName)), 4, 143)]) (by decide +kernel) _ (List.mem_singleton.mpr rfl)), (tk_mem (l := [((Jvm.Cond.selects "SuiteBench" ({ cls := "SuiteBench", name := "answerBuilt", desc := "(I)J" } : Jvm.MethodName) ({ cls := "SuiteBench", name := "answerBuilt", desc := "(I)J" } : Jvm.MethodName)), 4, 144)]) (by decide +kernel) _ (List.mem_singleton.mpr rfl)), .inl ⟨_, _, rfl⟩⟩⟩
theorem c_B_answerBuilt {E2 : (Nat → Nat) → State → Heap → Prop} (hE : ai_XH E2) : ai_S E2 i_B_answerBuilt f_B_answerBuilt := snd_M (by decide) rfl (by decide) a_B_answerBuilt kc_B_ok (by rfl) (by decide) (fun a i h => match a, h with
    | 0, h => by cases h; exact ⟨c_B_isWord hE, w_B_isWord⟩
    | 1, h => by cases h; exact ⟨c_M_tell hE, w_M_tell⟩
    | _ + 2, h => by simp [cal_B_answerBuilt, ai_nth] at h)
def k_N_answerBuilt : ai_C := [
  [(0, .aload_n 0, 1, 0, 0, 0, 0, 0, []), (1, .iconst 0, 1, 0, 0, 0, 0, 0, []), (2, .putfield 145, 3, 12, 0, 67, 0, 0, []), (5, .aload_n 0, 1, 0, 0, 0, 0, 0, []), (6, .invokevirtual 272, 3, 0, 1, 2, 0, 0, [(0, 12)]), (9, .ifCond .le 22, 3, 31, 0, 0, 0, 0, []), (12, .aload_n 0, 1, 0, 0, 0, 0, 0, []), (13, .iload_n 1, 1, 1, 0, 0, 0, 0, []), (14, .invokevirtual 316, 3, 1, 2, 109, 0, 0, [(0, 12)])],
  [(17, .ifCond .eq 14, 3, 31, 0, 0, 0, 0, []), (20, .aload_n 0, 1, 0, 0, 0, 0, 0, []), (21, .bipush 24, 2, 0, 0, 0, 0, 24, []), (23, .iconst 0, 1, 0, 0, 0, 0, 0, []), (24, .iload_n 1, 1, 1, 0, 0, 0, 0, []), (25, .invokevirtual 319, 3, 2, 4, 18, 1, 0, [(0, 12)]), (28, .goto 6, 3, 34, 0, 0, 0, 0, []), (31, .ldc2_w 323, 3, 0, 0, 110, 0, (-1), [])],
  [(34, .lreturn, 1, 0, 0, 0, 0, 0, [])]]
def i_N_answerBuilt : ai_I := ((⟨"SuiteBenchModel", "answerBuilt", "(I)J"⟩, prog_14_method_47_code, 2, (some .long), 1, 2, 51, 0, 1, 0, 12) : ai_I)
def o_N_answerBuilt (a : Nat) : SP := match a with
  | 0 => f_N_states
  | 1 => f_N_isWordNumber
  | 2 => f_N_answers
  | _ => fun _ _ _ _ _ => False
theorem mo_N_answerBuilt : ∀ a, ai_mono (o_N_answerBuilt a)
  | 0 => mf_N_states
  | 1 => mf_N_isWordNumber
  | 2 => mf_N_answers
  | _ + 3 => fun _ _ _ _ _ _ _ h => h
def f_N_answerBuilt : SP := ai_M o_N_answerBuilt 0 2 k_N_answerBuilt
theorem mf_N_answerBuilt : ai_mono f_N_answerBuilt := M_mono mo_N_answerBuilt
abbrev cal_N_answerBuilt : List ai_I := [i_N_states, i_N_isWordNumber, i_N_answers]
theorem a_N_answerBuilt : ai_all "SuiteBenchModel" prog_14_method_47_code 2 kc_N cal_N_answerBuilt 2 51 false (some .long) k_N_answerBuilt = true := by decide +kernel
theorem w_N_answerBuilt : ai_CW i_N_answerBuilt := ⟨(tk_mem (l := [((Jvm.Cond.code ({ cls := "SuiteBenchModel", name := "answerBuilt", desc := "(I)J" } : Jvm.MethodName) prog_14_method_47_code (2 : Nat) (Option.some Jvm.ClassFile.FieldType.long)), 9, 26)]) (by decide +kernel) _ (List.mem_singleton.mpr rfl)), (tk_mem (l := [((Jvm.Cond.initialized "SuiteBenchModel"), 1, 15)]) (by decide +kernel) _ (List.mem_singleton.mpr rfl)), ⟨by decide +kernel, by decide +kernel, by decide +kernel⟩, ⟨(tk_mem (l := [((Jvm.Cond.instanceMethod ({ cls := "SuiteBenchModel", name := "answerBuilt", desc := "(I)J" } : Jvm.MethodName)), 9, 24)]) (by decide +kernel) _ (List.mem_singleton.mpr rfl)), (tk_mem (l := [((Jvm.Cond.selects "SuiteBenchModel" ({ cls := "SuiteBenchModel", name := "answerBuilt", desc := "(I)J" } : Jvm.MethodName) ({ cls := "SuiteBenchModel", name := "answerBuilt", desc := "(I)J" } : Jvm.MethodName)), 9, 25)]) (by decide +kernel) _ (List.mem_singleton.mpr rfl)), .inl ⟨_, _, rfl⟩⟩⟩
theorem c_N_answerBuilt {E2 : (Nat → Nat) → State → Heap → Prop} (hE : ai_XH E2) : ai_S E2 i_N_answerBuilt f_N_answerBuilt := snd_M (by decide) rfl (by decide) a_N_answerBuilt kc_N_ok (by rfl) (by decide) (fun a i h => match a, h with
    | 0, h => by cases h; exact ⟨c_N_states hE, w_N_states⟩
    | 1, h => by cases h; exact ⟨c_N_isWordNumber hE, w_N_isWordNumber⟩
    | 2, h => by cases h; exact ⟨c_N_answers hE, w_N_answers⟩
    | _ + 3, h => by simp [cal_N_answerBuilt, ai_nth] at h)
def k_B_access : ai_C := [
  [(0, .aload_n 0, 1, 0, 0, 0, 0, 0, []), (1, .iload_n 1, 1, 1, 0, 0, 0, 0, []), (2, .invokevirtual 147, 3, 0, 2, 84, 0, 0, [(0, 11)]), (5, .ifCond .eq 15, 3, 20, 0, 0, 0, 0, []), (8, .aload_n 0, 1, 0, 0, 0, 0, 0, []), (9, .getfield 38, 3, 11, 3, 10, 2, 3, []), (12, .getfield 169, 3, 9, 1, 90, 2, 1, []), (15, .iload_n 1, 1, 1, 0, 0, 0, 0, [])],
  [(16, .iaload, 1, 0, 0, 0, 0, 0, []), (17, .goto 4, 3, 21, 0, 0, 0, 0, []), (20, .iconst (-1), 1, 0, 0, 0, 0, (-1), []), (21, .ireturn, 1, 0, 0, 0, 0, 0, [])]]
def i_B_access : ai_I := ((⟨"SuiteBench", "access", "(I)I"⟩, prog_1_method_11_code, 2, (some .int), 0, 1, 21, 0, 1, 0, 11) : ai_I)
def o_B_access (a : Nat) : SP := match a with
  | 0 => f_B_isState
  | _ => fun _ _ _ _ _ => False
theorem mo_B_access : ∀ a, ai_mono (o_B_access a)
  | 0 => mf_B_isState
  | _ + 1 => fun _ _ _ _ _ _ _ h => h
def f_B_access : SP := ai_M o_B_access 0 2 k_B_access
theorem mf_B_access : ai_mono f_B_access := M_mono mo_B_access
abbrev cal_B_access : List ai_I := [i_B_isState]
theorem a_B_access : ai_all "SuiteBench" prog_1_method_11_code 2 kc_B cal_B_access 1 21 false (some .int) k_B_access = true := by decide +kernel
theorem w_B_access : ai_CW i_B_access := ⟨(tk_mem (l := [((Jvm.Cond.code ({ cls := "SuiteBench", name := "access", desc := "(I)I" } : Jvm.MethodName) prog_1_method_11_code (2 : Nat) (Option.some Jvm.ClassFile.FieldType.int)), 4, 149)]) (by decide +kernel) _ (List.mem_singleton.mpr rfl)), (tk_mem (l := [((Jvm.Cond.initialized "SuiteBench"), 1, 1)]) (by decide +kernel) _ (List.mem_singleton.mpr rfl)), ⟨by decide +kernel, by decide +kernel, by decide +kernel⟩, ⟨(tk_mem (l := [((Jvm.Cond.instanceMethod ({ cls := "SuiteBench", name := "access", desc := "(I)I" } : Jvm.MethodName)), 4, 147)]) (by decide +kernel) _ (List.mem_singleton.mpr rfl)), (tk_mem (l := [((Jvm.Cond.selects "SuiteBench" ({ cls := "SuiteBench", name := "access", desc := "(I)I" } : Jvm.MethodName) ({ cls := "SuiteBench", name := "access", desc := "(I)I" } : Jvm.MethodName)), 4, 148)]) (by decide +kernel) _ (List.mem_singleton.mpr rfl)), .inl ⟨_, _, rfl⟩⟩⟩
theorem c_B_access {E2 : (Nat → Nat) → State → Heap → Prop} (hE : ai_XH E2) : ai_S E2 i_B_access f_B_access := snd_M (by decide) rfl (by decide) a_B_access kc_B_ok (by rfl) (by decide) (fun a i h => match a, h with
    | 0, h => by cases h; exact ⟨c_B_isState hE, w_B_isState⟩
    | _ + 1, h => by simp [cal_B_access, ai_nth] at h)
def k_N_access : ai_C := [
  [(0, .aload_n 0, 1, 0, 0, 0, 0, 0, []), (1, .iconst 0, 1, 0, 0, 0, 0, 0, []), (2, .putfield 145, 3, 12, 0, 67, 0, 0, []), (5, .aload_n 0, 1, 0, 0, 0, 0, 0, []), (6, .iload_n 1, 1, 1, 0, 0, 0, 0, []), (7, .invokevirtual 307, 3, 0, 2, 105, 0, 0, [(0, 12)]), (10, .ifCond .eq 12, 3, 22, 0, 0, 0, 0, []), (13, .aload_n 0, 1, 0, 0, 0, 0, 0, []), (14, .getfield 44, 3, 12, 22, 1, 2, 22, [])],
  [(17, .iload_n 1, 1, 1, 0, 0, 0, 0, []), (18, .iaload, 1, 0, 0, 0, 0, 0, []), (19, .goto 4, 3, 23, 0, 0, 0, 0, []), (22, .iconst (-1), 1, 0, 0, 0, 0, (-1), []), (23, .ireturn, 1, 0, 0, 0, 0, 0, [])]]
def i_N_access : ai_I := ((⟨"SuiteBenchModel", "access", "(I)I"⟩, prog_14_method_53_code, 2, (some .int), 0, 2, 41, 0, 1, 0, 12) : ai_I)
def o_N_access (a : Nat) : SP := match a with
  | 0 => f_N_isState
  | _ => fun _ _ _ _ _ => False
theorem mo_N_access : ∀ a, ai_mono (o_N_access a)
  | 0 => mf_N_isState
  | _ + 1 => fun _ _ _ _ _ _ _ h => h
def f_N_access : SP := ai_M o_N_access 0 2 k_N_access
theorem mf_N_access : ai_mono f_N_access := M_mono mo_N_access
abbrev cal_N_access : List ai_I := [i_N_isState]
theorem a_N_access : ai_all "SuiteBenchModel" prog_14_method_53_code 2 kc_N cal_N_access 2 41 false (some .int) k_N_access = true := by decide +kernel
theorem w_N_access : ai_CW i_N_access := ⟨(tk_mem (l := [((Jvm.Cond.code ({ cls := "SuiteBenchModel", name := "access", desc := "(I)I" } : Jvm.MethodName) prog_14_method_53_code (2 : Nat) (Option.some Jvm.ClassFile.FieldType.int)), 9, 30)]) (by decide +kernel) _ (List.mem_singleton.mpr rfl)), (tk_mem (l := [((Jvm.Cond.initialized "SuiteBenchModel"), 1, 15)]) (by decide +kernel) _ (List.mem_singleton.mpr rfl)), ⟨by decide +kernel, by decide +kernel, by decide +kernel⟩, ⟨(tk_mem (l := [((Jvm.Cond.instanceMethod ({ cls := "SuiteBenchModel", name := "access", desc := "(I)I" } : Jvm.MethodName)), 9, 28)]) (by decide +kernel) _ (List.mem_singleton.mpr rfl)), (tk_mem (l := [((Jvm.Cond.selects "SuiteBenchModel" ({ cls := "SuiteBenchModel", name := "access", desc := "(I)I" } : Jvm.MethodName) ({ cls := "SuiteBenchModel", name := "access", desc := "(I)I" } : Jvm.MethodName)), 9, 29)]) (by decide +kernel) _ (List.mem_singleton.mpr rfl)), .inl ⟨_, _, rfl⟩⟩⟩
theorem c_N_access {E2 : (Nat → Nat) → State → Heap → Prop} (hE : ai_XH E2) : ai_S E2 i_N_access f_N_access := snd_M (by decide) rfl (by decide) a_N_access kc_N_ok (by rfl) (by decide) (fun a i h => match a, h with
    | 0, h => by cases h; exact ⟨c_N_isState hE, w_N_isState⟩
    | _ + 1, h => by simp [cal_N_access, ai_nth] at h)
def k_B_kind : ai_C := [
  [(0, .aload_n 0, 1, 0, 0, 0, 0, 0, []), (1, .iload_n 1, 1, 1, 0, 0, 0, 0, []), (2, .invokevirtual 147, 3, 0, 2, 84, 0, 0, [(0, 11)]), (5, .ifCond .eq 15, 3, 20, 0, 0, 0, 0, []), (8, .aload_n 0, 1, 0, 0, 0, 0, 0, []), (9, .getfield 38, 3, 11, 3, 10, 2, 3, []), (12, .getfield 172, 3, 9, 3, 91, 2, 3, []), (15, .iload_n 1, 1, 1, 0, 0, 0, 0, [])],
  [(16, .iaload, 1, 0, 0, 0, 0, 0, []), (17, .goto 4, 3, 21, 0, 0, 0, 0, []), (20, .iconst (-1), 1, 0, 0, 0, 0, (-1), []), (21, .ireturn, 1, 0, 0, 0, 0, 0, [])]]
def i_B_kind : ai_I := ((⟨"SuiteBench", "kind", "(I)I"⟩, prog_1_method_12_code, 2, (some .int), 0, 1, 21, 0, 1, 0, 11) : ai_I)
def o_B_kind (a : Nat) : SP := match a with
  | 0 => f_B_isState
  | _ => fun _ _ _ _ _ => False
theorem mo_B_kind : ∀ a, ai_mono (o_B_kind a)
  | 0 => mf_B_isState
  | _ + 1 => fun _ _ _ _ _ _ _ h => h
def f_B_kind : SP := ai_M o_B_kind 0 2 k_B_kind
theorem mf_B_kind : ai_mono f_B_kind := M_mono mo_B_kind
abbrev cal_B_kind : List ai_I := [i_B_isState]
theorem a_B_kind : ai_all "SuiteBench" prog_1_method_12_code 2 kc_B cal_B_kind 1 21 false (some .int) k_B_kind = true := by decide +kernel
theorem w_B_kind : ai_CW i_B_kind := ⟨(tk_mem (l := [((Jvm.Cond.code ({ cls := "SuiteBench", name := "kind", desc := "(I)I" } : Jvm.MethodName) prog_1_method_12_code (2 : Nat) (Option.some Jvm.ClassFile.FieldType.int)), 4, 153)]) (by decide +kernel) _ (List.mem_singleton.mpr rfl)), (tk_mem (l := [((Jvm.Cond.initialized "SuiteBench"), 1, 1)]) (by decide +kernel) _ (List.mem_singleton.mpr rfl)), ⟨by decide +kernel, by decide +kernel, by decide +kernel⟩, ⟨(tk_mem (l := [((Jvm.Cond.instanceMethod ({ cls := "SuiteBench", name := "kind", desc := "(I)I" } : Jvm.MethodName)), 4, 151)]) (by decide +kernel) _ (List.mem_singleton.mpr rfl)), (tk_mem (l := [((Jvm.Cond.selects "SuiteBench" ({ cls := "SuiteBench", name := "kind", desc := "(I)I" } : Jvm.MethodName) ({ cls := "SuiteBench", name := "kind", desc := "(I)I" } : Jvm.MethodName)), 4, 152)]) (by decide +kernel) _ (List.mem_singleton.mpr rfl)), .inl ⟨_, _, rfl⟩⟩⟩
theorem c_B_kind {E2 : (Nat → Nat) → State → Heap → Prop} (hE : ai_XH E2) : ai_S E2 i_B_kind f_B_kind := snd_M (by decide) rfl (by decide) a_B_kind kc_B_ok (by rfl) (by decide) (fun a i h => match a, h with
    | 0, h => by cases h; exact ⟨c_B_isState hE, w_B_isState⟩
    | _ + 1, h => by simp [cal_B_kind, ai_nth] at h)
def k_N_kindOf : ai_C := [
  [(0, .iconst 0, 1, 0, 0, 0, 0, 0, []), (1, .istore_n 2, 1, 2, 0, 0, 0, 0, []), (2, .aload_n 0, 1, 0, 0, 0, 0, 0, []), (3, .getfield 57, 3, 12, 27, 11, 2, 27, []), (6, .bipush 6, 2, 0, 0, 0, 0, 6, []), (8, .iload_n 1, 1, 1, 0, 0, 0, 0, []), (9, .imul, 1, 0, 0, 0, 0, 0, []), (10, .iload_n 2, 1, 2, 0, 0, 0, 0, []), (11, .iadd, 1, 0, 0, 0, 0, 0, []), (12, .iaload, 1, 0, 0, 0, 0, 0, []), (13, .bipush (-2), 2, 0, 0, 0, 0, (-2), []), (15, .if_icmp .eq 9, 3, 24, 0, 0, 0, 0, [])],
  [(18, .iinc 2 1, 3, 2, 0, 0, 0, 1, []), (21, .goto (-19), 3, 2, 0, 0, 0, 0, []), (24, .iload_n 2, 1, 2, 0, 0, 0, 0, []), (25, .ireturn, 1, 0, 0, 0, 0, 0, [])]]
def i_N_kindOf : ai_I := ((⟨"SuiteBenchModel", "kindOf", "(I)I"⟩, prog_14_method_52_code, 3, (some .int), 0, 0, 0, 0, 1, 0, 12) : ai_I)
def o_N_kindOf (_ : Nat) : SP := fun _ _ _ _ _ => False
theorem mo_N_kindOf : ∀ a, ai_mono (o_N_kindOf a) := fun _ _ _ _ _ _ _ _ h => h
def f_N_kindOf : SP := ai_M o_N_kindOf 0 3 k_N_kindOf
theorem mf_N_kindOf : ai_mono f_N_kindOf := M_mono mo_N_kindOf
abbrev cal_N_kindOf : List ai_I := []
theorem a_N_kindOf : ai_all "SuiteBenchModel" prog_14_method_52_code 3 kc_N cal_N_kindOf 0 0 false (some .int) k_N_kindOf = true := by decide +kernel
theorem w_N_kindOf : ai_CW i_N_kindOf := ⟨(tk_mem (l := [((Jvm.Cond.code ({ cls := "SuiteBenchModel", name := "kindOf", desc := "(I)I" } : Jvm.MethodName) prog_14_method_52_code (3 : Nat) (Option.some Jvm.ClassFile.FieldType.int)), 9, 38)]) (by decide +kernel) _ (List.mem_singleton.mpr rfl)), (tk_mem (l := [((Jvm.Cond.initialized "SuiteBenchModel"), 1, 15)]) (by decide +kernel) _ (List.mem_singleton.mpr rfl)), ⟨by decide +kernel, by decide +kernel, by decide +kernel⟩, ⟨(tk_mem (l := [((Jvm.Cond.instanceMethod ({ cls := "SuiteBenchModel", name := "kindOf", desc := "(I)I" } : Jvm.MethodName)), 9, 37)]) (by decide +kernel) _ (List.mem_singleton.mpr rfl)), gw_sel 103 (by decide +kernel), .inl ⟨_, _, rfl⟩⟩⟩
theorem c_N_kindOf {E2 : (Nat → Nat) → State → Heap → Prop} (hE : ai_XH E2) : ai_S E2 i_N_kindOf f_N_kindOf := snd_M (by decide) rfl (by decide) a_N_kindOf kc_N_ok (by rfl) (by decide) (fun a i h => by simp [cal_N_kindOf, ai_nth] at h)
def k_N_kind : ai_C := [
  [(0, .aload_n 0, 1, 0, 0, 0, 0, 0, []), (1, .iconst 0, 1, 0, 0, 0, 0, 0, []), (2, .putfield 145, 3, 12, 0, 67, 0, 0, []), (5, .aload_n 0, 1, 0, 0, 0, 0, 0, []), (6, .iload_n 1, 1, 1, 0, 0, 0, 0, []), (7, .invokevirtual 307, 3, 0, 2, 105, 0, 0, [(0, 12)]), (10, .ifCond .eq 11, 3, 21, 0, 0, 0, 0, []), (13, .aload_n 0, 1, 0, 0, 0, 0, 0, []), (14, .iload_n 1, 1, 1, 0, 0, 0, 0, []), (15, .invokevirtual 338, 3, 1, 2, 112, 0, 0, [(0, 12)])],
  [(18, .goto 4, 3, 22, 0, 0, 0, 0, []), (21, .iconst (-1), 1, 0, 0, 0, 0, (-1), []), (22, .ireturn, 1, 0, 0, 0, 0, 0, [])]]
def i_N_kind : ai_I := ((⟨"SuiteBenchModel", "kind", "(I)I"⟩, prog_14_method_54_code, 2, (some .int), 0, 2, 41, 0, 1, 0, 12) : ai_I)
def o_N_kind (a : Nat) : SP := match a with
  | 0 => f_N_isState
  | 1 => f_N_kindOf
  | _ => fun _ _ _ _ _ => False
theorem mo_N_kind : ∀ a, ai_mono (o_N_kind a)
  | 0 => mf_N_isState
  | 1 => mf_N_kindOf
  | _ + 2 => fun _ _ _ _ _ _ _ h => h
def f_N_kind : SP := ai_M o_N_kind 0 2 k_N_kind
theorem mf_N_kind : ai_mono f_N_kind := M_mono mo_N_kind
abbrev cal_N_kind : List ai_I := [i_N_isState, i_N_kindOf]
theorem a_N_kind : ai_all "SuiteBenchModel" prog_14_method_54_code 2 kc_N cal_N_kind 2 41 false (some .int) k_N_kind = true := by decide +kernel
theorem w_N_kind : ai_CW i_N_kind := ⟨(tk_mem (l := [((Jvm.Cond.code ({ cls := "SuiteBenchModel", name := "kind", desc := "(I)I" } : Jvm.MethodName) prog_14_method_54_code (2 : Nat) (Option.some Jvm.ClassFile.FieldType.int)), 9, 34)]) (by decide +kernel) _ (List.mem_singleton.mpr rfl)), (tk_mem (l := [((Jvm.Cond.initialized "SuiteBenchModel"), 1, 15)]) (by decide +kernel) _ (List.mem_singleton.mpr rfl)), ⟨by decide +kernel, by decide +kernel, by decide +kernel⟩, ⟨(tk_mem (l := [((Jvm.Cond.instanceMethod ({ cls := "SuiteBenchModel", name := "kind", desc := "(I)I" } : Jvm.MethodName)), 9, 32)]) (by decide +kernel) _ (List.mem_singleton.mpr rfl)), (tk_mem (l := [((Jvm.Cond.selects "SuiteBenchModel" ({ cls := "SuiteBenchModel", name := "kind", desc := "(I)I" } : Jvm.MethodName) ({ cls := "SuiteBenchModel", name := "kind", desc := "(I)I" } : Jvm.MethodName)), 9, 33)]) (by decide +kernel) _ (List.mem_singleton.mpr rfl)), .inl ⟨_, _, rfl⟩⟩⟩
theorem c_N_kind {E2 : (Nat → Nat) → State → Heap → Prop} (hE : ai_XH E2) : ai_S E2 i_N_kind f_N_kind := snd_M (by decide) rfl (by decide) a_N_kind kc_N_ok (by rfl) (by decide) (fun a i h => match a, h with
    | 0, h => by cases h; exact ⟨c_N_isState hE, w_N_isState⟩
    | 1, h => by cases h; exact ⟨c_N_kindOf hE, w_N_kindOf⟩
    | _ + 2, h => by simp [cal_N_kind, ai_nth] at h)
def k_B_separator : ai_C := [
  [(0, .aload_n 0, 1, 0, 0, 0, 0, 0, []), (1, .iload_n 1, 1, 1, 0, 0, 0, 0, []), (2, .invokevirtual 147, 3, 0, 2, 84, 0, 0, [(0, 11)]), (5, .ifCond .eq 11, 3, 16, 0, 0, 0, 0, []), (8, .aload_n 0, 1, 0, 0, 0, 0, 0, []), (9, .iload_n 2, 1, 2, 0, 0, 0, 0, []), (10, .invokevirtual 147, 3, 0, 2, 84, 0, 0, [(0, 11)]), (13, .ifCond .ne 5, 3, 18, 0, 0, 0, 0, [])],
  [(16, .iconst (-1), 1, 0, 0, 0, 0, (-1), []), (17, .ireturn, 1, 0, 0, 0, 0, 0, []), (18, .aload_n 0, 1, 0, 0, 0, 0, 0, []), (19, .getfield 38, 3, 11, 3, 10, 2, 3, []), (22, .getfield 175, 3, 9, 2, 92, 2, 2, []), (25, .iload_n 1, 1, 1, 0, 0, 0, 0, []), (26, .bipush 6, 2, 0, 0, 0, 0, 6, []), (28, .imul, 1, 0, 0, 0, 0, 0, []), (29, .iload_n 2, 1, 2, 0, 0, 0, 0, []), (30, .iadd, 1, 0, 0, 0, 0, 0, []), (31, .iaload, 1, 0, 0, 0, 0, 0, [])],
  [(32, .ireturn, 1, 0, 0, 0, 0, 0, [])]]
def i_B_separator : ai_I := ((⟨"SuiteBench", "separator", "(II)I"⟩, prog_1_method_13_code, 3, (some .int), 0, 1, 21, 0, 2, 0, 11) : ai_I)
def o_B_separator (a : Nat) : SP := match a with
  | 0 => f_B_isState
  | _ => fun _ _ _ _ _ => False
theorem mo_B_separator : ∀ a, ai_mono (o_B_separator a)
  | 0 => mf_B_isState
  | _ + 1 => fun _ _ _ _ _ _ _ h => h
def f_B_separator : SP := ai_M o_B_separator 0 3 k_B_separator
theorem mf_B_separator : ai_mono f_B_separator := M_mono mo_B_separator
abbrev cal_B_separator : List ai_I := [i_B_isState]
theorem a_B_separator : ai_all "SuiteBench" prog_1_method_13_code 3 kc_B cal_B_separator 1 21 false (some .int) k_B_separator = true := by decide +kernel
theorem w_B_separator : ai_CW i_B_separator := ⟨(tk_mem (l := [((Jvm.Cond.code ({ cls := "SuiteBench", name := "separator", desc := "(II)I" } : Jvm.MethodName) prog_1_method_13_code (3 : Nat) (Option.some Jvm.ClassFile.FieldType.int)), 4, 157)]) (by decide +kernel) _ (List.mem_singleton.mpr rfl)), (tk_mem (l := [((Jvm.Cond.initialized "SuiteBench"), 1, 1)]) (by decide +kernel) _ (List.mem_singleton.mpr rfl)), ⟨by decide +kernel, by decide +kernel, by decide +kernel⟩, ⟨(tk_mem (l := [((Jvm.Cond.instanceMethod ({ cls := "SuiteBench", name := "separator", desc := "(II)I" } : Jvm.MethodName)), 4, 155)]) (by decide +kernel) _ (List.mem_singleton.mpr rfl)), (tk_mem (l := [((Jvm.Cond.selects "SuiteBench" ({ cls := "SuiteBench", name := "separator", desc := "(II)I" } : Jvm.MethodName) ({ cls := "SuiteBench", name := "separator", desc := "(II)I" } : Jvm.MethodName)), 4, 156)]) (by decide +kernel) _ (List.mem_singleton.mpr rfl)), .inl ⟨_, _, rfl⟩⟩⟩
theorem c_B_separator {E2 : (Nat → Nat) → State → Heap → Prop} (hE : ai_XH E2) : ai_S E2 i_B_separator f_B_separator := snd_M (by decide) rfl (by decide) a_B_separator kc_B_ok (by rfl) (by decide) (fun a i h => match a, h with
    | 0, h => by cases h; exact ⟨c_B_isState hE, w_B_isState⟩
    | _ + 1, h => by simp [cal_B_separator, ai_nth] at h)
def k_N_separator : ai_C := [
  [(0, .aload_n 0, 1, 0, 0, 0, 0, 0, []), (1, .iconst 0, 1, 0, 0, 0, 0, 0, []), (2, .putfield 145, 3, 12, 0, 67, 0, 0, []), (5, .aload_n 0, 1, 0, 0, 0, 0, 0, []), (6, .iload_n 1, 1, 1, 0, 0, 0, 0, []), (7, .invokevirtual 307, 3, 0, 2, 105, 0, 0, [(0, 12)]), (10, .ifCond .eq 25, 3, 35, 0, 0, 0, 0, []), (13, .aload_n 0, 1, 0, 0, 0, 0, 0, []), (14, .iload_n 2, 1, 2, 0, 0, 0, 0, []), (15, .invokevirtual 307, 3, 0, 2, 105, 0, 0, [(0, 12)])],
  [(18, .ifCond .eq 17, 3, 35, 0, 0, 0, 0, []), (21, .aload_n 0, 1, 0, 0, 0, 0, 0, []), (22, .getfield 57, 3, 12, 27, 11, 2, 27, []), (25, .bipush 6, 2, 0, 0, 0, 0, 6, []), (27, .iload_n 1, 1, 1, 0, 0, 0, 0, []), (28, .imul, 1, 0, 0, 0, 0, 0, []), (29, .iload_n 2, 1, 2, 0, 0, 0, 0, []), (30, .iadd, 1, 0, 0, 0, 0, 0, []), (31, .iaload, 1, 0, 0, 0, 0, 0, [])],
  [(32, .goto 4, 3, 36, 0, 0, 0, 0, []), (35, .iconst (-1), 1, 0, 0, 0, 0, (-1), []), (36, .ireturn, 1, 0, 0, 0, 0, 0, [])]]
def i_N_separator : ai_I := ((⟨"SuiteBenchModel", "separator", "(II)I"⟩, prog_14_method_55_code, 3, (some .int), 0, 2, 41, 0, 2, 0, 12) : ai_I)
def o_N_separator (a : Nat) : SP := match a with
  | 0 => f_N_isState
  | _ => fun _ _ _ _ _ => False
theorem mo_N_separator : ∀ a, ai_mono (o_N_separator a)
  | 0 => mf_N_isState
  | _ + 1 => fun _ _ _ _ _ _ _ h => h
def f_N_separator : SP := ai_M o_N_separator 0 3 k_N_separator
theorem mf_N_separator : ai_mono f_N_separator := M_mono mo_N_separator
abbrev cal_N_separator : List ai_I := [i_N_isState]
theorem a_N_separator : ai_all "SuiteBenchModel" prog_14_method_55_code 3 kc_N cal_N_separator 2 41 false (some .int) k_N_separator = true := by decide +kernel
theorem w_N_separator : ai_CW i_N_separator := ⟨(tk_mem (l := [((Jvm.Cond.code ({ cls := "SuiteBenchModel", name := "separator", desc := "(II)I" } : Jvm.MethodName) prog_14_method_55_code (3 : Nat) (Option.some Jvm.ClassFile.FieldType.int)), 9, 42)]) (by decide +kernel) _ (List.mem_singleton.mpr rfl)), (tk_mem (l := [((Jvm.Cond.initialized "SuiteBenchModel"), 1, 15)]) (by decide +kernel) _ (List.mem_singleton.mpr rfl)), ⟨by decide +kernel, by decide +kernel, by decide +kernel⟩, ⟨(tk_mem (l := [((Jvm.Cond.instanceMethod ({ cls := "SuiteBenchModel", name := "separator", desc := "(II)I" } : Jvm.MethodName)), 9, 40)]) (by decide +kernel) _ (List.mem_singleton.mpr rfl)), (tk_mem (l := [((Jvm.Cond.selects "SuiteBenchModel" ({ cls := "SuiteBenchModel", name := "separator", desc := "(II)I" } : Jvm.MethodName) ({ cls := "SuiteBenchModel", name := "separator", desc := "(II)I" } : Jvm.MethodName)), 9, 41)]) (by decide +kernel) _ (List.mem_singleton.mpr rfl)), .inl ⟨_, _, rfl⟩⟩⟩
theorem c_N_separator {E2 : (Nat → Nat) → State → Heap → Prop} (hE : ai_XH E2) : ai_S E2 i_N_separator f_N_separator := snd_M (by decide) rfl (by decide) a_N_separator kc_N_ok (by rfl) (by decide) (fun a i h => match a, h with
    | 0, h => by cases h; exact ⟨c_N_isState hE, w_N_isState⟩
    | _ + 1, h => by simp [cal_N_separator, ai_nth] at h)
def k_B_splitter : ai_C := [
  [(0, .iload_n 1, 1, 1, 0, 0, 0, 0, []), (1, .ifCond .lt 13, 3, 14, 0, 0, 0, 0, []), (4, .aload_n 0, 1, 0, 0, 0, 0, 0, []), (5, .getfield 26, 3, 11, 1, 0, 2, 1, []), (8, .getfield 166, 3, 1, 2, 80, 0, 2, []), (11, .ifCond .ne 5, 3, 16, 0, 0, 0, 0, []), (14, .iconst (-1), 1, 0, 0, 0, 0, (-1), []), (15, .ireturn, 1, 0, 0, 0, 0, 0, [])],
  [(16, .iload_n 1, 1, 1, 0, 0, 0, 0, []), (17, .aload_n 0, 1, 0, 0, 0, 0, 0, []), (18, .getfield 38, 3, 11, 3, 10, 2, 3, []), (21, .getfield 178, 3, 9, 10, 93, 0, 10, []), (24, .if_icmp .ge 15, 3, 39, 0, 0, 0, 0, []), (27, .aload_n 0, 1, 0, 0, 0, 0, 0, []), (28, .getfield 38, 3, 11, 3, 10, 2, 3, []), (31, .getfield 181, 3, 9, 4, 94, 2, 4, [])],
  [(34, .iload_n 1, 1, 1, 0, 0, 0, 0, []), (35, .iaload, 1, 0, 0, 0, 0, 0, []), (36, .goto 5, 3, 41, 0, 0, 0, 0, []), (39, .bipush (-2), 2, 0, 0, 0, 0, (-2), []), (41, .ireturn, 1, 0, 0, 0, 0, 0, [])]]
def i_B_splitter : ai_I := ((⟨"SuiteBench", "splitter", "(I)I"⟩, prog_1_method_14_code, 2, (some .int), 0, 0, 0, 0, 1, 0, 11) : ai_I)
def o_B_splitter (_ : Nat) : SP := fun _ _ _ _ _ => False
theorem mo_B_splitter : ∀ a, ai_mono (o_B_splitter a) := fun _ _ _ _ _ _ _ _ h => h
def f_B_splitter : SP := ai_M o_B_splitter 0 2 k_B_splitter
theorem mf_B_splitter : ai_mono f_B_splitter := M_mono mo_B_splitter
abbrev cal_B_splitter : List ai_I := []
theorem a_B_splitter : ai_all "SuiteBench" prog_1_method_14_code 2 kc_B cal_B_splitter 0 0 false (some .int) k_B_splitter = true := by decide +kernel
theorem w_B_splitter : ai_CW i_B_splitter := ⟨(tk_mem (l := [((Jvm.Cond.code ({ cls := "SuiteBench", name := "splitter", desc := "(I)I" } : Jvm.MethodName) prog_1_method_14_code (2 : Nat) (Option.some Jvm.ClassFile.FieldType.int)), 4, 161)]) (by decide +kernel) _ (List.mem_singleton.mpr rfl)), (tk_mem (l := [((Jvm.Cond.initialized "SuiteBench"), 1, 1)]) (by decide +kernel) _ (List.mem_singleton.mpr rfl)), ⟨by decide +kernel, by decide +kernel, by decide +kernel⟩, ⟨(tk_mem (l := [((Jvm.Cond.instanceMethod ({ cls := "SuiteBench", name := "splitter", desc := "(I)I" } : Jvm.MethodName)), 4, 159)]) (by decide +kernel) _ (List.mem_singleton.mpr rfl)), (tk_mem (l := [((Jvm.Cond.selects "SuiteBench" ({ cls := "SuiteBench", name := "splitter", desc := "(I)I" } : Jvm.MethodName) ({ cls := "SuiteBench", name := "splitter", desc := "(I)I" } : Jvm.MethodName)), 4, 160)]) (by decide +kernel) _ (List.mem_singleton.mpr rfl)), .inl ⟨_, _, rfl⟩⟩⟩
theorem c_B_splitter {E2 : (Nat → Nat) → State → Heap → Prop} (hE : ai_XH E2) : ai_S E2 i_B_splitter f_B_splitter := snd_M (by decide) rfl (by decide) a_B_splitter kc_B_ok (by rfl) (by decide) (fun a i h => by simp [cal_B_splitter, ai_nth] at h)
def k_N_splitter : ai_C := [
  [(0, .aload_n 0, 1, 0, 0, 0, 0, 0, []), (1, .iconst 0, 1, 0, 0, 0, 0, 0, []), (2, .putfield 145, 3, 12, 0, 67, 0, 0, []), (5, .iload_n 1, 1, 1, 0, 0, 0, 0, []), (6, .ifCond .lt 10, 3, 16, 0, 0, 0, 0, []), (9, .aload_n 0, 1, 0, 0, 0, 0, 0, []), (10, .invokevirtual 272, 3, 0, 1, 2, 0, 0, [(0, 12)]), (13, .ifCond .ne 5, 3, 18, 0, 0, 0, 0, [])],
  [(16, .iconst (-1), 1, 0, 0, 0, 0, (-1), []), (17, .ireturn, 1, 0, 0, 0, 0, 0, []), (18, .iload_n 1, 1, 1, 0, 0, 0, 0, []), (19, .aload_n 0, 1, 0, 0, 0, 0, 0, []), (20, .getfield 341, 3, 12, 29, 16, 0, 29, []), (23, .if_icmp .ge 12, 3, 35, 0, 0, 0, 0, []), (26, .aload_n 0, 1, 0, 0, 0, 0, 0, []), (27, .getfield 60, 3, 12, 28, 17, 2, 28, []), (30, .iload_n 1, 1, 1, 0, 0, 0, 0, []), (31, .iaload, 1, 0, 0, 0, 0, 0, [])],
  [(32, .goto 5, 3, 37, 0, 0, 0, 0, []), (35, .bipush (-2), 2, 0, 0, 0, 0, (-2), []), (37, .ireturn, 1, 0, 0, 0, 0, 0, [])]]
def i_N_splitter : ai_I := ((⟨"SuiteBenchModel", "splitter", "(I)I"⟩, prog_14_method_60_code, 2, (some .int), 0, 1, 20, 0, 1, 0, 12) : ai_I)
def o_N_splitter (a : Nat) : SP := match a with
  | 0 => f_N_states
  | _ => fun _ _ _ _ _ => False
theorem mo_N_splitter : ∀ a, ai_mono (o_N_splitter a)
  | 0 => mf_N_states
  | _ + 1 => fun _ _ _ _ _ _ _ h => h
def f_N_splitter : SP := ai_M o_N_splitter 0 2 k_N_splitter
theorem mf_N_splitter : ai_mono f_N_splitter := M_mono mo_N_splitter
abbrev cal_N_splitter : List ai_I := [i_N_states]
theorem a_N_splitter : ai_all "SuiteBenchModel" prog_14_method_60_code 2 kc_N cal_N_splitter 1 20 false (some .int) k_N_splitter = true := by decide +kernel
theorem w_N_splitter : ai_CW i_N_splitter := ⟨(tk_mem (l := [((Jvm.Cond.code ({ cls := "SuiteBenchModel", name := "splitter", desc := "(I)I" } : Jvm.MethodName) prog_14_method_60_code (2 : Nat) (Option.some Jvm.ClassFile.FieldType.int)), 9, 46)]) (by decide +kernel) _ (List.mem_singleton.mpr rfl)), (tk_mem (l := [((Jvm.Cond.initialized "SuiteBenchModel"), 1, 15)]) (by decide +kernel) _ (List.mem_singleton.mpr rfl)), ⟨by decide +kernel, by decide +kernel, by decide +kernel⟩, ⟨(tk_mem (l := [((Jvm.Cond.instanceMethod ({ cls := "SuiteBenchModel", name := "splitter", desc := "(I)I" } : Jvm.MethodName)), 9, 44)]) (by decide +kernel) _ (List.mem_singleton.mpr rfl)), (tk_mem (l := [((Jvm.Cond.selects "SuiteBenchModel" ({ cls := "SuiteBenchModel", name := "splitter", desc := "(I)I" } : Jvm.MethodName) ({ cls := "SuiteBenchModel", name := "splitter", desc := "(I)I" } : Jvm.MethodName)), 9, 45)]) (by decide +kernel) _ (List.mem_singleton.mpr rfl)), .inl ⟨_, _, rfl⟩⟩⟩
theorem c_N_splitter {E2 : (Nat → Nat) → State → Heap → Prop} (hE : ai_XH E2) : ai_S E2 i_N_splitter f_N_splitter := snd_M (by decide) rfl (by decide) a_N_splitter kc_N_ok (by rfl) (by decide) (fun a i h => match a, h with
    | 0, h => by cases h; exact ⟨c_N_states hE, w_N_states⟩
    | _ + 1, h => by simp [cal_N_splitter, ai_nth] at h)
def k_B_mark : ai_C := [
  [(0, .iload_n 2, 1, 2, 0, 0, 0, 0, []), (1, .ifCond .lt 11, 3, 12, 0, 0, 0, 0, []), (4, .aload_n 0, 1, 0, 0, 0, 0, 0, []), (5, .iload_n 1, 1, 1, 0, 0, 0, 0, []), (6, .invokevirtual 147, 3, 0, 2, 84, 0, 0, [(0, 11)]), (9, .ifCond .ne 5, 3, 14, 0, 0, 0, 0, []), (12, .iconst (-1), 1, 0, 0, 0, 0, (-1), []), (13, .ireturn, 1, 0, 0, 0, 0, 0, []), (14, .iload_n 2, 1, 2, 0, 0, 0, 0, []), (15, .aload_n 0, 1, 0, 0, 0, 0, 0, [])],
  [(16, .getfield 38, 3, 11, 3, 10, 2, 3, []), (19, .getfield 184, 3, 9, 6, 95, 2, 6, []), (22, .iload_n 1, 1, 1, 0, 0, 0, 0, []), (23, .iaload, 1, 0, 0, 0, 0, 0, []), (24, .if_icmp .ge 20, 3, 44, 0, 0, 0, 0, []), (27, .aload_n 0, 1, 0, 0, 0, 0, 0, []), (28, .getfield 38, 3, 11, 3, 10, 2, 3, []), (31, .getfield 187, 3, 9, 5, 96, 2, 5, [])],
  [(34, .iload_n 1, 1, 1, 0, 0, 0, 0, []), (35, .bipush 6, 2, 0, 0, 0, 0, 6, []), (37, .imul, 1, 0, 0, 0, 0, 0, []), (38, .iload_n 2, 1, 2, 0, 0, 0, 0, []), (39, .iadd, 1, 0, 0, 0, 0, 0, []), (40, .iaload, 1, 0, 0, 0, 0, 0, []), (41, .goto 5, 3, 46, 0, 0, 0, 0, []), (44, .bipush (-2), 2, 0, 0, 0, 0, (-2), []), (46, .ireturn, 1, 0, 0, 0, 0, 0, [])]]
def i_B_mark : ai_I := ((⟨"SuiteBench", "mark", "(II)I"⟩, prog_1_method_15_code, 3, (some .int), 0, 1, 21, 0, 2, 0, 11) : ai_I)
def o_B_mark (a : Nat) : SP := match a with
  | 0 => f_B_isState
  | _ => fun _ _ _ _ _ => False
theorem mo_B_mark : ∀ a, ai_mono (o_B_mark a)
  | 0 => mf_B_isState
  | _ + 1 => fun _ _ _ _ _ _ _ h => h
def f_B_mark : SP := ai_M o_B_mark 0 3 k_B_mark
theorem mf_B_mark : ai_mono f_B_mark := M_mono mo_B_mark
abbrev cal_B_mark : List ai_I := [i_B_isState]
theorem a_B_mark : ai_all "SuiteBench" prog_1_method_15_code 3 kc_B cal_B_mark 1 21 false (some .int) k_B_mark = true := by decide +kernel
theorem w_B_mark : ai_CW i_B_mark := ⟨(tk_mem (l := [((Jvm.Cond.code ({ cls := "SuiteBench", name := "mark", desc := "(II)I" } : Jvm.MethodName) prog_1_method_15_code (3 : Nat) (Option.some Jvm.ClassFile.FieldType.int)), 4, 165)]) (by decide +kernel) _ (List.mem_singleton.mpr rfl)), (tk_mem (l := [((Jvm.Cond.initialized "SuiteBench"), 1, 1)]) (by decide +kernel) _ (List.mem_singleton.mpr rfl)), ⟨by decide +kernel, by decide +kernel, by decide +kernel⟩, ⟨(tk_mem (l := [((Jvm.Cond.instanceMethod ({ cls := "SuiteBench", name := "mark", desc := "(II)I" } : Jvm.MethodName)), 4, 163)]) (by decide +kernel) _ (List.mem_singleton.mpr rfl)), (tk_mem (l := [((Jvm.Cond.selects "SuiteBench" ({ cls := "SuiteBench", name := "mark", desc := "(II)I" } : Jvm.MethodName) ({ cls := "SuiteBench", name := "mark", desc := "(II)I" } : Jvm.MethodName)), 4, 164)]) (by decide +kernel) _ (List.mem_singleton.mpr rfl)), .inl ⟨_, _, rfl⟩⟩⟩
theorem c_B_mark {E2 : (Nat → Nat) → State → Heap → Prop} (hE : ai_XH E2) : ai_S E2 i_B_mark f_B_mark := snd_M (by decide) rfl (by decide) a_B_mark kc_B_ok (by rfl) (by decide) (fun a i h => match a, h with
    | 0, h => by cases h; exact ⟨c_B_isState hE, w_B_isState⟩
    | _ + 1, h => by simp [cal_B_mark, ai_nth] at h)
def k_N_markAbove : ai_C := [
  [(0, .bipush (-2), 2, 0, 0, 0, 0, (-2), []), (2, .istore_n 3, 1, 3, 0, 0, 0, 0, []), (3, .iconst 0, 1, 0, 0, 0, 0, 0, []), (4, .istore 4, 2, 4, 0, 0, 0, 0, []), (6, .iconst 0, 1, 0, 0, 0, 0, 0, []), (7, .istore 5, 2, 5, 0, 0, 0, 0, []), (9, .iload 5, 2, 5, 0, 0, 0, 0, []), (11, .aload_n 0, 1, 0, 0, 0, 0, 0, []), (12, .invokevirtual 272, 3, 0, 1, 2, 0, 0, [(0, 12)]), (15, .if_icmp .ge 66, 3, 81, 0, 0, 0, 0, [])],
  [(18, .aload_n 0, 1, 0, 0, 0, 0, 0, []), (19, .getfield 57, 3, 12, 27, 11, 2, 27, []), (22, .bipush 6, 2, 0, 0, 0, 0, 6, []), (24, .iload_n 1, 1, 1, 0, 0, 0, 0, []), (25, .imul, 1, 0, 0, 0, 0, 0, []), (26, .iload 5, 2, 5, 0, 0, 0, 0, []), (28, .iadd, 1, 0, 0, 0, 0, 0, []), (29, .iaload, 1, 0, 0, 0, 0, 0, []), (30, .istore 6, 2, 6, 0, 0, 0, 0, [])],
  [(32, .aload_n 0, 1, 0, 0, 0, 0, 0, []), (33, .iload 5, 2, 5, 0, 0, 0, 0, []), (35, .invokevirtual 331, 3, 1, 2, 6, 0, 0, [(0, 12)]), (38, .ifCond .eq 37, 3, 75, 0, 0, 0, 0, []), (41, .iload 6, 2, 6, 0, 0, 0, 0, []), (43, .bipush (-2), 2, 0, 0, 0, 0, (-2), []), (45, .if_icmp .ne 6, 3, 51, 0, 0, 0, 0, [])],
  [(48, .goto 27, 3, 75, 0, 0, 0, 0, []), (51, .iconst 1, 1, 0, 0, 0, 0, 1, []), (52, .istore 4, 2, 4, 0, 0, 0, 0, []), (54, .iload 6, 2, 6, 0, 0, 0, 0, []), (56, .iload_n 2, 1, 2, 0, 0, 0, 0, []), (57, .if_icmp .le 18, 3, 75, 0, 0, 0, 0, []), (60, .iload_n 3, 1, 3, 0, 0, 0, 0, []), (61, .bipush (-2), 2, 0, 0, 0, 0, (-2), []), (63, .if_icmp .eq 9, 3, 72, 0, 0, 0, 0, [])],
  [(66, .iload 6, 2, 6, 0, 0, 0, 0, []), (68, .iload_n 3, 1, 3, 0, 0, 0, 0, []), (69, .if_icmp .ge 6, 3, 75, 0, 0, 0, 0, []), (72, .iload 6, 2, 6, 0, 0, 0, 0, []), (74, .istore_n 3, 1, 3, 0, 0, 0, 0, []), (75, .iinc 5 1, 3, 5, 0, 0, 0, 1, []), (78, .goto (-69), 3, 9, 0, 0, 0, 0, [])],
  [(81, .iload 4, 2, 4, 0, 0, 0, 0, []), (83, .ifCond .eq 7, 3, 90, 0, 0, 0, 0, []), (86, .iload_n 3, 1, 3, 0, 0, 0, 0, []), (87, .goto 13, 3, 100, 0, 0, 0, 0, []), (90, .iload_n 2, 1, 2, 0, 0, 0, 0, []), (91, .ifCond .ge 7, 3, 98, 0, 0, 0, 0, []), (94, .iconst 0, 1, 0, 0, 0, 0, 0, []), (95, .goto 5, 3, 100, 0, 0, 0, 0, [])],
  [(98, .bipush (-2), 2, 0, 0, 0, 0, (-2), []), (100, .ireturn, 1, 0, 0, 0, 0, 0, [])]]
def i_N_markAbove : ai_I := ((⟨"SuiteBenchModel", "markAbove", "(II)I"⟩, prog_14_method_59_code, 7, (some .int), 0, 1, 21, 0, 2, 0, 12) : ai_I)
def o_N_markAbove (a : Nat) : SP := match a with
  | 0 => f_N_states
  | 1 => f_N_isReached
  | _ => fun _ _ _ _ _ => False
theorem mo_N_markAbove : ∀ a, ai_mono (o_N_markAbove a)
  | 0 => mf_N_states
  | 1 => mf_N_isReached
  | _ + 2 => fun _ _ _ _ _ _ _ h => h
def f_N_markAbove : SP := ai_M o_N_markAbove 0 7 k_N_markAbove
theorem mf_N_markAbove : ai_mono f_N_markAbove := M_mono mo_N_markAbove
abbrev cal_N_markAbove : List ai_I := [i_N_states, i_N_isReached]
theorem a_N_markAbove : ai_all "SuiteBenchModel" prog_14_method_59_code 7 kc_N cal_N_markAbove 1 21 false (some .int) k_N_markAbove = true := by decide +kernel
theorem w_N_markAbove : ai_CW i_N_markAbove := ⟨(tk_mem (l := [((Jvm.Cond.code ({ cls := "SuiteBenchModel", name := "markAbove", desc := "(II)I" } : Jvm.MethodName) prog_14_method_59_code (7 : Nat) (Option.some Jvm.ClassFile.FieldType.int)), 9, 54)]) (by decide +kernel) _ (List.mem_singleton.mpr rfl)), (tk_mem (l := [((Jvm.Cond.initialized "SuiteBenchModel"), 1, 15)]) (by decide +kernel) _ (List.mem_singleton.mpr rfl)), ⟨by decide +kernel, by decide +kernel, by decide +kernel⟩, ⟨(tk_mem (l := [((Jvm.Cond.instanceMethod ({ cls := "SuiteBenchModel", name := "markAbove", desc := "(II)I" } : Jvm.MethodName)), 9, 53)]) (by decide +kernel) _ (List.mem_singleton.mpr rfl)), gw_sel 104 (by decide +kernel), .inl ⟨_, _, rfl⟩⟩⟩
theorem c_N_markAbove {E2 : (Nat → Nat) → State → Heap → Prop} (hE : ai_XH E2) : ai_S E2 i_N_markAbove f_N_markAbove := snd_M (by decide) rfl (by decide) a_N_markAbove kc_N_ok (by rfl) (by decide) (fun a i h => match a, h with
    | 0, h => by cases h; exact ⟨c_N_states hE, w_N_states⟩
    | 1, h => by cases h; exact ⟨c_N_isReached hE, w_N_isReached⟩
    | _ + 2, h => by simp [cal_N_markAbove, ai_nth] at h)
def k_N_mark : ai_C := [
  [(0, .aload_n 0, 1, 0, 0, 0, 0, 0, []), (1, .iconst 0, 1, 0, 0, 0, 0, 0, []), (2, .putfield 145, 3, 12, 0, 67, 0, 0, []), (5, .aload_n 0, 1, 0, 0, 0, 0, 0, []), (6, .iload_n 1, 1, 1, 0, 0, 0, 0, []), (7, .invokevirtual 307, 3, 0, 2, 105, 0, 0, [(0, 12)]), (10, .ifCond .eq 7, 3, 17, 0, 0, 0, 0, []), (13, .iload_n 2, 1, 2, 0, 0, 0, 0, []), (14, .ifCond .ge 5, 3, 19, 0, 0, 0, 0, [])],
  [(17, .iconst (-1), 1, 0, 0, 0, 0, (-1), []), (18, .ireturn, 1, 0, 0, 0, 0, 0, []), (19, .aload_n 0, 1, 0, 0, 0, 0, 0, []), (20, .iload_n 1, 1, 1, 0, 0, 0, 0, []), (21, .iconst (-1), 1, 0, 0, 0, 0, (-1), []), (22, .invokevirtual 348, 3, 1, 3, 113, 0, 0, [(0, 12)]), (25, .istore_n 3, 1, 3, 0, 0, 0, 0, []), (26, .iconst 0, 1, 0, 0, 0, 0, 0, []), (27, .istore 4, 2, 4, 0, 0, 0, 0, []), (29, .iload 4, 2, 4, 0, 0, 0, 0, []), (31, .iload_n 2, 1, 2, 0, 0, 0, 0, [])],
  [(32, .if_icmp .ge 22, 3, 54, 0, 0, 0, 0, []), (35, .iload_n 3, 1, 3, 0, 0, 0, 0, []), (36, .bipush (-2), 2, 0, 0, 0, 0, (-2), []), (38, .if_icmp .eq 16, 3, 54, 0, 0, 0, 0, []), (41, .aload_n 0, 1, 0, 0, 0, 0, 0, []), (42, .iload_n 1, 1, 1, 0, 0, 0, 0, []), (43, .iload_n 3, 1, 3, 0, 0, 0, 0, []), (44, .invokevirtual 348, 3, 1, 3, 113, 0, 0, [(0, 12)]), (47, .istore_n 3, 1, 3, 0, 0, 0, 0, [])],
  [(48, .iinc 4 1, 3, 4, 0, 0, 0, 1, []), (51, .goto (-22), 3, 29, 0, 0, 0, 0, []), (54, .iload_n 3, 1, 3, 0, 0, 0, 0, []), (55, .ireturn, 1, 0, 0, 0, 0, 0, [])]]
def i_N_mark : ai_I := ((⟨"SuiteBenchModel", "mark", "(II)I"⟩, prog_14_method_61_code, 5, (some .int), 0, 2, 47, 0, 2, 0, 12) : ai_I)
def o_N_mark (a : Nat) : SP := match a with
  | 0 => f_N_isState
  | 1 => f_N_markAbove
  | _ => fun _ _ _ _ _ => False
theorem mo_N_mark : ∀ a, ai_mono (o_N_mark a)
  | 0 => mf_N_isState
  | 1 => mf_N_markAbove
  | _ + 2 => fun _ _ _ _ _ _ _ h => h
def f_N_mark : SP := ai_M o_N_mark 0 5 k_N_mark
theorem mf_N_mark : ai_mono f_N_mark := M_mono mo_N_mark
abbrev cal_N_mark : List ai_I := [i_N_isState, i_N_markAbove]
theorem a_N_mark : ai_all "SuiteBenchModel" prog_14_method_61_code 5 kc_N cal_N_mark 2 47 false (some .int) k_N_mark = true := by decide +kernel
theorem w_N_mark : ai_CW i_N_mark := ⟨(tk_mem (l := [((Jvm.Cond.code ({ cls := "SuiteBenchModel", name := "mark", desc := "(II)I" } : Jvm.MethodName) prog_14_method_61_code (5 : Nat) (Option.some Jvm.ClassFile.FieldType.int)), 9, 50)]) (by decide +kernel) _ (List.mem_singleton.mpr rfl)), (tk_mem (l := [((Jvm.Cond.initialized "SuiteBenchModel"), 1, 15)]) (by decide +kernel) _ (List.mem_singleton.mpr rfl)), ⟨by decide +kernel, by decide +kernel, by decide +kernel⟩, ⟨(tk_mem (l := [((Jvm.Cond.instanceMethod ({ cls := "SuiteBenchModel", name := "mark", desc := "(II)I" } : Jvm.MethodName)), 9, 48)]) (by decide +kernel) _ (List.mem_singleton.mpr rfl)), (tk_mem (l := [((Jvm.Cond.selects "SuiteBenchModel" ({ cls := "SuiteBenchModel", name := "mark", desc := "(II)I" } : Jvm.MethodName) ({ cls := "SuiteBenchModel", name := "mark", desc := "(II)I" } : Jvm.MethodName)), 9, 49)]) (by decide +kernel) _ (List.mem_singleton.mpr rfl)), .inl ⟨_, _, rfl⟩⟩⟩
theorem c_N_mark {E2 : (Nat → Nat) → State → Heap → Prop} (hE : ai_XH E2) : ai_S E2 i_N_mark f_N_mark := snd_M (by decide) rfl (by decide) a_N_mark kc_N_ok (by rfl) (by decide) (fun a i h => match a, h with
    | 0, h => by cases h; exact ⟨c_N_isState hE, w_N_isState⟩
    | 1, h => by cases h; exact ⟨c_N_markAbove hE, w_N_markAbove⟩
    | _ + 2, h => by simp [cal_N_mark, ai_nth] at h)
def k_S_push : ai_C := [
  [(0, .iload_n 1, 1, 1, 0, 0, 0, 0, []), (1, .ifCond .lt 19, 3, 20, 0, 0, 0, 0, []), (4, .iload_n 1, 1, 1, 0, 0, 0, 0, []), (5, .ldc 51, 2, 0, 0, 13, 0, 262144, []), (7, .if_icmp .ge 13, 3, 20, 0, 0, 0, 0, []), (10, .aload_n 0, 1, 0, 0, 0, 0, 0, []), (11, .getfield 52, 3, 5, 10, 14, 0, 10, []), (14, .sipush 3280, 3, 0, 0, 0, 0, 3280, [])],
  [(17, .if_icmp .lt 4, 3, 21, 0, 0, 0, 0, []), (20, .return_, 1, 0, 0, 0, 0, 0, []), (21, .iconst 1, 1, 0, 0, 0, 0, 1, []), (22, .iload_n 1, 1, 1, 0, 0, 0, 0, []), (23, .bipush 31, 2, 0, 0, 0, 0, 31, []), (25, .iand, 1, 0, 0, 0, 0, 0, []), (26, .ishl, 1, 0, 0, 0, 0, 0, []), (27, .istore_n 3, 1, 3, 0, 0, 0, 0, []), (28, .aload_n 0, 1, 0, 0, 0, 0, 0, []), (29, .getfield 18, 3, 5, 4, 4, 2, 4, [])],
  [(32, .iload_n 1, 1, 1, 0, 0, 0, 0, []), (33, .iconst 5, 1, 0, 0, 0, 0, 5, []), (34, .ishr, 1, 0, 0, 0, 0, 0, []), (35, .iaload, 1, 0, 0, 0, 0, 0, []), (36, .iload_n 3, 1, 3, 0, 0, 0, 0, []), (37, .iand, 1, 0, 0, 0, 0, 0, []), (38, .ifCond .ne 45, 3, 83, 0, 0, 0, 0, []), (41, .aload_n 0, 1, 0, 0, 0, 0, 0, []), (42, .getfield 18, 3, 5, 4, 4, 2, 4, []), (45, .iload_n 1, 1, 1, 0, 0, 0, 0, []), (46, .iconst 5, 1, 0, 0, 0, 0, 5, []), (47, .ishr, 1, 0, 0, 0, 0, 0, [])],
  [(48, .dup2, 1, 0, 0, 0, 0, 0, []), (49, .iaload, 1, 0, 0, 0, 0, 0, []), (50, .iload_n 3, 1, 3, 0, 0, 0, 0, []), (51, .ior, 1, 0, 0, 0, 0, 0, []), (52, .iastore, 1, 0, 0, 0, 0, 0, []), (53, .aload_n 0, 1, 0, 0, 0, 0, 0, []), (54, .getfield 11, 3, 5, 2, 2, 2, 2, []), (57, .aload_n 0, 1, 0, 0, 0, 0, 0, []), (58, .getfield 52, 3, 5, 10, 14, 0, 10, []), (61, .iload_n 1, 1, 1, 0, 0, 0, 0, []), (62, .iastore, 1, 0, 0, 0, 0, 0, []), (63, .aload_n 0, 1, 0, 0, 0, 0, 0, [])],
  [(64, .getfield 15, 3, 5, 3, 3, 2, 3, []), (67, .aload_n 0, 1, 0, 0, 0, 0, 0, []), (68, .getfield 52, 3, 5, 10, 14, 0, 10, []), (71, .iload_n 2, 1, 2, 0, 0, 0, 0, []), (72, .iastore, 1, 0, 0, 0, 0, 0, []), (73, .aload_n 0, 1, 0, 0, 0, 0, 0, []), (74, .dup, 1, 0, 0, 0, 0, 0, []), (75, .getfield 52, 3, 5, 10, 14, 0, 10, []), (78, .iconst 1, 1, 0, 0, 0, 0, 1, []), (79, .iadd, 1, 0, 0, 0, 0, 0, [])],
  [(80, .putfield 52, 3, 5, 10, 14, 0, 10, []), (83, .return_, 1, 0, 0, 0, 0, 0, [])]]
def i_S_push : ai_I := ((⟨"SuiteBench$Search", "push", "(II)V"⟩, prog_7_method_3_code, 4, none, 9, 0, 0, 0, 2, 0, 5) : ai_I)
def o_S_push (_ : Nat) : SP := fun _ _ _ _ _ => False
theorem mo_S_push : ∀ a, ai_mono (o_S_push a) := fun _ _ _ _ _ _ _ _ h => h
def f_S_push : SP := ai_M o_S_push 0 4 k_S_push
theorem mf_S_push : ai_mono f_S_push := M_mono mo_S_push
abbrev cal_S_push : List ai_I := []
theorem a_S_push : ai_all "SuiteBench$Search" prog_7_method_3_code 4 kc_S cal_S_push 0 0 false none k_S_push = true := by decide +kernel
theorem w_S_push : ai_CW i_S_push := ⟨(tk_mem (l := [((Jvm.Cond.code ({ cls := "SuiteBench$Search", name := "push", desc := "(II)V" } : Jvm.MethodName) prog_7_method_3_code (4 : Nat) (Option.none : Option Jvm.ClassFile.FieldType)), 4, 181)]) (by decide +kernel) _ (List.mem_singleton.mpr rfl)), (tk_mem (l := [((Jvm.Cond.initialized "SuiteBench$Search"), 1, 7)]) (by decide +kernel) _ (List.mem_singleton.mpr rfl)), ⟨by decide +kernel, by decide +kernel, by decide +kernel⟩, ⟨(tk_mem (l := [((Jvm.Cond.instanceMethod ({ cls := "SuiteBench$Search", name := "push", desc := "(II)V" } : Jvm.MethodName)), 4, 180)]) (by decide +kernel) _ (List.mem_singleton.mpr rfl)), gw_sel 30 (by decide +kernel), .inl ⟨_, _, rfl⟩⟩⟩
theorem c_S_push {E2 : (Nat → Nat) → State → Heap → Prop} (hE : ai_XH E2) : ai_S E2 i_S_push f_S_push := snd_M (by decide) rfl (by decide) a_S_push kc_S_ok (by rfl) (by decide) (fun a i h => by simp [cal_S_push, ai_nth] at h)
def k_S_followSign : ai_C := [
  [(0, .iload_n 1, 1, 1, 0, 0, 0, 0, []), (1, .bipush 7, 2, 0, 0, 0, 0, 7, []), (3, .iand, 1, 0, 0, 0, 0, 0, []), (4, .iconst 3, 1, 0, 0, 0, 0, 3, []), (5, .imul, 1, 0, 0, 0, 0, 0, []), (6, .iload_n 2, 1, 2, 0, 0, 0, 0, []), (7, .iadd, 1, 0, 0, 0, 0, 0, []), (8, .istore_n 3, 1, 3, 0, 0, 0, 0, []), (9, .iconst 0, 1, 0, 0, 0, 0, 0, []), (10, .istore 4, 2, 4, 0, 0, 0, 0, []), (12, .iconst 0, 1, 0, 0, 0, 0, 0, []), (13, .istore 5, 2, 5, 0, 0, 0, 0, []), (15, .iload 5, 2, 5, 0, 0, 0, 0, [])],
  [(17, .aload_n 0, 1, 0, 0, 0, 0, 0, []), (18, .getfield 33, 3, 5, 0, 9, 2, 0, []), (21, .getfield 56, 3, 1, 2, 15, 0, 2, []), (24, .if_icmp .ge 68, 3, 92, 0, 0, 0, 0, []), (27, .iload 5, 2, 5, 0, 0, 0, 0, []), (29, .iconst 3, 1, 0, 0, 0, 0, 3, []), (30, .imul, 1, 0, 0, 0, 0, 0, []), (31, .iload_n 2, 1, 2, 0, 0, 0, 0, [])],
  [(32, .iadd, 1, 0, 0, 0, 0, 0, []), (33, .istore 6, 2, 6, 0, 0, 0, 0, []), (35, .iload_n 1, 1, 1, 0, 0, 0, 0, []), (36, .iconst 3, 1, 0, 0, 0, 0, 3, []), (37, .iload 5, 2, 5, 0, 0, 0, 0, []), (39, .iadd, 1, 0, 0, 0, 0, 0, []), (40, .ishr, 1, 0, 0, 0, 0, 0, []), (41, .iconst 1, 1, 0, 0, 0, 0, 1, []), (42, .iand, 1, 0, 0, 0, 0, 0, []), (43, .iconst 1, 1, 0, 0, 0, 0, 1, []), (44, .if_icmp .ne 42, 3, 86, 0, 0, 0, 0, []), (47, .aload_n 0, 1, 0, 0, 0, 0, 0, [])],
  [(48, .getfield 33, 3, 5, 0, 9, 2, 0, []), (51, .getfield 68, 3, 1, 1, 16, 2, 1, []), (54, .iload 6, 2, 6, 0, 0, 0, 0, []), (56, .iaload, 1, 0, 0, 0, 0, 0, []), (57, .aload_n 0, 1, 0, 0, 0, 0, 0, []), (58, .getfield 33, 3, 5, 0, 9, 2, 0, []), (61, .getfield 68, 3, 1, 1, 16, 2, 1, [])],
  [(64, .iload_n 3, 1, 3, 0, 0, 0, 0, []), (65, .iaload, 1, 0, 0, 0, 0, 0, []), (66, .if_icmp .ne 20, 3, 86, 0, 0, 0, 0, []), (69, .iload 4, 2, 4, 0, 0, 0, 0, []), (71, .iconst 1, 1, 0, 0, 0, 0, 1, []), (72, .aload_n 0, 1, 0, 0, 0, 0, 0, []), (73, .getfield 33, 3, 5, 0, 9, 2, 0, []), (76, .getfield 71, 3, 1, 0, 17, 2, 0, []), (79, .iload 6, 2, 6, 0, 0, 0, 0, [])],
  [(81, .iaload, 1, 0, 0, 0, 0, 0, []), (82, .ishl, 1, 0, 0, 0, 0, 0, []), (83, .ior, 1, 0, 0, 0, 0, 0, []), (84, .istore 4, 2, 4, 0, 0, 0, 0, []), (86, .iinc 5 1, 3, 5, 0, 0, 0, 1, []), (89, .goto (-74), 3, 15, 0, 0, 0, 0, []), (92, .iload 4, 2, 4, 0, 0, 0, 0, []), (94, .aload_n 0, 1, 0, 0, 0, 0, 0, []), (95, .getfield 33, 3, 5, 0, 9, 2, 0, [])],
  [(98, .getfield 71, 3, 1, 0, 17, 2, 0, []), (101, .iload_n 3, 1, 3, 0, 0, 0, 0, []), (102, .iaload, 1, 0, 0, 0, 0, 0, []), (103, .ishr, 1, 0, 0, 0, 0, 0, []), (104, .iconst 1, 1, 0, 0, 0, 0, 1, []), (105, .iand, 1, 0, 0, 0, 0, 0, []), (106, .iconst 1, 1, 0, 0, 0, 0, 1, []), (107, .if_icmp .ne 5, 3, 112, 0, 0, 0, 0, []), (110, .iconst (-1), 1, 0, 0, 0, 0, (-1), []), (111, .ireturn, 1, 0, 0, 0, 0, 0, [])],
  [(112, .iload 4, 2, 4, 0, 0, 0, 0, []), (114, .iconst 3, 1, 0, 0, 0, 0, 3, []), (115, .ishl, 1, 0, 0, 0, 0, 0, []), (116, .aload_n 0, 1, 0, 0, 0, 0, 0, []), (117, .getfield 33, 3, 5, 0, 9, 2, 0, []), (120, .getfield 71, 3, 1, 0, 17, 2, 0, []), (123, .iload_n 3, 1, 3, 0, 0, 0, 0, []), (124, .iaload, 1, 0, 0, 0, 0, 0, []), (125, .ior, 1, 0, 0, 0, 0, 0, []), (126, .ireturn, 1, 0, 0, 0, 0, 0, [])]]
def i_S_followSign : ai_I := ((⟨"SuiteBench$Search", "followSign", "(II)I"⟩, prog_7_method_8_code, 7, (some .int), 0, 0, 0, 0, 2, 0, 5) : ai_I)
def o_S_followSign (_ : Nat) : SP := fun _ _ _ _ _ => False
theorem mo_S_followSign : ∀ a, ai_mono (o_S_followSign a) := fun _ _ _ _ _ _ _ _ h => h
def f_S_followSign : SP := ai_M o_S_followSign 0 7 k_S_followSign
theorem mf_S_followSign : ai_mono f_S_followSign := M_mono mo_S_followSign
abbrev cal_S_followSign : List ai_I := []
theorem a_S_followSign : ai_all "SuiteBench$Search" prog_7_method_8_code 7 kc_S cal_S_followSign 0 0 false (some .int) k_S_followSign = true := by decide +kernel
theorem w_S_followSign : ai_CW i_S_followSign := ⟨(tk_mem (l := [((Jvm.Cond.code ({ cls := "SuiteBench$Search", name := "followSign", desc := "(II)I" } : Jvm.MethodName) prog_7_method_8_code (7 : Nat) (Option.some Jvm.ClassFile.FieldType.int)), 4, 186)]) (by decide +kernel) _ (List.mem_singleton.mpr rfl)), (tk_mem (l := [((Jvm.Cond.initialized "SuiteBench$Search"), 1, 7)]) (by decide +kernel) _ (List.mem_singleton.mpr rfl)), ⟨by decide +kernel, by decide +kernel, by decide +kernel⟩, ⟨(tk_mem (l := [((Jvm.Cond.instanceMethod ({ cls := "SuiteBench$Search", name := "followSign", desc := "(II)I" } : Jvm.MethodName)), 4, 185)]) (by decide +kernel) _ (List.mem_singleton.mpr rfl)), gw_sel 31 (by decide +kernel), .inl ⟨_, _, rfl⟩⟩⟩
theorem c_S_followSign {E2 : (Nat → Nat) → State → Heap → Prop} (hE : ai_XH E2) : ai_S E2 i_S_followSign f_S_followSign := snd_M (by decide) rfl (by decide) a_S_followSign kc_S_ok (by rfl) (by decide) (fun a i h => by simp [cal_S_followSign, ai_nth] at h)
def k_S_leave : ai_C := [
  [(0, .iconst 0, 1, 0, 0, 0, 0, 0, []), (1, .istore_n 1, 1, 1, 0, 0, 0, 0, []), (2, .iload_n 1, 1, 1, 0, 0, 0, 0, []), (3, .aload_n 0, 1, 0, 0, 0, 0, 0, []), (4, .getfield 52, 3, 5, 10, 14, 0, 10, []), (7, .if_icmp .ge 23, 3, 30, 0, 0, 0, 0, []), (10, .aload_n 0, 1, 0, 0, 0, 0, 0, []), (11, .getfield 18, 3, 5, 4, 4, 2, 4, []), (14, .aload_n 0, 1, 0, 0, 0, 0, 0, []), (15, .getfield 11, 3, 5, 2, 2, 2, 2, [])],
  [(18, .iload_n 1, 1, 1, 0, 0, 0, 0, []), (19, .iaload, 1, 0, 0, 0, 0, 0, []), (20, .iconst 5, 1, 0, 0, 0, 0, 5, []), (21, .ishr, 1, 0, 0, 0, 0, 0, []), (22, .iconst 0, 1, 0, 0, 0, 0, 0, []), (23, .iastore, 1, 0, 0, 0, 0, 0, []), (24, .iinc 1 1, 3, 1, 0, 0, 0, 1, []), (27, .goto (-25), 3, 2, 0, 0, 0, 0, []), (30, .aload_n 0, 1, 0, 0, 0, 0, 0, []), (31, .iconst 0, 1, 0, 0, 0, 0, 0, [])],
  [(32, .putfield 52, 3, 5, 10, 14, 0, 10, []), (35, .return_, 1, 0, 0, 0, 0, 0, [])]]
def i_S_leave : ai_I := ((⟨"SuiteBench$Search", "leave", "()V"⟩, prog_7_method_4_code, 2, none, 9, 0, 0, 0, 0, 0, 5) : ai_I)
def o_S_leave (_ : Nat) : SP := fun _ _ _ _ _ => False
theorem mo_S_leave : ∀ a, ai_mono (o_S_leave a) := fun _ _ _ _ _ _ _ _ h => h
def f_S_leave : SP := ai_M o_S_leave 0 2 k_S_leave
theorem mf_S_leave : ai_mono f_S_leave := M_mono mo_S_leave
abbrev cal_S_leave : List ai_I := []
theorem a_S_leave : ai_all "SuiteBench$Search" prog_7_method_4_code 2 kc_S cal_S_leave 0 0 false none k_S_leave = true := by decide +kernel
theorem w_S_leave : ai_CW i_S_leave := ⟨(tk_mem (l := [((Jvm.Cond.code ({ cls := "SuiteBench$Search", name := "leave", desc := "()V" } : Jvm.MethodName) prog_7_method_4_code (2 : Nat) (Option.none : Option Jvm.ClassFile.FieldType)), 4, 190)]) (by decide +kernel) _ (List.mem_singleton.mpr rfl)), (tk_mem (l := [((Jvm.Cond.initialized "SuiteBench$Search"), 1, 7)]) (by decide +kernel) _ (List.mem_singleton.mpr rfl)), ⟨by decide +kernel, by decide +kernel, by decide +kernel⟩, ⟨(tk_mem (l := [((Jvm.Cond.instanceMethod ({ cls := "SuiteBench$Search", name := "leave", desc := "()V" } : Jvm.MethodName)), 4, 189)]) (by decide +kernel) _ (List.mem_singleton.mpr rfl)), gw_sel 32 (by decide +kernel), .inl ⟨_, _, rfl⟩⟩⟩
theorem c_S_leave {E2 : (Nat → Nat) → State → Heap → Prop} (hE : ai_XH E2) : ai_S E2 i_S_leave f_S_leave := snd_M (by decide) rfl (by decide) a_S_leave kc_S_ok (by rfl) (by decide) (fun a i h => by simp [cal_S_leave, ai_nth] at h)
def k_S_findSign : ai_C := [
  [(0, .aload_n 0, 1, 0, 0, 0, 0, 0, []), (1, .getfield 37, 3, 5, 1, 10, 2, 1, []), (4, .getfield 81, 3, 9, 8, 18, 0, 8, []), (7, .iconst 1, 1, 0, 0, 0, 0, 1, []), (8, .iload_n 1, 1, 1, 0, 0, 0, 0, []), (9, .ishl, 1, 0, 0, 0, 0, 0, []), (10, .iconst (-1), 1, 0, 0, 0, 0, (-1), []), (11, .ixor, 1, 0, 0, 0, 0, 0, []), (12, .iand, 1, 0, 0, 0, 0, 0, []), (13, .istore_n 2, 1, 2, 0, 0, 0, 0, []), (14, .iload_n 2, 1, 2, 0, 0, 0, 0, []), (15, .ifCond .ne 5, 3, 20, 0, 0, 0, 0, [])],
  [(18, .iconst 0, 1, 0, 0, 0, 0, 0, []), (19, .ireturn, 1, 0, 0, 0, 0, 0, []), (20, .bipush (-2), 2, 0, 0, 0, 0, (-2), []), (22, .istore_n 3, 1, 3, 0, 0, 0, 0, []), (23, .aload_n 0, 1, 0, 0, 0, 0, 0, []), (24, .iload_n 2, 1, 2, 0, 0, 0, 0, []), (25, .iconst 3, 1, 0, 0, 0, 0, 3, []), (26, .ishl, 1, 0, 0, 0, 0, 0, []), (27, .iload_n 1, 1, 1, 0, 0, 0, 0, []), (28, .ior, 1, 0, 0, 0, 0, 0, []), (29, .iconst 0, 1, 0, 0, 0, 0, 0, []), (30, .invokevirtual 61, 3, 0, 3, 19, 9, 0, [(0, 5)])],
  [(33, .iconst 0, 1, 0, 0, 0, 0, 0, []), (34, .istore 4, 2, 4, 0, 0, 0, 0, []), (36, .iload 4, 2, 4, 0, 0, 0, 0, []), (38, .aload_n 0, 1, 0, 0, 0, 0, 0, []), (39, .getfield 52, 3, 5, 10, 14, 0, 10, []), (42, .if_icmp .ge 116, 3, 158, 0, 0, 0, 0, []), (45, .iload 4, 2, 4, 0, 0, 0, 0, []), (47, .sipush 3280, 3, 0, 0, 0, 0, 3280, [])],
  [(50, .if_icmp .ge 108, 3, 158, 0, 0, 0, 0, []), (53, .iload_n 3, 1, 3, 0, 0, 0, 0, []), (54, .bipush (-2), 2, 0, 0, 0, 0, (-2), []), (56, .if_icmp .ne 102, 3, 158, 0, 0, 0, 0, []), (59, .iconst 0, 1, 0, 0, 0, 0, 0, []), (60, .istore 5, 2, 5, 0, 0, 0, 0, []), (62, .iload 5, 2, 5, 0, 0, 0, 0, [])],
  [(64, .aload_n 0, 1, 0, 0, 0, 0, 0, []), (65, .getfield 33, 3, 5, 0, 9, 2, 0, []), (68, .getfield 65, 3, 1, 3, 20, 0, 3, []), (71, .if_icmp .ge 81, 3, 152, 0, 0, 0, 0, []), (74, .iload_n 3, 1, 3, 0, 0, 0, 0, []), (75, .bipush (-2), 2, 0, 0, 0, 0, (-2), []), (77, .if_icmp .ne 75, 3, 152, 0, 0, 0, 0, [])],
  [(80, .aload_n 0, 1, 0, 0, 0, 0, 0, []), (81, .getfield 15, 3, 5, 3, 3, 2, 3, []), (84, .iload 4, 2, 4, 0, 0, 0, 0, []), (86, .iaload, 1, 0, 0, 0, 0, 0, []), (87, .iconst 4, 1, 0, 0, 0, 0, 4, []), (88, .imul, 1, 0, 0, 0, 0, 0, []), (89, .iload 5, 2, 5, 0, 0, 0, 0, []), (91, .iadd, 1, 0, 0, 0, 0, 0, []), (92, .iconst 1, 1, 0, 0, 0, 0, 1, []), (93, .iadd, 1, 0, 0, 0, 0, 0, []), (94, .istore 6, 2, 6, 0, 0, 0, 0, [])],
  [(96, .aload_n 0, 1, 0, 0, 0, 0, 0, []), (97, .aload_n 0, 1, 0, 0, 0, 0, 0, []), (98, .getfield 11, 3, 5, 2, 2, 2, 2, []), (101, .iload 4, 2, 4, 0, 0, 0, 0, []), (103, .iaload, 1, 0, 0, 0, 0, 0, []), (104, .iload 5, 2, 5, 0, 0, 0, 0, []), (106, .invokevirtual 86, 3, 1, 3, 21, 0, 0, [(0, 5)]), (109, .istore 7, 2, 7, 0, 0, 0, 0, []), (111, .iload 7, 2, 7, 0, 0, 0, 0, [])],
  [(113, .iconst (-1), 1, 0, 0, 0, 0, (-1), []), (114, .if_icmp .eq 16, 3, 130, 0, 0, 0, 0, []), (117, .iload 7, 2, 7, 0, 0, 0, 0, []), (119, .iconst 3, 1, 0, 0, 0, 0, 3, []), (120, .ishr, 1, 0, 0, 0, 0, 0, []), (121, .ifCond .ne 9, 3, 130, 0, 0, 0, 0, []), (124, .iload 6, 2, 6, 0, 0, 0, 0, []), (126, .istore_n 3, 1, 3, 0, 0, 0, 0, []), (127, .goto 19, 3, 146, 0, 0, 0, 0, [])],
  [(130, .iload 6, 2, 6, 0, 0, 0, 0, []), (132, .sipush 16384, 3, 0, 0, 0, 0, 16384, []), (135, .if_icmp .ge 11, 3, 146, 0, 0, 0, 0, []), (138, .aload_n 0, 1, 0, 0, 0, 0, 0, []), (139, .iload 7, 2, 7, 0, 0, 0, 0, []), (141, .iload 6, 2, 6, 0, 0, 0, 0, []), (143, .invokevirtual 61, 3, 0, 3, 19, 9, 0, [(0, 5)])],
  [(146, .iinc 5 1, 3, 5, 0, 0, 0, 1, []), (149, .goto (-87), 3, 62, 0, 0, 0, 0, []), (152, .iinc 4 1, 3, 4, 0, 0, 0, 1, []), (155, .goto (-119), 3, 36, 0, 0, 0, 0, []), (158, .aload_n 0, 1, 0, 0, 0, 0, 0, []), (159, .invokevirtual 74, 3, 2, 1, 22, 9, 0, [(0, 5)])],
  [(162, .iload_n 3, 1, 3, 0, 0, 0, 0, []), (163, .ireturn, 1, 0, 0, 0, 0, 0, [])]]
def i_S_findSign : ai_I := ((⟨"SuiteBench$Search", "findSign", "(I)I"⟩, prog_7_method_7_code, 8, (some .int), 0, 1, 26, 0, 1, 0, 5) : ai_I)
def o_S_findSign (a : Nat) : SP := match a with
  | 0 => f_S_push
  | 1 => f_S_followSign
  | 2 => f_S_leave
  | _ => fun _ _ _ _ _ => False
theorem mo_S_findSign : ∀ a, ai_mono (o_S_findSign a)
  | 0 => mf_S_push
  | 1 => mf_S_followSign
  | 2 => mf_S_leave
  | _ + 3 => fun _ _ _ _ _ _ _ h => h
def f_S_findSign : SP := ai_M o_S_findSign 0 8 k_S_findSign
theorem mf_S_findSign : ai_mono f_S_findSign := M_mono mo_S_findSign
abbrev cal_S_findSign : List ai_I := [i_S_push, i_S_followSign, i_S_leave]
theorem a_S_findSign : ai_all "SuiteBench$Search" prog_7_method_7_code 8 kc_S cal_S_findSign 1 26 false (some .int) k_S_findSign = true := by decide +kernel
theorem w_S_findSign : ai_CW i_S_findSign := ⟨(tk_mem (l := [((Jvm.Cond.code ({ cls := "SuiteBench$Search", name := "findSign", desc := "(I)I" } : Jvm.MethodName) prog_7_method_7_code (8 : Nat) (Option.some Jvm.ClassFile.FieldType.int)), 4, 177)]) (by decide +kernel) _ (List.mem_singleton.mpr rfl)), (tk_mem (l := [((Jvm.Cond.initialized "SuiteBench$Search"), 1, 7)]) (by decide +kernel) _ (List.mem_singleton.mpr rfl)), ⟨by decide +kernel, by decide +kernel, by decide +kernel⟩, ⟨(tk_mem (l := [((Jvm.Cond.instanceMethod ({ cls := "SuiteBench$Search", name := "findSign", desc := "(I)I" } : Jvm.MethodName)), 4, 176)]) (by decide +kernel) _ (List.mem_singleton.mpr rfl)), gw_sel 29 (by decide +kernel), .inl ⟨_, _, rfl⟩⟩⟩
theorem c_S_findSign {E2 : (Nat → Nat) → State → Heap → Prop} (hE : ai_XH E2) : ai_S E2 i_S_findSign f_S_findSign := snd_M (by decide) rfl (by decide) a_S_findSign kc_S_ok (by rfl) (by decide) (fun a i h => match a, h with
    | 0, h => by cases h; exact ⟨c_S_push hE, w_S_push⟩
    | 1, h => by cases h; exact ⟨c_S_followSign hE, w_S_followSign⟩
    | 2, h => by cases h; exact ⟨c_S_leave hE, w_S_leave⟩
    | _ + 3, h => by simp [cal_S_findSign, ai_nth] at h)
def k_S_signOf : ai_C := [
  [(0, .aload_n 0, 1, 0, 0, 0, 0, 0, []), (1, .getfield 21, 3, 5, 5, 5, 2, 5, []), (4, .iload_n 1, 1, 1, 0, 0, 0, 0, []), (5, .iaload, 1, 0, 0, 0, 0, 0, []), (6, .bipush (-9), 2, 0, 0, 0, 0, (-9), []), (8, .if_icmp .ne 14, 3, 22, 0, 0, 0, 0, []), (11, .aload_n 0, 1, 0, 0, 0, 0, 0, []), (12, .getfield 21, 3, 5, 5, 5, 2, 5, []), (15, .iload_n 1, 1, 1, 0, 0, 0, 0, [])],
  [(16, .aload_n 0, 1, 0, 0, 0, 0, 0, []), (17, .iload_n 1, 1, 1, 0, 0, 0, 0, []), (18, .invokevirtual 77, 3, 0, 2, 23, 0, 0, [(0, 5)]), (21, .iastore, 1, 0, 0, 0, 0, 0, []), (22, .aload_n 0, 1, 0, 0, 0, 0, 0, []), (23, .getfield 21, 3, 5, 5, 5, 2, 5, []), (26, .iload_n 1, 1, 1, 0, 0, 0, 0, []), (27, .iaload, 1, 0, 0, 0, 0, 0, []), (28, .ireturn, 1, 0, 0, 0, 0, 0, [])]]
def i_S_signOf : ai_I := ((⟨"SuiteBench$Search", "signOf", "(I)I"⟩, prog_7_method_6_code, 2, (some .int), 0, 2, 53, 0, 1, 0, 5) : ai_I)
def o_S_signOf (a : Nat) : SP := match a with
  | 0 => f_S_findSign
  | _ => fun _ _ _ _ _ => False
theorem mo_S_signOf : ∀ a, ai_mono (o_S_signOf a)
  | 0 => mf_S_findSign
  | _ + 1 => fun _ _ _ _ _ _ _ h => h
def f_S_signOf : SP := ai_M o_S_signOf 0 2 k_S_signOf
theorem mf_S_signOf : ai_mono f_S_signOf := M_mono mo_S_signOf
abbrev cal_S_signOf : List ai_I := [i_S_findSign]
theorem a_S_signOf : ai_all "SuiteBench$Search" prog_7_method_6_code 2 kc_S cal_S_signOf 2 53 false (some .int) k_S_signOf = true := by decide +kernel
theorem w_S_signOf : ai_CW i_S_signOf := ⟨(tk_mem (l := [((Jvm.Cond.code ({ cls := "SuiteBench$Search", name := "signOf", desc := "(I)I" } : Jvm.MethodName) prog_7_method_6_code (2 : Nat) (Option.some Jvm.ClassFile.FieldType.int)), 4, 173)]) (by decide +kernel) _ (List.mem_singleton.mpr rfl)), (tk_mem (l := [((Jvm.Cond.initialized "SuiteBench$Search"), 1, 7)]) (by decide +kernel) _ (List.mem_singleton.mpr rfl)), ⟨by decide +kernel, by decide +kernel, by decide +kernel⟩, ⟨(tk_mem (l := [((Jvm.Cond.instanceMethod ({ cls := "SuiteBench$Search", name := "signOf", desc := "(I)I" } : Jvm.MethodName)), 4, 171)]) (by decide +kernel) _ (List.mem_singleton.mpr rfl)), (tk_mem (l := [((Jvm.Cond.selects "SuiteBench$Search" ({ cls := "SuiteBench$Search", name := "signOf", desc := "(I)I" } : Jvm.MethodName) ({ cls := "SuiteBench$Search", name := "signOf", desc := "(I)I" } : Jvm.MethodName)), 4, 172)]) (by decide +kernel) _ (List.mem_singleton.mpr rfl)), .inl ⟨_, _, rfl⟩⟩⟩
theorem c_S_signOf {E2 : (Nat → Nat) → State → Heap → Prop} (hE : ai_XH E2) : ai_S E2 i_S_signOf f_S_signOf := snd_M (by decide) rfl (by decide) a_S_signOf kc_S_ok (by rfl) (by decide) (fun a i h => match a, h with
    | 0, h => by cases h; exact ⟨c_S_findSign hE, w_S_findSign⟩
    | _ + 1, h => by simp [cal_S_signOf, ai_nth] at h)
def k_B_sign : ai_C := [
  [(0, .aload_n 0, 1, 0, 0, 0, 0, 0, []), (1, .iload_n 1, 1, 1, 0, 0, 0, 0, []), (2, .invokevirtual 147, 3, 0, 2, 84, 0, 0, [(0, 11)]), (5, .ifCond .eq 14, 3, 19, 0, 0, 0, 0, []), (8, .aload_n 0, 1, 0, 0, 0, 0, 0, []), (9, .getfield 47, 3, 11, 4, 12, 2, 4, []), (12, .iload_n 1, 1, 1, 0, 0, 0, 0, []), (13, .invokevirtual 190, 3, 1, 2, 97, 0, 0, [(0, 5)])],
  [(16, .goto 4, 3, 20, 0, 0, 0, 0, []), (19, .iconst (-1), 1, 0, 0, 0, 0, (-1), []), (20, .ireturn, 1, 0, 0, 0, 0, 0, [])]]
def i_B_sign : ai_I := ((⟨"SuiteBench", "sign", "(I)I"⟩, prog_1_method_16_code, 2, (some .int), 0, 3, 74, 0, 1, 0, 11) : ai_I)
def o_B_sign (a : Nat) : SP := match a with
  | 0 => f_B_isState
  | 1 => f_S_signOf
  | _ => fun _ _ _ _ _ => False
theorem mo_B_sign : ∀ a, ai_mono (o_B_sign a)
  | 0 => mf_B_isState
  | 1 => mf_S_signOf
  | _ + 2 => fun _ _ _ _ _ _ _ h => h
def f_B_sign : SP := ai_M o_B_sign 0 2 k_B_sign
theorem mf_B_sign : ai_mono f_B_sign := M_mono mo_B_sign
abbrev cal_B_sign : List ai_I := [i_B_isState, i_S_signOf]
theorem a_B_sign : ai_all "SuiteBench" prog_1_method_16_code 2 kc_B cal_B_sign 3 74 false (some .int) k_B_sign = true := by decide +kernel
theorem w_B_sign : ai_CW i_B_sign := ⟨(tk_mem (l := [((Jvm.Cond.code ({ cls := "SuiteBench", name := "sign", desc := "(I)I" } : Jvm.MethodName) prog_1_method_16_code (2 : Nat) (Option.some Jvm.ClassFile.FieldType.int)), 4, 169)]) (by decide +kernel) _ (List.mem_singleton.mpr rfl)), (tk_mem (l := [((Jvm.Cond.initialized "SuiteBench"), 1, 1)]) (by decide +kernel) _ (List.mem_singleton.mpr rfl)), ⟨by decide +kernel, by decide +kernel, by decide +kernel⟩, ⟨(tk_mem (l := [((Jvm.Cond.instanceMethod ({ cls := "SuiteBench", name := "sign", desc := "(I)I" } : Jvm.MethodName)), 4, 167)]) (by decide +kernel) _ (List.mem_singleton.mpr rfl)), (tk_mem (l := [((Jvm.Cond.selects "SuiteBench" ({ cls := "SuiteBench", name := "sign", desc := "(I)I" } : Jvm.MethodName) ({ cls := "SuiteBench", name := "sign", desc := "(I)I" } : Jvm.MethodName)), 4, 168)]) (by decide +kernel) _ (List.mem_singleton.mpr rfl)), .inl ⟨_, _, rfl⟩⟩⟩
theorem c_B_sign {E2 : (Nat → Nat) → State → Heap → Prop} (hE : ai_XH E2) : ai_S E2 i_B_sign f_B_sign := snd_M (by decide) rfl (by decide) a_B_sign kc_B_ok (by rfl) (by decide) (fun a i h => match a, h with
    | 0, h => by cases h; exact ⟨c_B_isState hE, w_B_isState⟩
    | 1, h => by cases h; exact ⟨c_S_signOf hE, w_S_signOf⟩
    | _ + 2, h => by simp [cal_B_sign, ai_nth] at h)
def k_N_isSign : ai_C := [
  [(0, .aload_n 0, 1, 0, 0, 0, 0, 0, []), (1, .iconst 0, 1, 0, 0, 0, 0, 0, []), (2, .iload_n 1, 1, 1, 0, 0, 0, 0, []), (3, .iload_n 2, 1, 2, 0, 0, 0, 0, []), (4, .invokevirtual 319, 3, 0, 4, 18, 1, 0, [(0, 12)]), (7, .lstore_n 3, 1, 3, 0, 0, 0, 0, []), (8, .iconst 0, 1, 0, 0, 0, 0, 0, []), (9, .istore 5, 2, 5, 0, 0, 0, 0, []), (11, .iload 5, 2, 5, 0, 0, 0, 0, []), (13, .aload_n 0, 1, 0, 0, 0, 0, 0, []), (14, .invokevirtual 272, 3, 1, 1, 2, 0, 0, [(0, 12)])],
  [(17, .if_icmp .ge 39, 3, 56, 0, 0, 0, 0, []), (20, .iload 5, 2, 5, 0, 0, 0, 0, []), (22, .iload_n 1, 1, 1, 0, 0, 0, 0, []), (23, .if_icmp .eq 27, 3, 50, 0, 0, 0, 0, []), (26, .aload_n 0, 1, 0, 0, 0, 0, 0, []), (27, .iload 5, 2, 5, 0, 0, 0, 0, []), (29, .invokevirtual 331, 3, 2, 2, 6, 0, 0, [(0, 12)])],
  [(32, .ifCond .eq 18, 3, 50, 0, 0, 0, 0, []), (35, .aload_n 0, 1, 0, 0, 0, 0, 0, []), (36, .iconst 0, 1, 0, 0, 0, 0, 0, []), (37, .iload 5, 2, 5, 0, 0, 0, 0, []), (39, .iload_n 2, 1, 2, 0, 0, 0, 0, []), (40, .invokevirtual 319, 3, 0, 4, 18, 1, 0, [(0, 12)]), (43, .lload_n 3, 1, 3, 0, 0, 0, 0, []), (44, .lcmp, 1, 0, 0, 0, 0, 0, []), (45, .ifCond .ne 5, 3, 50, 0, 0, 0, 0, [])],
  [(48, .iconst 0, 1, 0, 0, 0, 0, 0, []), (49, .ireturn, 1, 0, 0, 0, 3, 0, []), (50, .iinc 5 1, 3, 5, 0, 0, 0, 1, []), (53, .goto (-42), 3, 11, 0, 0, 0, 0, []), (56, .iconst 1, 1, 0, 0, 0, 0, 1, []), (57, .ireturn, 1, 0, 0, 0, 3, 0, [])]]
def i_N_isSign : ai_I := ((⟨"SuiteBenchModel", "isSign", "(II)Z"⟩, prog_14_method_63_code, 6, (some .boolean), 3, 2, 51, 0, 2, 0, 12) : ai_I)
def o_N_isSign (a : Nat) : SP := match a with
  | 0 => f_N_answers
  | 1 => f_N_states
  | 2 => f_N_isReached
  | _ => fun _ _ _ _ _ => False
theorem mo_N_isSign : ∀ a, ai_mono (o_N_isSign a)
  | 0 => mf_N_answers
  | 1 => mf_N_states
  | 2 => mf_N_isReached
  | _ + 3 => fun _ _ _ _ _ _ _ h => h
def f_N_isSign : SP := ai_M o_N_isSign 0 6 k_N_isSign
theorem mf_N_isSign : ai_mono f_N_isSign := M_mono mo_N_isSign
abbrev cal_N_isSign : List ai_I := [i_N_answers, i_N_states, i_N_isReached]
theorem a_N_isSign : ai_all "SuiteBenchModel" prog_14_method_63_code 6 kc_N cal_N_isSign 2 51 false (some .boolean) k_N_isSign = true := by decide +kernel
theorem w_N_isSign : ai_CW i_N_isSign := ⟨(tk_mem (l := [((Jvm.Cond.code ({ cls := "SuiteBenchModel", name := "isSign", desc := "(II)Z" } : Jvm.MethodName) prog_14_method_63_code (6 : Nat) (Option.some Jvm.ClassFile.FieldType.boolean)), 9, 66)]) (by decide +kernel) _ (List.mem_singleton.mpr rfl)), (tk_mem (l := [((Jvm.Cond.initialized "SuiteBenchModel"), 1, 15)]) (by decide +kernel) _ (List.mem_singleton.mpr rfl)), ⟨by decide +kernel, by decide +kernel, by decide +kernel⟩, ⟨(tk_mem (l := [((Jvm.Cond.instanceMethod ({ cls := "SuiteBenchModel", name := "isSign", desc := "(II)Z" } : Jvm.MethodName)), 9, 65)]) (by decide +kernel) _ (List.mem_singleton.mpr rfl)), gw_sel 106 (by decide +kernel), .inl ⟨_, _, rfl⟩⟩⟩
theorem c_N_isSign {E2 : (Nat → Nat) → State → Heap → Prop} (hE : ai_XH E2) : ai_S E2 i_N_isSign f_N_isSign := snd_M (by decide) rfl (by decide) a_N_isSign kc_N_ok (by rfl) (by decide) (fun a i h => match a, h with
    | 0, h => by cases h; exact ⟨c_N_answers hE, w_N_answers⟩
    | 1, h => by cases h; exact ⟨c_N_states hE, w_N_states⟩
    | 2, h => by cases h; exact ⟨c_N_isReached hE, w_N_isReached⟩
    | _ + 3, h => by simp [cal_N_isSign, ai_nth] at h)
def k_N_after : ai_C := [
  [(0, .iconst 0, 1, 0, 0, 0, 0, 0, []), (1, .istore_n 2, 1, 2, 0, 0, 0, 0, []), (2, .iload_n 1, 1, 1, 0, 0, 0, 0, []), (3, .istore_n 3, 1, 3, 0, 0, 0, 0, []), (4, .iload_n 3, 1, 3, 0, 0, 0, 0, []), (5, .ifCond .le 24, 3, 29, 0, 0, 0, 0, []), (8, .iload_n 3, 1, 3, 0, 0, 0, 0, []), (9, .iconst 3, 1, 0, 0, 0, 0, 3, []), (10, .iand, 1, 0, 0, 0, 0, 0, []), (11, .aload_n 0, 1, 0, 0, 0, 0, 0, []), (12, .invokevirtual 269, 3, 0, 1, 3, 0, 0, [(0, 12)]), (15, .if_icmp .ne 14, 3, 29, 0, 0, 0, 0, [])],
  [(18, .iload_n 2, 1, 2, 0, 0, 0, 0, []), (19, .iconst 1, 1, 0, 0, 0, 0, 1, []), (20, .iadd, 1, 0, 0, 0, 0, 0, []), (21, .istore_n 2, 1, 2, 0, 0, 0, 0, []), (22, .iload_n 3, 1, 3, 0, 0, 0, 0, []), (23, .iconst 2, 1, 0, 0, 0, 0, 2, []), (24, .ishr, 1, 0, 0, 0, 0, 0, []), (25, .istore_n 3, 1, 3, 0, 0, 0, 0, []), (26, .goto (-22), 3, 4, 0, 0, 0, 0, []), (29, .iload_n 3, 1, 3, 0, 0, 0, 0, []), (30, .iconst 1, 1, 0, 0, 0, 0, 1, []), (31, .iadd, 1, 0, 0, 0, 0, 0, [])],
  [(32, .istore_n 3, 1, 3, 0, 0, 0, 0, []), (33, .iconst 0, 1, 0, 0, 0, 0, 0, []), (34, .istore 4, 2, 4, 0, 0, 0, 0, []), (36, .iload 4, 2, 4, 0, 0, 0, 0, []), (38, .iload_n 2, 1, 2, 0, 0, 0, 0, []), (39, .if_icmp .ge 15, 3, 54, 0, 0, 0, 0, []), (42, .iconst 4, 1, 0, 0, 0, 0, 4, []), (43, .iload_n 3, 1, 3, 0, 0, 0, 0, []), (44, .imul, 1, 0, 0, 0, 0, 0, []), (45, .iconst 1, 1, 0, 0, 0, 0, 1, []), (46, .iadd, 1, 0, 0, 0, 0, 0, []), (47, .istore_n 3, 1, 3, 0, 0, 0, 0, [])],
  [(48, .iinc 4 1, 3, 4, 0, 0, 0, 1, []), (51, .goto (-15), 3, 36, 0, 0, 0, 0, []), (54, .iload_n 3, 1, 3, 0, 0, 0, 0, []), (55, .ireturn, 1, 0, 0, 0, 0, 0, [])]]
def i_N_after : ai_I := ((⟨"SuiteBenchModel", "after", "(I)I"⟩, prog_14_method_62_code, 5, (some .int), 0, 1, 20, 0, 1, 0, 12) : ai_I)
def o_N_after (a : Nat) : SP := match a with
  | 0 => f_N_inputs
  | _ => fun _ _ _ _ _ => False
theorem mo_N_after : ∀ a, ai_mono (o_N_after a)
  | 0 => mf_N_inputs
  | _ + 1 => fun _ _ _ _ _ _ _ h => h
def f_N_after : SP := ai_M o_N_after 0 5 k_N_after
theorem mf_N_after : ai_mono f_N_after := M_mono mo_N_after
abbrev cal_N_after : List ai_I := [i_N_inputs]
theorem a_N_after : ai_all "SuiteBenchModel" prog_14_method_62_code 5 kc_N cal_N_after 1 20 false (some .int) k_N_after = true := by decide +kernel
theorem w_N_after : ai_CW i_N_after := ⟨(tk_mem (l := [((Jvm.Cond.code ({ cls := "SuiteBenchModel", name := "after", desc := "(I)I" } : Jvm.MethodName) prog_14_method_62_code (5 : Nat) (Option.some Jvm.ClassFile.FieldType.int)), 9, 70)]) (by decide +kernel) _ (List.mem_singleton.mpr rfl)), (tk_mem (l := [((Jvm.Cond.initialized "SuiteBenchModel"), 1, 15)]) (by decide +kernel) _ (List.mem_singleton.mpr rfl)), ⟨by decide +kernel, by decide +kernel, by decide +kernel⟩, ⟨(tk_mem (l := [((Jvm.Cond.instanceMethod ({ cls := "SuiteBenchModel", name := "after", desc := "(I)I" } : Jvm.MethodName)), 9, 69)]) (by decide +kernel) _ (List.mem_singleton.mpr rfl)), gw_sel 107 (by decide +kernel), .inl ⟨_, _, rfl⟩⟩⟩
theorem c_N_after {E2 : (Nat → Nat) → State → Heap → Prop} (hE : ai_XH E2) : ai_S E2 i_N_after f_N_after := snd_M (by decide) rfl (by decide) a_N_after kc_N_ok (by rfl) (by decide) (fun a i h => match a, h with
    | 0, h => by cases h; exact ⟨c_N_inputs hE, w_N_inputs⟩
    | _ + 1, h => by simp [cal_N_after, ai_nth] at h)
def k_N_laysSigns : ai_C := [
  [(0, .aload_n 0, 1, 0, 0, 0, 0, 0, []), (1, .getfield 352, 3, 12, 31, 20, 3, 31, []), (4, .ifCond .eq 4, 3, 8, 0, 0, 0, 0, []), (7, .return_, 1, 0, 0, 0, 0, 0, []), (8, .aload_n 0, 1, 0, 0, 0, 0, 0, []), (9, .iconst 1, 1, 0, 0, 0, 0, 1, []), (10, .putfield 352, 3, 12, 31, 20, 3, 31, []), (13, .aload_n 0, 1, 0, 0, 0, 0, 0, []), (14, .invokevirtual 272, 3, 0, 1, 2, 0, 0, [(0, 12)])],
  [(17, .istore_n 1, 1, 1, 0, 0, 0, 0, []), (18, .iconst 0, 1, 0, 0, 0, 0, 0, []), (19, .istore_n 2, 1, 2, 0, 0, 0, 0, []), (20, .iload_n 2, 1, 2, 0, 0, 0, 0, []), (21, .aload_n 0, 1, 0, 0, 0, 0, 0, []), (22, .invokevirtual 272, 3, 0, 1, 2, 0, 0, [(0, 12)]), (25, .if_icmp .ge 17, 3, 42, 0, 0, 0, 0, []), (28, .aload_n 0, 1, 0, 0, 0, 0, 0, []), (29, .getfield 63, 3, 12, 30, 46, 2, 30, [])],
  [(32, .iload_n 2, 1, 2, 0, 0, 0, 0, []), (33, .bipush (-2), 2, 0, 0, 0, 0, (-2), []), (35, .iastore, 1, 0, 0, 0, 0, 0, []), (36, .iinc 2 1, 3, 2, 0, 0, 0, 1, []), (39, .goto (-19), 3, 20, 0, 0, 0, 0, []), (42, .iconst 0, 1, 0, 0, 0, 0, 0, []), (43, .istore_n 2, 1, 2, 0, 0, 0, 0, []), (44, .iload_n 1, 1, 1, 0, 0, 0, 0, []), (45, .ifCond .le 78, 3, 123, 0, 0, 0, 0, [])],
  [(48, .iload_n 2, 1, 2, 0, 0, 0, 0, []), (49, .invokestatic 298, 3, 1, 1, 13, 0, 0, [(0, 12)]), (52, .bipush 8, 2, 0, 0, 0, 0, 8, []), (54, .if_icmp .gt 69, 3, 123, 0, 0, 0, 0, []), (57, .iconst 0, 1, 0, 0, 0, 0, 0, []), (58, .istore_n 3, 1, 3, 0, 0, 0, 0, []), (59, .iload_n 3, 1, 3, 0, 0, 0, 0, []), (60, .aload_n 0, 1, 0, 0, 0, 0, 0, []), (61, .invokevirtual 272, 3, 0, 1, 2, 0, 0, [(0, 12)])],
  [(64, .if_icmp .ge 42, 3, 106, 0, 0, 0, 0, []), (67, .aload_n 0, 1, 0, 0, 0, 0, 0, []), (68, .getfield 63, 3, 12, 30, 46, 2, 30, []), (71, .iload_n 3, 1, 3, 0, 0, 0, 0, []), (72, .iaload, 1, 0, 0, 0, 0, 0, []), (73, .bipush (-2), 2, 0, 0, 0, 0, (-2), []), (75, .if_icmp .ne 25, 3, 100, 0, 0, 0, 0, []), (78, .aload_n 0, 1, 0, 0, 0, 0, 0, []), (79, .iload_n 3, 1, 3, 0, 0, 0, 0, [])],
  [(80, .iload_n 2, 1, 2, 0, 0, 0, 0, []), (81, .invokevirtual 355, 3, 2, 3, 114, 0, 0, [(0, 12)]), (84, .ifCond .ne 6, 3, 90, 0, 0, 0, 0, []), (87, .goto 13, 3, 100, 0, 0, 0, 0, []), (90, .aload_n 0, 1, 0, 0, 0, 0, 0, []), (91, .getfield 63, 3, 12, 30, 46, 2, 30, []), (94, .iload_n 3, 1, 3, 0, 0, 0, 0, []), (95, .iload_n 2, 1, 2, 0, 0, 0, 0, [])],
  [(96, .iastore, 1, 0, 0, 0, 0, 0, []), (97, .iinc 1 (-1), 3, 1, 0, 0, 0, (-1), []), (100, .iinc 3 1, 3, 3, 0, 0, 0, 1, []), (103, .goto (-44), 3, 59, 0, 0, 0, 0, []), (106, .aload_n 0, 1, 0, 0, 0, 0, 0, []), (107, .invokevirtual 269, 3, 3, 1, 3, 0, 0, [(0, 12)]), (110, .ifCond .ne 4, 3, 114, 0, 0, 0, 0, [])],
  [(113, .return_, 1, 0, 0, 0, 0, 0, []), (114, .aload_n 0, 1, 0, 0, 0, 0, 0, []), (115, .iload_n 2, 1, 2, 0, 0, 0, 0, []), (116, .invokevirtual 358, 3, 4, 2, 115, 0, 0, [(0, 12)]), (119, .istore_n 2, 1, 2, 0, 0, 0, 0, []), (120, .goto (-76), 3, 44, 0, 0, 0, 0, []), (123, .return_, 1, 0, 0, 0, 0, 0, [])]]
def i_N_laysSigns : ai_I := ((⟨"SuiteBenchModel", "laysSigns", "()V"⟩, prog_14_method_64_code, 4, none, 9, 3, 76, 0, 0, 0, 12) : ai_I)
def o_N_laysSigns (a : Nat) : SP := match a with
  | 0 => f_N_states
  | 1 => f_N_long1
  | 2 => f_N_isSign
  | 3 => f_N_inputs
  | 4 => f_N_after
  | _ => fun _ _ _ _ _ => False
theorem mo_N_laysSigns : ∀ a, ai_mono (o_N_laysSigns a)
  | 0 => mf_N_states
  | 1 => mf_N_long1
  | 2 => mf_N_isSign
  | 3 => mf_N_inputs
  | 4 => mf_N_after
  | _ + 5 => fun _ _ _ _ _ _ _ h => h
def f_N_laysSigns : SP := ai_M o_N_laysSigns 0 4 k_N_laysSigns
theorem mf_N_laysSigns : ai_mono f_N_laysSigns := M_mono mo_N_laysSigns
abbrev cal_N_laysSigns : List ai_I := [i_N_states, i_N_long1, i_N_isSign, i_N_inputs, i_N_after]
theorem a_N_laysSigns : ai_all "SuiteBenchModel" prog_14_method_64_code 4 kc_N cal_N_laysSigns 3 76 false none k_N_laysSigns = true := by decide +kernel
theorem w_N_laysSigns : ai_CW i_N_laysSigns := ⟨(tk_mem (l := [((Jvm.Cond.code ({ cls := "SuiteBenchModel", name := "laysSigns", desc := "()V" } : Jvm.MethodName) prog_14_method_64_code (4 : Nat) (Option.none : Option Jvm.ClassFile.FieldType)), 9, 62)]) (by decide +kernel) _ (List.mem_singleton.mpr rfl)), (tk_mem (l := [((Jvm.Cond.initialized "SuiteBenchModel"), 1, 15)]) (by decide +kernel) _ (List.mem_singleton.mpr rfl)), ⟨by decide +kernel, by decide +kernel, by decide +kernel⟩, ⟨(tk_mem (l := [((Jvm.Cond.instanceMethod ({ cls := "SuiteBenchModel", name := "laysSigns", desc := "()V" } : Jvm.MethodName)), 9, 61)]) (by decide +kernel) _ (List.mem_singleton.mpr rfl)), gw_sel 105 (by decide +kernel), .inl ⟨_, _, rfl⟩⟩⟩
theorem c_N_laysSigns {E2 : (Nat → Nat) → State → Heap → Prop} (hE : ai_XH E2) : ai_S E2 i_N_laysSigns f_N_laysSigns := snd_M (by decide) rfl (by decide) a_N_laysSigns kc_N_ok (by rfl) (by decide) (fun a i h => match a, h with
    | 0, h => by cases h; exact ⟨c_N_states hE, w_N_states⟩
    | 1, h => by cases h; exact ⟨c_N_long1 hE, w_N_long1⟩
    | 2, h => by cases h; exact ⟨c_N_isSign hE, w_N_isSign⟩
    | 3, h => by cases h; exact ⟨c_N_inputs hE, w_N_inputs⟩
    | 4, h => by cases h; exact ⟨c_N_after hE, w_N_after⟩
    | _ + 5, h => by simp [cal_N_laysSigns, ai_nth] at h)
def k_N_sign : ai_C := [
  [(0, .aload_n 0, 1, 0, 0, 0, 0, 0, []), (1, .iconst 0, 1, 0, 0, 0, 0, 0, []), (2, .putfield 145, 3, 12, 0, 67, 0, 0, []), (5, .aload_n 0, 1, 0, 0, 0, 0, 0, []), (6, .iload_n 1, 1, 1, 0, 0, 0, 0, []), (7, .invokevirtual 307, 3, 0, 2, 105, 0, 0, [(0, 12)]), (10, .ifCond .ne 5, 3, 15, 0, 0, 0, 0, []), (13, .iconst (-1), 1, 0, 0, 0, 0, (-1), []), (14, .ireturn, 1, 0, 0, 0, 0, 0, []), (15, .aload_n 0, 1, 0, 0, 0, 0, 0, [])],
  [(16, .invokevirtual 361, 3, 1, 1, 116, 9, 0, [(0, 12)]), (19, .aload_n 0, 1, 0, 0, 0, 0, 0, []), (20, .getfield 63, 3, 12, 30, 46, 2, 30, []), (23, .iload_n 1, 1, 1, 0, 0, 0, 0, []), (24, .iaload, 1, 0, 0, 0, 0, 0, []), (25, .ireturn, 1, 0, 0, 0, 0, 0, [])]]
def i_N_sign : ai_I := ((⟨"SuiteBenchModel", "sign", "(I)I"⟩, prog_14_method_65_code, 2, (some .int), 0, 4, 99, 0, 1, 0, 12) : ai_I)
def o_N_sign (a : Nat) : SP := match a with
  | 0 => f_N_isState
  | 1 => f_N_laysSigns
  | _ => fun _ _ _ _ _ => False
theorem mo_N_sign : ∀ a, ai_mono (o_N_sign a)
  | 0 => mf_N_isState
  | 1 => mf_N_laysSigns
  | _ + 2 => fun _ _ _ _ _ _ _ h => h
def f_N_sign : SP := ai_M o_N_sign 0 2 k_N_sign
theorem mf_N_sign : ai_mono f_N_sign := M_mono mo_N_sign
abbrev cal_N_sign : List ai_I := [i_N_isState, i_N_laysSigns]
theorem a_N_sign : ai_all "SuiteBenchModel" prog_14_method_65_code 2 kc_N cal_N_sign 4 99 false (some .int) k_N_sign = true := by decide +kernel
theorem w_N_sign : ai_CW i_N_sign := ⟨(tk_mem (l := [((Jvm.Cond.code ({ cls := "SuiteBenchModel", name := "sign", desc := "(I)I" } : Jvm.MethodName) prog_14_method_65_code (2 : Nat) (Option.some Jvm.ClassFile.FieldType.int)), 9, 58)]) (by decide +kernel) _ (List.mem_singleton.mpr rfl)), (tk_mem (l := [((Jvm.Cond.initialized "SuiteBenchModel"), 1, 15)]) (by decide +kernel) _ (List.mem_singleton.mpr rfl)), ⟨by decide +kernel, by decide +kernel, by decide +kernel⟩, ⟨(tk_mem (l := [((Jvm.Cond.instanceMethod ({ cls := "SuiteBenchModel", name := "sign", desc := "(I)I" } : Jvm.MethodName)), 9, 56)]) (by decide +kernel) _ (List.mem_singleton.mpr rfl)), (tk_mem (l := [((Jvm.Cond.selects "SuiteBenchModel" ({ cls := "SuiteBenchModel", name := "sign", desc := "(I)I" } : Jvm.MethodName) ({ cls := "SuiteBenchModel", name := "sign", desc := "(I)I" } : Jvm.MethodName)), 9, 57)]) (by decide +kernel) _ (List.mem_singleton.mpr rfl)), .inl ⟨_, _, rfl⟩⟩⟩
theorem c_N_sign {E2 : (Nat → Nat) → State → Heap → Prop} (hE : ai_XH E2) : ai_S E2 i_N_sign f_N_sign := snd_M (by decide) rfl (by decide) a_N_sign kc_N_ok (by rfl) (by decide) (fun a i h => match a, h with
    | 0, h => by cases h; exact ⟨c_N_isState hE, w_N_isState⟩
    | 1, h => by cases h; exact ⟨c_N_laysSigns hE, w_N_laysSigns⟩
    | _ + 2, h => by simp [cal_N_sign, ai_nth] at h)
