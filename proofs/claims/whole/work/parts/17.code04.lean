/-! the code of the methods, by program; what it rests on, looked at; the contracts -/
def k_B_isSuite : ai_C := [
  [(0, .iload_n 0, 1, 0, 0, 0, 0, 0, []), (1, .ifCond .lt 12, 3, 13, 0, 0, 0, 0, []), (4, .iload_n 0, 1, 0, 0, 0, 0, 0, []), (5, .iconst 3, 1, 0, 0, 0, 0, 3, []), (6, .if_icmp .gt 7, 3, 13, 0, 0, 0, 0, []), (9, .iconst 1, 1, 0, 0, 0, 0, 1, []), (10, .goto 4, 3, 14, 0, 0, 0, 0, []), (13, .iconst 0, 1, 0, 0, 0, 0, 0, []), (14, .ireturn, 1, 0, 0, 0, 3, 0, [])]]
def i_B_isSuite : ai_I := ((⟨"SuiteBench", "isSuite", "(I)Z"⟩, prog_1_method_45_code, 1, (some .boolean), 3, 0, 0, 0, 1, 1, 11) : ai_I)
def o_B_isSuite (_ : Nat) : SP := fun _ _ _ _ _ => False
theorem mo_B_isSuite : ∀ a, ai_mono (o_B_isSuite a) := fun _ _ _ _ _ _ _ _ h => h
def f_B_isSuite : SP := ai_M o_B_isSuite 0 1 k_B_isSuite
theorem mf_B_isSuite : ai_mono f_B_isSuite := M_mono mo_B_isSuite
abbrev cal_B_isSuite : List ai_I := []
theorem a_B_isSuite : ai_all "SuiteBench" prog_1_method_45_code 1 kc_B cal_B_isSuite 0 0 false (some .boolean) k_B_isSuite = true := by decide +kernel
theorem w_B_isSuite : ai_CW i_B_isSuite := ⟨(tk_mem (l := [((Jvm.Cond.code ({ cls := "SuiteBench", name := "isSuite", desc := "(I)Z" } : Jvm.MethodName) prog_1_method_45_code (1 : Nat) (Option.some Jvm.ClassFile.FieldType.boolean)), 4, 197)]) (by decide +kernel) _ (List.mem_singleton.mpr rfl)), (tk_mem (l := [((Jvm.Cond.initialized "SuiteBench"), 1, 1)]) (by decide +kernel) _ (List.mem_singleton.mpr rfl)), ⟨by decide +kernel, by decide +kernel, by decide +kernel⟩, (tk_mem (l := [((Jvm.Cond.static ({ cls := "SuiteBench", name := "isSuite", desc := "(I)Z" } : Jvm.MethodName)), 4, 196)]) (by decide +kernel) _ (List.mem_singleton.mpr rfl))⟩
theorem c_B_isSuite {E2 : (Nat → Nat) → State → Heap → Prop} (hE : ai_XH E2) : ai_S E2 i_B_isSuite f_B_isSuite := snd_M (by decide) rfl (by decide) a_B_isSuite kc_B_ok (by rfl) (by decide) (fun a i h => by simp [cal_B_isSuite, ai_nth] at h)
def k_T_growChild : ai_C := [
  [(0, .iload_n 1, 1, 1, 0, 0, 0, 0, []), (1, .iconst 3, 1, 0, 0, 0, 0, 3, []), (2, .imul, 1, 0, 0, 0, 0, 0, []), (3, .iload_n 2, 1, 2, 0, 0, 0, 0, []), (4, .iadd, 1, 0, 0, 0, 0, 0, []), (5, .istore_n 3, 1, 3, 0, 0, 0, 0, []), (6, .aload_n 0, 1, 0, 0, 0, 0, 0, []), (7, .getfield 17, 3, 6, 4, 5, 2, 4, []), (10, .iload_n 3, 1, 3, 0, 0, 0, 0, []), (11, .iaload, 1, 0, 0, 0, 0, 0, []), (12, .ifCond .ne 90, 3, 102, 0, 0, 0, 0, []), (15, .aload_n 0, 1, 0, 0, 0, 0, 0, [])],
  [(16, .getfield 88, 3, 6, 10, 23, 0, 10, []), (19, .sipush 4550, 3, 0, 0, 0, 0, 4550, []), (22, .if_icmp .ge 80, 3, 102, 0, 0, 0, 0, []), (25, .aload_n 0, 1, 0, 0, 0, 0, 0, []), (26, .getfield 17, 3, 6, 4, 5, 2, 4, []), (29, .iload_n 3, 1, 3, 0, 0, 0, 0, []), (30, .aload_n 0, 1, 0, 0, 0, 0, 0, []), (31, .getfield 88, 3, 6, 10, 23, 0, 10, [])],
  [(34, .iastore, 1, 0, 0, 0, 0, 0, []), (35, .aload_n 0, 1, 0, 0, 0, 0, 0, []), (36, .getfield 21, 3, 6, 5, 6, 2, 5, []), (39, .aload_n 0, 1, 0, 0, 0, 0, 0, []), (40, .getfield 88, 3, 6, 10, 23, 0, 10, []), (43, .aload_n 0, 1, 0, 0, 0, 0, 0, []), (44, .getfield 33, 3, 6, 0, 10, 2, 0, []), (47, .getfield 143, 3, 1, 0, 24, 2, 0, [])],
  [(50, .aload_n 0, 1, 0, 0, 0, 0, 0, []), (51, .getfield 21, 3, 6, 5, 6, 2, 5, []), (54, .iload_n 1, 1, 1, 0, 0, 0, 0, []), (55, .iaload, 1, 0, 0, 0, 0, 0, []), (56, .iconst 3, 1, 0, 0, 0, 0, 3, []), (57, .imul, 1, 0, 0, 0, 0, 0, []), (58, .iload_n 2, 1, 2, 0, 0, 0, 0, []), (59, .iadd, 1, 0, 0, 0, 0, 0, []), (60, .iaload, 1, 0, 0, 0, 0, 0, []), (61, .iastore, 1, 0, 0, 0, 0, 0, []), (62, .iconst 0, 1, 0, 0, 0, 0, 0, []), (63, .istore 4, 2, 4, 0, 0, 0, 0, [])],
  [(65, .iload 4, 2, 4, 0, 0, 0, 0, []), (67, .iconst 3, 1, 0, 0, 0, 0, 3, []), (68, .if_icmp .ge 24, 3, 92, 0, 0, 0, 0, []), (71, .aload_n 0, 1, 0, 0, 0, 0, 0, []), (72, .getfield 17, 3, 6, 4, 5, 2, 4, []), (75, .aload_n 0, 1, 0, 0, 0, 0, 0, []), (76, .getfield 88, 3, 6, 10, 23, 0, 10, []), (79, .iconst 3, 1, 0, 0, 0, 0, 3, [])],
  [(80, .imul, 1, 0, 0, 0, 0, 0, []), (81, .iload 4, 2, 4, 0, 0, 0, 0, []), (83, .iadd, 1, 0, 0, 0, 0, 0, []), (84, .iconst 0, 1, 0, 0, 0, 0, 0, []), (85, .iastore, 1, 0, 0, 0, 0, 0, []), (86, .iinc 4 1, 3, 4, 0, 0, 0, 1, []), (89, .goto (-24), 3, 65, 0, 0, 0, 0, []), (92, .aload_n 0, 1, 0, 0, 0, 0, 0, []), (93, .dup, 1, 0, 0, 0, 0, 0, []), (94, .getfield 88, 3, 6, 10, 23, 0, 10, [])],
  [(97, .iconst 1, 1, 0, 0, 0, 0, 1, []), (98, .iadd, 1, 0, 0, 0, 0, 0, []), (99, .putfield 88, 3, 6, 10, 23, 0, 10, []), (102, .aload_n 0, 1, 0, 0, 0, 0, 0, []), (103, .getfield 17, 3, 6, 4, 5, 2, 4, []), (106, .iload_n 3, 1, 3, 0, 0, 0, 0, []), (107, .iaload, 1, 0, 0, 0, 0, 0, []), (108, .ireturn, 1, 0, 0, 0, 0, 0, [])]]
def i_T_growChild : ai_I := ((⟨"SuiteBench$Suites", "growChild", "(II)I"⟩, prog_8_method_10_code, 5, (some .int), 0, 0, 0, 0, 2, 0, 6) : ai_I)
def o_T_growChild (_ : Nat) : SP := fun _ _ _ _ _ => False
theorem mo_T_growChild : ∀ a, ai_mono (o_T_growChild a) := fun _ _ _ _ _ _ _ _ h => h
def f_T_growChild : SP := ai_M o_T_growChild 0 5 k_T_growChild
theorem mf_T_growChild : ai_mono f_T_growChild := M_mono mo_T_growChild
abbrev cal_T_growChild : List ai_I := []
theorem a_T_growChild : ai_all "SuiteBench$Suites" prog_8_method_10_code 5 kc_T cal_T_growChild 0 0 false (some .int) k_T_growChild = true := by decide +kernel
theorem w_T_growChild : ai_CW i_T_growChild := ⟨(tk_mem (l := [((Jvm.Cond.code ({ cls := "SuiteBench$Suites", name := "growChild", desc := "(II)I" } : Jvm.MethodName) prog_8_method_10_code (5 : Nat) (Option.some Jvm.ClassFile.FieldType.int)), 4, 224)]) (by decide +kernel) _ (List.mem_singleton.mpr rfl)), (tk_mem (l := [((Jvm.Cond.initialized "SuiteBench$Suites"), 1, 8)]) (by decide +kernel) _ (List.mem_singleton.mpr rfl)), ⟨by decide +kernel, by decide +kernel, by decide +kernel⟩, ⟨(tk_mem (l := [((Jvm.Cond.instanceMethod ({ cls := "SuiteBench$Suites", name := "growChild", desc := "(II)I" } : Jvm.MethodName)), 4, 223)]) (by decide +kernel) _ (List.mem_singleton.mpr rfl)), gw_sel 36 (by decide +kernel), .inl ⟨_, _, rfl⟩⟩⟩
theorem c_T_growChild {E2 : (Nat → Nat) → State → Heap → Prop} (hE : ai_XH E2) : ai_S E2 i_T_growChild f_T_growChild := snd_M (by decide) rfl (by decide) a_T_growChild kc_T_ok (by rfl) (by decide) (fun a i h => by simp [cal_T_growChild, ai_nth] at h)
def k_T_growWord : ai_C := [
  [(0, .iload_n 1, 1, 1, 0, 0, 0, 0, []), (1, .istore_n 3, 1, 3, 0, 0, 0, 0, []), (2, .iload_n 2, 1, 2, 0, 0, 0, 0, []), (3, .invokestatic 136, 3, 0, 1, 25, 0, 0, [(0, 11)]), (6, .iconst 1, 1, 0, 0, 0, 0, 1, []), (7, .isub, 1, 0, 0, 0, 0, 0, []), (8, .istore 4, 2, 4, 0, 0, 0, 0, []), (10, .iload 4, 2, 4, 0, 0, 0, 0, []), (12, .ifCond .lt 21, 3, 33, 0, 0, 0, 0, []), (15, .aload_n 0, 1, 0, 0, 0, 0, 0, [])],
  [(16, .iload_n 3, 1, 3, 0, 0, 0, 0, []), (17, .iload_n 2, 1, 2, 0, 0, 0, 0, []), (18, .iload 4, 2, 4, 0, 0, 0, 0, []), (20, .invokestatic 140, 3, 1, 2, 26, 0, 0, [(0, 11)]), (23, .invokevirtual 133, 3, 2, 3, 27, 0, 0, [(0, 6)]), (26, .istore_n 3, 1, 3, 0, 0, 0, 0, []), (27, .iinc 4 (-1), 3, 4, 0, 0, 0, (-1), []), (30, .goto (-20), 3, 10, 0, 0, 0, 0, [])],
  [(33, .iload_n 3, 1, 3, 0, 0, 0, 0, []), (34, .ireturn, 1, 0, 0, 0, 0, 0, [])]]
def i_T_growWord : ai_I := ((⟨"SuiteBench$Suites", "growWord", "(II)I"⟩, prog_8_method_9_code, 5, (some .int), 0, 1, 24, 0, 2, 0, 6) : ai_I)
def o_T_growWord (a : Nat) : SP := match a with
  | 0 => f_B_lengthOf
  | 1 => f_B_inputAt
  | 2 => f_T_growChild
  | _ => fun _ _ _ _ _ => False
theorem mo_T_growWord : ∀ a, ai_mono (o_T_growWord a)
  | 0 => mf_B_lengthOf
  | 1 => mf_B_inputAt
  | 2 => mf_T_growChild
  | _ + 3 => fun _ _ _ _ _ _ _ h => h
def f_T_growWord : SP := ai_M o_T_growWord 0 5 k_T_growWord
theorem mf_T_growWord : ai_mono f_T_growWord := M_mono mo_T_growWord
abbrev cal_T_growWord : List ai_I := [i_B_lengthOf, i_B_inputAt, i_T_growChild]
theorem a_T_growWord : ai_all "SuiteBench$Suites" prog_8_method_9_code 5 kc_T cal_T_growWord 1 24 false (some .int) k_T_growWord = true := by decide +kernel
theorem w_T_growWord : ai_CW i_T_growWord := ⟨(tk_mem (l := [((Jvm.Cond.code ({ cls := "SuiteBench$Suites", name := "growWord", desc := "(II)I" } : Jvm.MethodName) prog_8_method_9_code (5 : Nat) (Option.some Jvm.ClassFile.FieldType.int)), 4, 218)]) (by decide +kernel) _ (List.mem_singleton.mpr rfl)), (tk_mem (l := [((Jvm.Cond.initialized "SuiteBench$Suites"), 1, 8)]) (by decide +kernel) _ (List.mem_singleton.mpr rfl)), ⟨by decide +kernel, by decide +kernel, by decide +kernel⟩, ⟨(tk_mem (l := [((Jvm.Cond.instanceMethod ({ cls := "SuiteBench$Suites", name := "growWord", desc := "(II)I" } : Jvm.MethodName)), 4, 217)]) (by decide +kernel) _ (List.mem_singleton.mpr rfl)), gw_sel 35 (by decide +kernel), .inl ⟨_, _, rfl⟩⟩⟩
theorem c_T_growWord {E2 : (Nat → Nat) → State → Heap → Prop} (hE : ai_XH E2) : ai_S E2 i_T_growWord f_T_growWord := snd_M (by decide) rfl (by decide) a_T_growWord kc_T_ok (by rfl) (by decide) (fun a i h => match a, h with
    | 0, h => by cases h; exact ⟨c_B_lengthOf hE, w_B_lengthOf⟩
    | 1, h => by cases h; exact ⟨c_B_inputAt hE, w_B_inputAt⟩
    | 2, h => by cases h; exact ⟨c_T_growChild hE, w_T_growChild⟩
    | _ + 3, h => by simp [cal_T_growWord, ai_nth] at h)
def k_T_addHead : ai_C := [
  [(0, .aload_n 0, 1, 0, 0, 0, 0, 0, []), (1, .getfield 95, 3, 6, 9, 28, 0, 9, []), (4, .sipush 240, 3, 0, 0, 0, 0, 240, []), (7, .if_icmp .ge 23, 3, 30, 0, 0, 0, 0, []), (10, .aload_n 0, 1, 0, 0, 0, 0, 0, []), (11, .getfield 30, 3, 6, 8, 9, 2, 8, []), (14, .aload_n 0, 1, 0, 0, 0, 0, 0, []), (15, .getfield 95, 3, 6, 9, 28, 0, 9, [])],
  [(18, .iload_n 1, 1, 1, 0, 0, 0, 0, []), (19, .iastore, 1, 0, 0, 0, 0, 0, []), (20, .aload_n 0, 1, 0, 0, 0, 0, 0, []), (21, .dup, 1, 0, 0, 0, 0, 0, []), (22, .getfield 95, 3, 6, 9, 28, 0, 9, []), (25, .iconst 1, 1, 0, 0, 0, 0, 1, []), (26, .iadd, 1, 0, 0, 0, 0, 0, []), (27, .putfield 95, 3, 6, 9, 28, 0, 9, []), (30, .return_, 1, 0, 0, 0, 0, 0, [])]]
def i_T_addHead : ai_I := ((⟨"SuiteBench$Suites", "addHead", "(I)V"⟩, prog_8_method_7_code, 2, none, 9, 0, 0, 0, 1, 0, 6) : ai_I)
def o_T_addHead (_ : Nat) : SP := fun _ _ _ _ _ => False
theorem mo_T_addHead : ∀ a, ai_mono (o_T_addHead a) := fun _ _ _ _ _ _ _ _ h => h
def f_T_addHead : SP := ai_M o_T_addHead 0 2 k_T_addHead
theorem mf_T_addHead : ai_mono f_T_addHead := M_mono mo_T_addHead
abbrev cal_T_addHead : List ai_I := []
theorem a_T_addHead : ai_all "SuiteBench$Suites" prog_8_method_7_code 2 kc_T cal_T_addHead 0 0 false none k_T_addHead = true := by decide +kernel
theorem w_T_addHead : ai_CW i_T_addHead := ⟨(tk_mem (l := [((Jvm.Cond.code ({ cls := "SuiteBench$Suites", name := "addHead", desc := "(I)V" } : Jvm.MethodName) prog_8_method_7_code (2 : Nat) (Option.none : Option Jvm.ClassFile.FieldType)), 4, 228)]) (by decide +kernel) _ (List.mem_singleton.mpr rfl)), (tk_mem (l := [((Jvm.Cond.initialized "SuiteBench$Suites"), 1, 8)]) (by decide +kernel) _ (List.mem_singleton.mpr rfl)), ⟨by decide +kernel, by decide +kernel, by decide +kernel⟩, ⟨(tk_mem (l := [((Jvm.Cond.instanceMethod ({ cls := "SuiteBench$Suites", name := "addHead", desc := "(I)V" } : Jvm.MethodName)), 4, 227)]) (by decide +kernel) _ (List.mem_singleton.mpr rfl)), gw_sel 37 (by decide +kernel), .inl ⟨_, _, rfl⟩⟩⟩
theorem c_T_addHead {E2 : (Nat → Nat) → State → Heap → Prop} (hE : ai_XH E2) : ai_S E2 i_T_addHead f_T_addHead := snd_M (by decide) rfl (by decide) a_T_addHead kc_T_ok (by rfl) (by decide) (fun a i h => by simp [cal_T_addHead, ai_nth] at h)
def k_T_growHeads : ai_C := [
  [(0, .aload_n 0, 1, 0, 0, 0, 0, 0, []), (1, .iconst 0, 1, 0, 0, 0, 0, 0, []), (2, .putfield 95, 3, 6, 9, 28, 0, 9, []), (5, .iconst 0, 1, 0, 0, 0, 0, 0, []), (6, .istore_n 2, 1, 2, 0, 0, 0, 0, []), (7, .iload_n 2, 1, 2, 0, 0, 0, 0, []), (8, .aload_n 0, 1, 0, 0, 0, 0, 0, []), (9, .getfield 33, 3, 6, 0, 10, 2, 0, []), (12, .getfield 75, 3, 1, 2, 29, 0, 2, []), (15, .if_icmp .ge 38, 3, 53, 0, 0, 0, 0, [])],
  [(18, .aload_n 0, 1, 0, 0, 0, 0, 0, []), (19, .getfield 37, 3, 6, 1, 11, 2, 1, []), (22, .iload_n 2, 1, 2, 0, 0, 0, 0, []), (23, .invokevirtual 116, 3, 0, 2, 30, 0, 0, [(0, 9)]), (26, .ifCond .eq 21, 3, 47, 0, 0, 0, 0, []), (29, .aload_n 0, 1, 0, 0, 0, 0, 0, []), (30, .aload_n 0, 1, 0, 0, 0, 0, 0, []), (31, .iconst 0, 1, 0, 0, 0, 0, 0, [])],
  [(32, .aload_n 0, 1, 0, 0, 0, 0, 0, []), (33, .getfield 37, 3, 6, 1, 11, 2, 1, []), (36, .getfield 120, 3, 9, 1, 31, 2, 1, []), (39, .iload_n 2, 1, 2, 0, 0, 0, 0, []), (40, .iaload, 1, 0, 0, 0, 0, 0, []), (41, .invokevirtual 123, 3, 1, 3, 32, 0, 0, [(0, 6)]), (44, .invokevirtual 127, 3, 2, 2, 33, 9, 0, [(0, 6)]), (47, .iinc 2 1, 3, 2, 0, 0, 0, 1, [])],
  [(50, .goto (-43), 3, 7, 0, 0, 0, 0, []), (53, .iconst 0, 1, 0, 0, 0, 0, 0, []), (54, .istore_n 2, 1, 2, 0, 0, 0, 0, []), (55, .iconst 0, 1, 0, 0, 0, 0, 0, []), (56, .istore_n 3, 1, 3, 0, 0, 0, 0, []), (57, .iload_n 3, 1, 3, 0, 0, 0, 0, []), (58, .iload_n 1, 1, 1, 0, 0, 0, 0, []), (59, .if_icmp .gt 72, 3, 131, 0, 0, 0, 0, []), (62, .aload_n 0, 1, 0, 0, 0, 0, 0, []), (63, .getfield 95, 3, 6, 9, 28, 0, 9, [])],
  [(66, .istore 4, 2, 4, 0, 0, 0, 0, []), (68, .iload_n 2, 1, 2, 0, 0, 0, 0, []), (69, .istore 5, 2, 5, 0, 0, 0, 0, []), (71, .iload 5, 2, 5, 0, 0, 0, 0, []), (73, .iload 4, 2, 4, 0, 0, 0, 0, []), (75, .if_icmp .ge 47, 3, 122, 0, 0, 0, 0, []), (78, .iconst 0, 1, 0, 0, 0, 0, 0, []), (79, .istore 6, 2, 6, 0, 0, 0, 0, [])],
  [(81, .iload 6, 2, 6, 0, 0, 0, 0, []), (83, .aload_n 0, 1, 0, 0, 0, 0, 0, []), (84, .getfield 33, 3, 6, 0, 10, 2, 0, []), (87, .getfield 130, 3, 1, 3, 34, 0, 3, []), (90, .if_icmp .ge 26, 3, 116, 0, 0, 0, 0, []), (93, .aload_n 0, 1, 0, 0, 0, 0, 0, []), (94, .aload_n 0, 1, 0, 0, 0, 0, 0, []), (95, .aload_n 0, 1, 0, 0, 0, 0, 0, [])],
  [(96, .getfield 30, 3, 6, 8, 9, 2, 8, []), (99, .iload 5, 2, 5, 0, 0, 0, 0, []), (101, .iaload, 1, 0, 0, 0, 0, 0, []), (102, .iload 6, 2, 6, 0, 0, 0, 0, []), (104, .invokevirtual 133, 3, 3, 3, 27, 0, 0, [(0, 6)]), (107, .invokevirtual 127, 3, 2, 2, 33, 9, 0, [(0, 6)]), (110, .iinc 6 1, 3, 6, 0, 0, 0, 1, [])],
  [(113, .goto (-32), 3, 81, 0, 0, 0, 0, []), (116, .iinc 5 1, 3, 5, 0, 0, 0, 1, []), (119, .goto (-48), 3, 71, 0, 0, 0, 0, []), (122, .iload 4, 2, 4, 0, 0, 0, 0, []), (124, .istore_n 2, 1, 2, 0, 0, 0, 0, []), (125, .iinc 3 1, 3, 3, 0, 0, 0, 1, [])],
  [(128, .goto (-71), 3, 57, 0, 0, 0, 0, []), (131, .return_, 1, 0, 0, 0, 0, 0, [])]]
def i_T_growHeads : ai_I := ((⟨"SuiteBench$Suites", "growHeads", "(I)V"⟩, prog_8_method_6_code, 7, none, 9, 2, 48, 0, 1, 0, 6) : ai_I)
def o_T_growHeads (a : Nat) : SP := match a with
  | 0 => f_A_isReached
  | 1 => f_T_growWord
  | 2 => f_T_addHead
  | 3 => f_T_growChild
  | _ => fun _ _ _ _ _ => False
theorem mo_T_growHeads : ∀ a, ai_mono (o_T_growHeads a)
  | 0 => mf_A_isReached
  | 1 => mf_T_growWord
  | 2 => mf_T_addHead
  | 3 => mf_T_growChild
  | _ + 4 => fun _ _ _ _ _ _ _ h => h
def f_T_growHeads : SP := ai_M o_T_growHeads 0 7 k_T_growHeads
theorem mf_T_growHeads : ai_mono f_T_growHeads := M_mono mo_T_growHeads
abbrev cal_T_growHeads : List ai_I := [i_A_isReached, i_T_growWord, i_T_addHead, i_T_growChild]
theorem a_T_growHeads : ai_all "SuiteBench$Suites" prog_8_method_6_code 7 kc_T cal_T_growHeads 2 48 false none k_T_growHeads = true := by decide +kernel
theorem w_T_growHeads : ai_CW i_T_growHeads := ⟨(tk_mem (l := [((Jvm.Cond.code ({ cls := "SuiteBench$Suites", name := "growHeads", desc := "(I)V" } : Jvm.MethodName) prog_8_method_6_code (7 : Nat) (Option.none : Option Jvm.ClassFile.FieldType)), 4, 213)]) (by decide +kernel) _ (List.mem_singleton.mpr rfl)), (tk_mem (l := [((Jvm.Cond.initialized "SuiteBench$Suites"), 1, 8)]) (by decide +kernel) _ (List.mem_singleton.mpr rfl)), ⟨by decide +kernel, by decide +kernel, by decide +kernel⟩, ⟨(tk_mem (l := [((Jvm.Cond.instanceMethod ({ cls := "SuiteBench$Suites", name := "growHeads", desc := "(I)V" } : Jvm.MethodName)), 4, 212)]) (by decide +kernel) _ (List.mem_singleton.mpr rfl)), gw_sel 34 (by decide +kernel), .inl ⟨_, _, rfl⟩⟩⟩
theorem c_T_growHeads {E2 : (Nat → Nat) → State → Heap → Prop} (hE : ai_XH E2) : ai_S E2 i_T_growHeads f_T_growHeads := snd_M (by decide) rfl (by decide) a_T_growHeads kc_T_ok (by rfl) (by decide) (fun a i h => match a, h with
    | 0, h => by cases h; exact ⟨c_A_isReached hE, w_A_isReached⟩
    | 1, h => by cases h; exact ⟨c_T_growWord hE, w_T_growWord⟩
    | 2, h => by cases h; exact ⟨c_T_addHead hE, w_T_addHead⟩
    | 3, h => by cases h; exact ⟨c_T_growChild hE, w_T_growChild⟩
    | _ + 4, h => by simp [cal_T_growHeads, ai_nth] at h)
def k_T_growAll : ai_C := [
  [(0, .iconst 0, 1, 0, 0, 0, 0, 0, []), (1, .istore 5, 2, 5, 0, 0, 0, 0, []), (3, .iload 5, 2, 5, 0, 0, 0, 0, []), (5, .iload 4, 2, 4, 0, 0, 0, 0, []), (7, .if_icmp .ge 30, 3, 37, 0, 0, 0, 0, []), (10, .iload_n 3, 1, 3, 0, 0, 0, 0, []), (11, .iload 5, 2, 5, 0, 0, 0, 0, []), (13, .iadd, 1, 0, 0, 0, 0, 0, []), (14, .aload_n 2, 1, 2, 0, 0, 0, 0, []), (15, .arraylength, 1, 0, 0, 0, 50, 0, [])],
  [(16, .if_icmp .ge 21, 3, 37, 0, 0, 0, 0, []), (19, .aload_n 0, 1, 0, 0, 0, 0, 0, []), (20, .iload_n 1, 1, 1, 0, 0, 0, 0, []), (21, .aload_n 2, 1, 2, 0, 0, 0, 0, []), (22, .iload_n 3, 1, 3, 0, 0, 0, 0, []), (23, .iload 5, 2, 5, 0, 0, 0, 0, []), (25, .iadd, 1, 0, 0, 0, 0, 0, []), (26, .iaload, 1, 0, 0, 0, 0, 0, []), (27, .invokevirtual 123, 3, 0, 3, 32, 0, 0, [(0, 6)]), (30, .pop, 1, 0, 0, 0, 0, 0, []), (31, .iinc 5 1, 3, 5, 0, 0, 0, 1, [])],
  [(34, .goto (-31), 3, 3, 0, 0, 0, 0, []), (37, .return_, 1, 0, 0, 0, 0, 0, [])]]
def i_T_growAll : ai_I := ((⟨"SuiteBench$Suites", "growAll", "(I[III)V"⟩, prog_8_method_8_code, 6, none, 9, 2, 48, 0, 4, 0, 6) : ai_I)
def o_T_growAll (a : Nat) : SP := match a with
  | 0 => f_T_growWord
  | _ => fun _ _ _ _ _ => False
theorem mo_T_growAll : ∀ a, ai_mono (o_T_growAll a)
  | 0 => mf_T_growWord
  | _ + 1 => fun _ _ _ _ _ _ _ h => h
def f_T_growAll : SP := ai_M o_T_growAll 0 6 k_T_growAll
theorem mf_T_growAll : ai_mono f_T_growAll := M_mono mo_T_growAll
abbrev cal_T_growAll : List ai_I := [i_T_growWord]
theorem a_T_growAll : ai_all "SuiteBench$Suites" prog_8_method_8_code 6 kc_T cal_T_growAll 2 48 false none k_T_growAll = true := by decide +kernel
theorem w_T_growAll : ai_CW i_T_growAll := ⟨(tk_mem (l := [((Jvm.Cond.code ({ cls := "SuiteBench$Suites", name := "growAll", desc := "(I[III)V" } : Jvm.MethodName) prog_8_method_8_code (6 : Nat) (Option.none : Option Jvm.ClassFile.FieldType)), 4, 232)]) (by decide +kernel) _ (List.mem_singleton.mpr rfl)), (tk_mem (l := [((Jvm.Cond.initialized "SuiteBench$Suites"), 1, 8)]) (by decide +kernel) _ (List.mem_singleton.mpr rfl)), ⟨by decide +kernel, by decide +kernel, by decide +kernel⟩, ⟨(tk_mem (l := [((Jvm.Cond.instanceMethod ({ cls := "SuiteBench$Suites", name := "growAll", desc := "(I[III)V" } : Jvm.MethodName)), 4, 231)]) (by decide +kernel) _ (List.mem_singleton.mpr rfl)), gw_sel 38 (by decide +kernel), .inl ⟨_, _, rfl⟩⟩⟩
theorem c_T_growAll {E2 : (Nat → Nat) → State → Heap → Prop} (hE : ai_XH E2) : ai_S E2 i_T_growAll f_T_growAll := snd_M (by decide) rfl (by decide) a_T_growAll kc_T_ok (by rfl) (by decide) (fun a i h => match a, h with
    | 0, h => by cases h; exact ⟨c_T_growWord hE, w_T_growWord⟩
    | _ + 1, h => by simp [cal_T_growAll, ai_nth] at h)
def k_T_grow : ai_C := [
  [(0, .iconst 0, 1, 0, 0, 0, 0, 0, []), (1, .istore_n 3, 1, 3, 0, 0, 0, 0, []), (2, .iload_n 3, 1, 3, 0, 0, 0, 0, []), (3, .iconst 3, 1, 0, 0, 0, 0, 3, []), (4, .if_icmp .ge 16, 3, 20, 0, 0, 0, 0, []), (7, .aload_n 0, 1, 0, 0, 0, 0, 0, []), (8, .getfield 17, 3, 6, 4, 5, 2, 4, []), (11, .iload_n 3, 1, 3, 0, 0, 0, 0, []), (12, .iconst 0, 1, 0, 0, 0, 0, 0, []), (13, .iastore, 1, 0, 0, 0, 0, 0, []), (14, .iinc 3 1, 3, 3, 0, 0, 0, 1, [])],
  [(17, .goto (-15), 3, 2, 0, 0, 0, 0, []), (20, .aload_n 0, 1, 0, 0, 0, 0, 0, []), (21, .getfield 21, 3, 6, 5, 6, 2, 5, []), (24, .iconst 0, 1, 0, 0, 0, 0, 0, []), (25, .iconst 0, 1, 0, 0, 0, 0, 0, []), (26, .iastore, 1, 0, 0, 0, 0, 0, []), (27, .aload_n 0, 1, 0, 0, 0, 0, 0, []), (28, .iconst 1, 1, 0, 0, 0, 0, 1, []), (29, .putfield 88, 3, 6, 10, 23, 0, 10, [])],
  [(32, .aload_n 0, 1, 0, 0, 0, 0, 0, []), (33, .iload_n 2, 1, 2, 0, 0, 0, 0, []), (34, .invokevirtual 91, 3, 0, 2, 35, 9, 0, [(0, 6)]), (37, .iconst 0, 1, 0, 0, 0, 0, 0, []), (38, .istore_n 3, 1, 3, 0, 0, 0, 0, []), (39, .iload_n 3, 1, 3, 0, 0, 0, 0, []), (40, .aload_n 0, 1, 0, 0, 0, 0, 0, []), (41, .getfield 95, 3, 6, 9, 28, 0, 9, []), (44, .if_icmp .ge 86, 3, 130, 0, 0, 0, 0, []), (47, .iload_n 1, 1, 1, 0, 0, 0, 0, [])],
  [(48, .ifCond .ne 31, 3, 79, 0, 0, 0, 0, []), (51, .aload_n 0, 1, 0, 0, 0, 0, 0, []), (52, .aload_n 0, 1, 0, 0, 0, 0, 0, []), (53, .getfield 30, 3, 6, 8, 9, 2, 8, []), (56, .iload_n 3, 1, 3, 0, 0, 0, 0, []), (57, .iaload, 1, 0, 0, 0, 0, 0, []), (58, .aload_n 0, 1, 0, 0, 0, 0, 0, []), (59, .getfield 37, 3, 6, 1, 11, 2, 1, []), (62, .getfield 98, 3, 9, 4, 36, 2, 4, [])],
  [(65, .iconst 0, 1, 0, 0, 0, 0, 0, []), (66, .aload_n 0, 1, 0, 0, 0, 0, 0, []), (67, .getfield 37, 3, 6, 1, 11, 2, 1, []), (70, .getfield 103, 3, 9, 10, 37, 0, 10, []), (73, .invokevirtual 106, 3, 1, 5, 38, 9, 0, [(0, 6)]), (76, .goto 48, 3, 124, 0, 0, 0, 0, []), (79, .aload_n 0, 1, 0, 0, 0, 0, 0, [])],
  [(80, .getfield 21, 3, 6, 5, 6, 2, 5, []), (83, .aload_n 0, 1, 0, 0, 0, 0, 0, []), (84, .getfield 30, 3, 6, 8, 9, 2, 8, []), (87, .iload_n 3, 1, 3, 0, 0, 0, 0, []), (88, .iaload, 1, 0, 0, 0, 0, 0, []), (89, .iaload, 1, 0, 0, 0, 0, 0, []), (90, .istore 4, 2, 4, 0, 0, 0, 0, []), (92, .aload_n 0, 1, 0, 0, 0, 0, 0, []), (93, .aload_n 0, 1, 0, 0, 0, 0, 0, []), (94, .getfield 30, 3, 6, 8, 9, 2, 8, [])],
  [(97, .iload_n 3, 1, 3, 0, 0, 0, 0, []), (98, .iaload, 1, 0, 0, 0, 0, 0, []), (99, .aload_n 0, 1, 0, 0, 0, 0, 0, []), (100, .getfield 37, 3, 6, 1, 11, 2, 1, []), (103, .getfield 110, 3, 9, 5, 39, 2, 5, []), (106, .iload 4, 2, 4, 0, 0, 0, 0, []), (108, .bipush 6, 2, 0, 0, 0, 0, 6, []), (110, .imul, 1, 0, 0, 0, 0, 0, []), (111, .aload_n 0, 1, 0, 0, 0, 0, 0, [])],
  [(112, .getfield 37, 3, 6, 1, 11, 2, 1, []), (115, .getfield 113, 3, 9, 6, 40, 2, 6, []), (118, .iload 4, 2, 4, 0, 0, 0, 0, []), (120, .iaload, 1, 0, 0, 0, 0, 0, []), (121, .invokevirtual 106, 3, 1, 5, 38, 9, 0, [(0, 6)]), (124, .iinc 3 1, 3, 3, 0, 0, 0, 1, []), (127, .goto (-88), 3, 39, 0, 0, 0, 0, [])],
  [(130, .return_, 1, 0, 0, 0, 0, 0, [])]]
def i_T_grow : ai_I := ((⟨"SuiteBench$Suites", "grow", "(II)V"⟩, prog_8_method_5_code, 5, none, 9, 3, 74, 0, 2, 0, 6) : ai_I)
def o_T_grow (a : Nat) : SP := match a with
  | 0 => f_T_growHeads
  | 1 => f_T_growAll
  | _ => fun _ _ _ _ _ => False
theorem mo_T_grow : ∀ a, ai_mono (o_T_grow a)
  | 0 => mf_T_growHeads
  | 1 => mf_T_growAll
  | _ + 2 => fun _ _ _ _ _ _ _ h => h
def f_T_grow : SP := ai_M o_T_grow 0 5 k_T_grow
theorem mf_T_grow : ai_mono f_T_grow := M_mono mo_T_grow
abbrev cal_T_grow : List ai_I := [i_T_growHeads, i_T_growAll]
theorem a_T_grow : ai_all "SuiteBench$Suites" prog_8_method_5_code 5 kc_T cal_T_grow 3 74 false none k_T_grow = true := by decide +kernel
theorem w_T_grow : ai_CW i_T_grow := ⟨(tk_mem (l := [((Jvm.Cond.code ({ cls := "SuiteBench$Suites", name := "grow", desc := "(II)V" } : Jvm.MethodName) prog_8_method_5_code (5 : Nat) (Option.none : Option Jvm.ClassFile.FieldType)), 4, 209)]) (by decide +kernel) _ (List.mem_singleton.mpr rfl)), (tk_mem (l := [((Jvm.Cond.initialized "SuiteBench$Suites"), 1, 8)]) (by decide +kernel) _ (List.mem_singleton.mpr rfl)), ⟨by decide +kernel, by decide +kernel, by decide +kernel⟩, ⟨(tk_mem (l := [((Jvm.Cond.instanceMethod ({ cls := "SuiteBench$Suites", name := "grow", desc := "(II)V" } : Jvm.MethodName)), 4, 208)]) (by decide +kernel) _ (List.mem_singleton.mpr rfl)), gw_sel 33 (by decide +kernel), .inl ⟨_, _, rfl⟩⟩⟩
theorem c_T_grow {E2 : (Nat → Nat) → State → Heap → Prop} (hE : ai_XH E2) : ai_S E2 i_T_grow f_T_grow := snd_M (by decide) rfl (by decide) a_T_grow kc_T_ok (by rfl) (by decide) (fun a i h => match a, h with
    | 0, h => by cases h; exact ⟨c_T_growHeads hE, w_T_growHeads⟩
    | 1, h => by cases h; exact ⟨c_T_growAll hE, w_T_growAll⟩
    | _ + 2, h => by simp [cal_T_grow, ai_nth] at h)
def k_E_addNode : ai_C := [
  [(0, .aload_n 0, 1, 0, 0, 0, 0, 0, []), (1, .getfield 33, 3, 8, 7, 9, 0, 7, []), (4, .aload_n 0, 1, 0, 0, 0, 0, 0, []), (5, .getfield 9, 3, 8, 0, 2, 2, 0, []), (8, .arraylength, 1, 0, 0, 0, 50, 0, []), (9, .if_icmp .ge 55, 3, 64, 0, 0, 0, 0, []), (12, .aload_n 0, 1, 0, 0, 0, 0, 0, []), (13, .getfield 33, 3, 8, 7, 9, 0, 7, [])],
  [(16, .aload_n 0, 1, 0, 0, 0, 0, 0, []), (17, .getfield 30, 3, 8, 6, 8, 2, 6, []), (20, .arraylength, 1, 0, 0, 0, 50, 0, []), (21, .if_icmp .ge 43, 3, 64, 0, 0, 0, 0, []), (24, .aload_n 0, 1, 0, 0, 0, 0, 0, []), (25, .getfield 9, 3, 8, 0, 2, 2, 0, []), (28, .aload_n 0, 1, 0, 0, 0, 0, 0, []), (29, .getfield 33, 3, 8, 7, 9, 0, 7, [])],
  [(32, .iload_n 1, 1, 1, 0, 0, 0, 0, []), (33, .iastore, 1, 0, 0, 0, 0, 0, []), (34, .aload_n 0, 1, 0, 0, 0, 0, 0, []), (35, .getfield 15, 3, 8, 1, 3, 2, 1, []), (38, .aload_n 0, 1, 0, 0, 0, 0, 0, []), (39, .getfield 33, 3, 8, 7, 9, 0, 7, []), (42, .iload_n 2, 1, 2, 0, 0, 0, 0, []), (43, .iastore, 1, 0, 0, 0, 0, 0, []), (44, .aload_n 0, 1, 0, 0, 0, 0, 0, []), (45, .getfield 18, 3, 8, 2, 4, 2, 2, [])],
  [(48, .aload_n 0, 1, 0, 0, 0, 0, 0, []), (49, .getfield 33, 3, 8, 7, 9, 0, 7, []), (52, .iload_n 3, 1, 3, 0, 0, 0, 0, []), (53, .iastore, 1, 0, 0, 0, 0, 0, []), (54, .aload_n 0, 1, 0, 0, 0, 0, 0, []), (55, .dup, 1, 0, 0, 0, 0, 0, []), (56, .getfield 33, 3, 8, 7, 9, 0, 7, []), (59, .iconst 1, 1, 0, 0, 0, 0, 1, []), (60, .iadd, 1, 0, 0, 0, 0, 0, []), (61, .putfield 33, 3, 8, 7, 9, 0, 7, [])],
  [(64, .return_, 1, 0, 0, 0, 0, 0, [])]]
def i_E_addNode : ai_I := ((⟨"SuiteBench$Tests", "addNode", "(III)V"⟩, prog_10_method_3_code, 4, none, 9, 0, 0, 0, 3, 0, 8) : ai_I)
def o_E_addNode (_ : Nat) : SP := fun _ _ _ _ _ => False
theorem mo_E_addNode : ∀ a, ai_mono (o_E_addNode a) := fun _ _ _ _ _ _ _ _ h => h
def f_E_addNode : SP := ai_M o_E_addNode 0 4 k_E_addNode
theorem mf_E_addNode : ai_mono f_E_addNode := M_mono mo_E_addNode
abbrev cal_E_addNode : List ai_I := []
theorem a_E_addNode : ai_all "SuiteBench$Tests" prog_10_method_3_code 4 kc_E cal_E_addNode 0 0 false none k_E_addNode = true := by decide +kernel
theorem w_E_addNode : ai_CW i_E_addNode := ⟨(tk_mem (l := [((Jvm.Cond.code ({ cls := "SuiteBench$Tests", name := "addNode", desc := "(III)V" } : Jvm.MethodName) prog_10_method_3_code (4 : Nat) (Option.none : Option Jvm.ClassFile.FieldType)), 5, 0)]) (by decide +kernel) _ (List.mem_singleton.mpr rfl)), (tk_mem (l := [((Jvm.Cond.initialized "SuiteBench$Tests"), 1, 10)]) (by decide +kernel) _ (List.mem_singleton.mpr rfl)), ⟨by decide +kernel, by decide +kernel, by decide +kernel⟩, ⟨(tk_mem (l := [((Jvm.Cond.instanceMethod ({ cls := "SuiteBench$Tests", name := "addNode", desc := "(III)V" } : Jvm.MethodName)), 4, 238)]) (by decide +kernel) _ (List.mem_singleton.mpr rfl)), (tk_mem (l := [((Jvm.Cond.selects "SuiteBench$Tests" ({ cls := "SuiteBench$Tests", name := "addNode", desc := "(III)V" } : Jvm.MethodName) ({ cls := "SuiteBench$Tests", name := "addNode", desc := "(III)V" } : Jvm.MethodName)), 4, 239)]) (by decide +kernel) _ (List.mem_singleton.mpr rfl)), .inl ⟨_, _, rfl⟩⟩⟩
theorem c_E_addNode {E2 : (Nat → Nat) → State → Heap → Prop} (hE : ai_XH E2) : ai_S E2 i_E_addNode f_E_addNode := snd_M (by decide) rfl (by decide) a_E_addNode kc_E_ok (by rfl) (by decide) (fun a i h => by simp [cal_E_addNode, ai_nth] at h)
def k_E_addTest : ai_C := [
  [(0, .aload_n 0, 1, 0, 0, 0, 0, 0, []), (1, .getfield 37, 3, 8, 8, 10, 0, 8, []), (4, .aload_n 0, 1, 0, 0, 0, 0, 0, []), (5, .getfield 21, 3, 8, 3, 5, 2, 3, []), (8, .arraylength, 1, 0, 0, 0, 50, 0, []), (9, .if_icmp .ge 43, 3, 52, 0, 0, 0, 0, []), (12, .aload_n 0, 1, 0, 0, 0, 0, 0, []), (13, .getfield 21, 3, 8, 3, 5, 2, 3, [])],
  [(16, .aload_n 0, 1, 0, 0, 0, 0, 0, []), (17, .getfield 37, 3, 8, 8, 10, 0, 8, []), (20, .iload_n 1, 1, 1, 0, 0, 0, 0, []), (21, .iastore, 1, 0, 0, 0, 0, 0, []), (22, .aload_n 0, 1, 0, 0, 0, 0, 0, []), (23, .getfield 24, 3, 8, 4, 6, 2, 4, []), (26, .aload_n 0, 1, 0, 0, 0, 0, 0, []), (27, .getfield 37, 3, 8, 8, 10, 0, 8, []), (30, .iload_n 2, 1, 2, 0, 0, 0, 0, []), (31, .iastore, 1, 0, 0, 0, 0, 0, [])],
  [(32, .aload_n 0, 1, 0, 0, 0, 0, 0, []), (33, .getfield 27, 3, 8, 5, 7, 2, 5, []), (36, .aload_n 0, 1, 0, 0, 0, 0, 0, []), (37, .getfield 37, 3, 8, 8, 10, 0, 8, []), (40, .iload_n 3, 1, 3, 0, 0, 0, 0, []), (41, .iastore, 1, 0, 0, 0, 0, 0, []), (42, .aload_n 0, 1, 0, 0, 0, 0, 0, []), (43, .dup, 1, 0, 0, 0, 0, 0, []), (44, .getfield 37, 3, 8, 8, 10, 0, 8, []), (47, .iconst 1, 1, 0, 0, 0, 0, 1, [])],
  [(48, .iadd, 1, 0, 0, 0, 0, 0, []), (49, .putfield 37, 3, 8, 8, 10, 0, 8, []), (52, .return_, 1, 0, 0, 0, 0, 0, [])]]
def i_E_addTest : ai_I := ((⟨"SuiteBench$Tests", "addTest", "(III)V"⟩, prog_10_method_4_code, 4, none, 9, 0, 0, 0, 3, 0, 8) : ai_I)
def o_E_addTest (_ : Nat) : SP := fun _ _ _ _ _ => False
theorem mo_E_addTest : ∀ a, ai_mono (o_E_addTest a) := fun _ _ _ _ _ _ _ _ h => h
def f_E_addTest : SP := ai_M o_E_addTest 0 4 k_E_addTest
theorem mf_E_addTest : ai_mono f_E_addTest := M_mono mo_E_addTest
abbrev cal_E_addTest : List ai_I := []
theorem a_E_addTest : ai_all "SuiteBench$Tests" prog_10_method_4_code 4 kc_E cal_E_addTest 0 0 false none k_E_addTest = true := by decide +kernel
theorem w_E_addTest : ai_CW i_E_addTest := ⟨(tk_mem (l := [((Jvm.Cond.code ({ cls := "SuiteBench$Tests", name := "addTest", desc := "(III)V" } : Jvm.MethodName) prog_10_method_4_code (4 : Nat) (Option.none : Option Jvm.ClassFile.FieldType)), 5, 4)]) (by decide +kernel) _ (List.mem_singleton.mpr rfl)), (tk_mem (l := [((Jvm.Cond.initialized "SuiteBench$Tests"), 1, 10)]) (by decide +kernel) _ (List.mem_singleton.mpr rfl)), ⟨by decide +kernel, by decide +kernel, by decide +kernel⟩, ⟨(tk_mem (l := [((Jvm.Cond.instanceMethod ({ cls := "SuiteBench$Tests", name := "addTest", desc := "(III)V" } : Jvm.MethodName)), 5, 2)]) (by decide +kernel) _ (List.mem_singleton.mpr rfl)), (tk_mem (l := [((Jvm.Cond.selects "SuiteBench$Tests" ({ cls := "SuiteBench$Tests", name := "addTest", desc := "(III)V" } : Jvm.MethodName) ({ cls := "SuiteBench$Tests", name := "addTest", desc := "(III)V" } : Jvm.MethodName)), 5, 3)]) (by decide +kernel) _ (List.mem_singleton.mpr rfl)), .inl ⟨_, _, rfl⟩⟩⟩
theorem c_E_addTest {E2 : (Nat → Nat) → State → Heap → Prop} (hE : ai_XH E2) : ai_S E2 i_E_addTest f_E_addTest := snd_M (by decide) rfl (by decide) a_E_addTest kc_E_ok (by rfl) (by decide) (fun a i h => by simp [cal_E_addTest, ai_nth] at h)
def k_T_pour : ai_C := [
  [(0, .iconst 1, 1, 0, 0, 0, 0, 1, []), (1, .istore_n 2, 1, 2, 0, 0, 0, 0, []), (2, .aload_n 0, 1, 0, 0, 0, 0, 0, []), (3, .getfield 24, 3, 6, 6, 7, 2, 6, []), (6, .iconst 0, 1, 0, 0, 0, 0, 0, []), (7, .iconst 0, 1, 0, 0, 0, 0, 0, []), (8, .iastore, 1, 0, 0, 0, 0, 0, []), (9, .aload_n 0, 1, 0, 0, 0, 0, 0, []), (10, .getfield 27, 3, 6, 7, 8, 2, 7, []), (13, .iconst 0, 1, 0, 0, 0, 0, 0, []), (14, .iconst 0, 1, 0, 0, 0, 0, 0, []), (15, .iastore, 1, 0, 0, 0, 0, 0, [])],
  [(16, .aload_n 1, 1, 1, 0, 0, 0, 0, []), (17, .iconst 0, 1, 0, 0, 0, 0, 0, []), (18, .iconst 0, 1, 0, 0, 0, 0, 0, []), (19, .iconst 0, 1, 0, 0, 0, 0, 0, []), (20, .invokevirtual 146, 3, 0, 4, 41, 9, 0, [(0, 8)]), (23, .iconst 0, 1, 0, 0, 0, 0, 0, []), (24, .istore_n 3, 1, 3, 0, 0, 0, 0, []), (25, .iload_n 3, 1, 3, 0, 0, 0, 0, []), (26, .iload_n 2, 1, 2, 0, 0, 0, 0, []), (27, .if_icmp .ge 159, 3, 186, 0, 0, 0, 0, []), (30, .iload_n 3, 1, 3, 0, 0, 0, 0, []), (31, .sipush 4550, 3, 0, 0, 0, 0, 4550, [])],
  [(34, .if_icmp .ge 152, 3, 186, 0, 0, 0, 0, []), (37, .aload_n 0, 1, 0, 0, 0, 0, 0, []), (38, .getfield 24, 3, 6, 6, 7, 2, 6, []), (41, .iload_n 3, 1, 3, 0, 0, 0, 0, []), (42, .iaload, 1, 0, 0, 0, 0, 0, []), (43, .istore 4, 2, 4, 0, 0, 0, 0, []), (45, .iconst 1, 1, 0, 0, 0, 0, 1, []), (46, .istore 5, 2, 5, 0, 0, 0, 0, [])],
  [(48, .iconst 0, 1, 0, 0, 0, 0, 0, []), (49, .istore 6, 2, 6, 0, 0, 0, 0, []), (51, .iload 6, 2, 6, 0, 0, 0, 0, []), (53, .aload_n 0, 1, 0, 0, 0, 0, 0, []), (54, .getfield 33, 3, 6, 0, 10, 2, 0, []), (57, .getfield 130, 3, 1, 3, 34, 0, 3, []), (60, .if_icmp .ge 95, 3, 155, 0, 0, 0, 0, []), (63, .aload_n 0, 1, 0, 0, 0, 0, 0, [])],
  [(64, .getfield 17, 3, 6, 4, 5, 2, 4, []), (67, .iload 4, 2, 4, 0, 0, 0, 0, []), (69, .iconst 3, 1, 0, 0, 0, 0, 3, []), (70, .imul, 1, 0, 0, 0, 0, 0, []), (71, .iload 6, 2, 6, 0, 0, 0, 0, []), (73, .iadd, 1, 0, 0, 0, 0, 0, []), (74, .iaload, 1, 0, 0, 0, 0, 0, []), (75, .istore 7, 2, 7, 0, 0, 0, 0, []), (77, .iload 7, 2, 7, 0, 0, 0, 0, []), (79, .ifCond .le 70, 3, 149, 0, 0, 0, 0, [])],
  [(82, .iload_n 2, 1, 2, 0, 0, 0, 0, []), (83, .sipush 4550, 3, 0, 0, 0, 0, 4550, []), (86, .if_icmp .ge 63, 3, 149, 0, 0, 0, 0, []), (89, .iconst 0, 1, 0, 0, 0, 0, 0, []), (90, .istore 5, 2, 5, 0, 0, 0, 0, []), (92, .aload_n 0, 1, 0, 0, 0, 0, 0, []), (93, .getfield 24, 3, 6, 6, 7, 2, 6, [])],
  [(96, .iload_n 2, 1, 2, 0, 0, 0, 0, []), (97, .iload 7, 2, 7, 0, 0, 0, 0, []), (99, .iastore, 1, 0, 0, 0, 0, 0, []), (100, .aload_n 0, 1, 0, 0, 0, 0, 0, []), (101, .getfield 27, 3, 6, 7, 8, 2, 7, []), (104, .iload_n 2, 1, 2, 0, 0, 0, 0, []), (105, .aload_n 0, 1, 0, 0, 0, 0, 0, []), (106, .getfield 27, 3, 6, 7, 8, 2, 7, []), (109, .iload_n 3, 1, 3, 0, 0, 0, 0, []), (110, .iaload, 1, 0, 0, 0, 0, 0, []), (111, .iconst 4, 1, 0, 0, 0, 0, 4, [])],
  [(112, .imul, 1, 0, 0, 0, 0, 0, []), (113, .iload 6, 2, 6, 0, 0, 0, 0, []), (115, .iadd, 1, 0, 0, 0, 0, 0, []), (116, .iconst 1, 1, 0, 0, 0, 0, 1, []), (117, .iadd, 1, 0, 0, 0, 0, 0, []), (118, .iastore, 1, 0, 0, 0, 0, 0, []), (119, .iinc 2 1, 3, 2, 0, 0, 0, 1, []), (122, .aload_n 1, 1, 1, 0, 0, 0, 0, []), (123, .iload_n 3, 1, 3, 0, 0, 0, 0, []), (124, .iload 6, 2, 6, 0, 0, 0, 0, []), (126, .aload_n 0, 1, 0, 0, 0, 0, 0, []), (127, .getfield 33, 3, 6, 0, 10, 2, 0, [])],
  [(130, .getfield 150, 3, 1, 1, 42, 2, 1, []), (133, .aload_n 0, 1, 0, 0, 0, 0, 0, []), (134, .getfield 21, 3, 6, 5, 6, 2, 5, []), (137, .iload 4, 2, 4, 0, 0, 0, 0, []), (139, .iaload, 1, 0, 0, 0, 0, 0, []), (140, .iconst 3, 1, 0, 0, 0, 0, 3, []), (141, .imul, 1, 0, 0, 0, 0, 0, []), (142, .iload 6, 2, 6, 0, 0, 0, 0, [])],
  [(144, .iadd, 1, 0, 0, 0, 0, 0, []), (145, .iaload, 1, 0, 0, 0, 0, 0, []), (146, .invokevirtual 146, 3, 0, 4, 41, 9, 0, [(0, 8)]), (149, .iinc 6 1, 3, 6, 0, 0, 0, 1, []), (152, .goto (-101), 3, 51, 0, 0, 0, 0, []), (155, .iload 5, 2, 5, 0, 0, 0, 0, []), (157, .ifCond .eq 23, 3, 180, 0, 0, 0, 0, [])],
  [(160, .aload_n 1, 1, 1, 0, 0, 0, 0, []), (161, .iload_n 3, 1, 3, 0, 0, 0, 0, []), (162, .aload_n 0, 1, 0, 0, 0, 0, 0, []), (163, .getfield 27, 3, 6, 7, 8, 2, 7, []), (166, .iload_n 3, 1, 3, 0, 0, 0, 0, []), (167, .iaload, 1, 0, 0, 0, 0, 0, []), (168, .aload_n 0, 1, 0, 0, 0, 0, 0, []), (169, .getfield 27, 3, 6, 7, 8, 2, 7, []), (172, .iload_n 3, 1, 3, 0, 0, 0, 0, []), (173, .iaload, 1, 0, 0, 0, 0, 0, []), (174, .invokestatic 136, 3, 1, 1, 25, 0, 0, [(0, 11)])],
  [(177, .invokevirtual 153, 3, 2, 4, 43, 9, 0, [(0, 8)]), (180, .iinc 3 1, 3, 3, 0, 0, 0, 1, []), (183, .goto (-158), 3, 25, 0, 0, 0, 0, []), (186, .return_, 1, 0, 0, 0, 0, 0, [])]]
def i_T_pour : ai_I := ((⟨"SuiteBench$Suites", "pour", "(LSuiteBench$Tests;)V"⟩, prog_8_method_11_code, 8, none, 9, 1, 23, 0, 1, 0, 6) : ai_I)
def o_T_pour (a : Nat) : SP := match a with
  | 0 => f_E_addNode
  | 1 => f_B_lengthOf
  | 2 => f_E_addTest
  | _ => fun _ _ _ _ _ => False
theorem mo_T_pour : ∀ a, ai_mono (o_T_pour a)
  | 0 => mf_E_addNode
  | 1 => mf_B_lengthOf
  | 2 => mf_E_addTest
  | _ + 3 => fun _ _ _ _ _ _ _ h => h
def f_T_pour : SP := ai_M o_T_pour 0 8 k_T_pour
theorem mf_T_pour : ai_mono f_T_pour := M_mono mo_T_pour
abbrev cal_T_pour : List ai_I := [i_E_addNode, i_B_lengthOf, i_E_addTest]
theorem a_T_pour : ai_all "SuiteBench$Suites" prog_8_method_11_code 8 kc_T cal_T_pour 1 23 false none k_T_pour = true := by decide +kernel
theorem w_T_pour : ai_CW i_T_pour := ⟨(tk_mem (l := [((Jvm.Cond.code ({ cls := "SuiteBench$Suites", name := "pour", desc := "(LSuiteBench$Tests;)V" } : Jvm.MethodName) prog_8_method_11_code (8 : Nat) (Option.none : Option Jvm.ClassFile.FieldType)), 4, 236)]) (by decide +kernel) _ (List.mem_singleton.mpr rfl)), (tk_mem (l := [((Jvm.Cond.initialized "SuiteBench$Suites"), 1, 8)]) (by decide +kernel) _ (List.mem_singleton.mpr rfl)), ⟨by decide +kernel, by decide +kernel, by decide +kernel⟩, ⟨(tk_mem (l := [((Jvm.Cond.instanceMethod ({ cls := "SuiteBench$Suites", name := "pour", desc := "(LSuiteBench$Tests;)V" } : Jvm.MethodName)), 4, 235)]) (by decide +kernel) _ (List.mem_singleton.mpr rfl)), gw_sel 39 (by decide +kernel), .inl ⟨_, _, rfl⟩⟩⟩
theorem c_T_pour {E2 : (Nat → Nat) → State → Heap → Prop} (hE : ai_XH E2) : ai_S E2 i_T_pour f_T_pour := snd_M (by decide) rfl (by decide) a_T_pour kc_T_ok (by rfl) (by decide) (fun a i h => match a, h with
    | 0, h => by cases h; exact ⟨c_E_addNode hE, w_E_addNode⟩
    | 1, h => by cases h; exact ⟨c_B_lengthOf hE, w_B_lengthOf⟩
    | 2, h => by cases h; exact ⟨c_E_addTest hE, w_E_addTest⟩
    | _ + 3, h => by simp [cal_T_pour, ai_nth] at h)
def k_T_planned : ai_C := [
  [(0, .aload_n 0, 1, 0, 0, 0, 0, 0, []), (1, .getfield 13, 3, 6, 3, 3, 2, 3, []), (4, .iload_n 1, 1, 1, 0, 0, 0, 0, []), (5, .iconst 3, 1, 0, 0, 0, 0, 3, []), (6, .imul, 1, 0, 0, 0, 0, 0, []), (7, .iload_n 2, 1, 2, 0, 0, 0, 0, []), (8, .iadd, 1, 0, 0, 0, 0, 0, []), (9, .aaload, 1, 0, 0, 0, 0, 0, []), (10, .astore_n 3, 1, 3, 0, 0, 0, 0, []), (11, .aload_n 3, 1, 3, 0, 0, 0, 0, []), (12, .getfield 67, 3, 8, 9, 44, 3, 9, []), (15, .ifCond .ne 29, 3, 44, 0, 0, 0, 0, [])],
  [(18, .aload_n 3, 1, 3, 0, 0, 0, 0, []), (19, .iconst 1, 1, 0, 0, 0, 0, 1, []), (20, .putfield 67, 3, 8, 9, 44, 3, 9, []), (23, .aload_n 0, 1, 0, 0, 0, 0, 0, []), (24, .getfield 33, 3, 6, 0, 10, 2, 0, []), (27, .getfield 75, 3, 1, 2, 29, 0, 2, []), (30, .ifCond .le 14, 3, 44, 0, 0, 0, 0, [])],
  [(33, .aload_n 0, 1, 0, 0, 0, 0, 0, []), (34, .iload_n 1, 1, 1, 0, 0, 0, 0, []), (35, .iload_n 2, 1, 2, 0, 0, 0, 0, []), (36, .invokevirtual 80, 3, 0, 3, 45, 9, 0, [(0, 6)]), (39, .aload_n 0, 1, 0, 0, 0, 0, 0, []), (40, .aload_n 3, 1, 3, 0, 0, 0, 0, []), (41, .invokevirtual 84, 3, 1, 2, 46, 9, 0, [(0, 6)]), (44, .aload_n 3, 1, 3, 0, 0, 0, 0, []), (45, .areturn, 1, 0, 0, 0, 0, 0, [])]]
def i_T_planned : ai_I := ((⟨"SuiteBench$Suites", "planned", "(II)LSuiteBench$Tests;"⟩, prog_8_method_4_code, 4, (some (.object "SuiteBench$Tests")), 2, 4, 98, 0, 2, 0, 6) : ai_I)
def o_T_planned (a : Nat) : SP := match a with
  | 0 => f_T_grow
  | 1 => f_T_pour
  | _ => fun _ _ _ _ _ => False
theorem mo_T_planned : ∀ a, ai_mono (o_T_planned a)
  | 0 => mf_T_grow
  | 1 => mf_T_pour
  | _ + 2 => fun _ _ _ _ _ _ _ h => h
def f_T_planned : SP := ai_M o_T_planned 0 4 k_T_planned
theorem mf_T_planned : ai_mono f_T_planned := M_mono mo_T_planned
abbrev cal_T_planned : List ai_I := [i_T_grow, i_T_pour]
theorem a_T_planned : ai_all "SuiteBench$Suites" prog_8_method_4_code 4 kc_T cal_T_planned 4 98 false (some (.object "SuiteBench$Tests")) k_T_planned = true := by decide +kernel
theorem w_T_planned : ai_CW i_T_planned := ⟨(tk_mem (l := [((Jvm.Cond.code ({ cls := "SuiteBench$Suites", name := "planned", desc := "(II)LSuiteBench$Tests;" } : Jvm.MethodName) prog_8_method_4_code (4 : Nat) (Option.some (Jvm.ClassFile.FieldType.object "SuiteBench$Tests"))), 4, 205)]) (by decide +kernel) _ (List.mem_singleton.mpr rfl)), (tk_mem (l := [((Jvm.Cond.initialized "SuiteBench$Suites"), 1, 8)]) (by decide +kernel) _ (List.mem_singleton.mpr rfl)), ⟨by decide +kernel, by decide +kernel, by decide +kernel⟩, ⟨(tk_mem (l := [((Jvm.Cond.instanceMethod ({ cls := "SuiteBench$Suites", name := "planned", desc := "(II)LSuiteBench$Tests;" } : Jvm.MethodName)), 4, 203)]) (by decide +kernel) _ (List.mem_singleton.mpr rfl)), (tk_mem (l := [((Jvm.Cond.selects "SuiteBench$Suites" ({ cls := "SuiteBench$Suites", name := "planned", desc := "(II)LSuiteBench$Tests;" } : Jvm.MethodName) ({ cls := "SuiteBench$Suites", name := "planned", desc := "(II)LSuiteBench$Tests;" } : Jvm.MethodName)), 4, 204)]) (by decide +kernel) _ (List.mem_singleton.mpr rfl)), .inl ⟨_, _, rfl⟩⟩⟩
theorem c_T_planned {E2 : (Nat → Nat) → State → Heap → Prop} (hE : ai_XH E2) : ai_S E2 i_T_planned f_T_planned := snd_M (by decide) rfl (by decide) a_T_planned kc_T_ok (by rfl) (by decide) (fun a i h => match a, h with
    | 0, h => by cases h; exact ⟨c_T_grow hE, w_T_grow⟩
    | 1, h => by cases h; exact ⟨c_T_pour hE, w_T_pour⟩
    | _ + 2, h => by simp [cal_T_planned, ai_nth] at h)
def k_W_wordToNew : ai_C := [
  [(0, .iconst 1, 1, 0, 0, 0, 0, 1, []), (1, .aload_n 0, 1, 0, 0, 0, 0, 0, []), (2, .getfield 35, 3, 10, 5, 6, 0, 5, []), (5, .ishl, 1, 0, 0, 0, 0, 0, []), (6, .istore_n 1, 1, 1, 0, 0, 0, 0, []), (7, .iconst 1, 1, 0, 0, 0, 0, 1, []), (8, .istore_n 2, 1, 2, 0, 0, 0, 0, []), (9, .aload_n 0, 1, 0, 0, 0, 0, 0, []), (10, .getfield 11, 3, 10, 2, 2, 2, 2, []), (13, .iconst 0, 1, 0, 0, 0, 0, 0, []), (14, .aload_n 0, 1, 0, 0, 0, 0, 0, []), (15, .getfield 35, 3, 10, 5, 6, 0, 5, [])],
  [(18, .iastore, 1, 0, 0, 0, 0, 0, []), (19, .aload_n 0, 1, 0, 0, 0, 0, 0, []), (20, .getfield 15, 3, 10, 3, 3, 2, 3, []), (23, .iconst 0, 1, 0, 0, 0, 0, 0, []), (24, .iconst 0, 1, 0, 0, 0, 0, 0, []), (25, .iastore, 1, 0, 0, 0, 0, 0, []), (26, .iconst 0, 1, 0, 0, 0, 0, 0, []), (27, .istore_n 3, 1, 3, 0, 0, 0, 0, []), (28, .iload_n 3, 1, 3, 0, 0, 0, 0, []), (29, .iload_n 2, 1, 2, 0, 0, 0, 0, []), (30, .if_icmp .ge 132, 3, 162, 0, 0, 0, 0, [])],
  [(33, .iload_n 3, 1, 3, 0, 0, 0, 0, []), (34, .bipush 6, 2, 0, 0, 0, 0, 6, []), (36, .if_icmp .ge 126, 3, 162, 0, 0, 0, 0, []), (39, .iconst 0, 1, 0, 0, 0, 0, 0, []), (40, .istore 4, 2, 4, 0, 0, 0, 0, []), (42, .iload 4, 2, 4, 0, 0, 0, 0, []), (44, .aload_n 0, 1, 0, 0, 0, 0, 0, []), (45, .getfield 18, 3, 10, 0, 4, 2, 0, [])],
  [(48, .getfield 77, 3, 1, 3, 7, 0, 3, []), (51, .if_icmp .ge 105, 3, 156, 0, 0, 0, 0, []), (54, .aload_n 0, 1, 0, 0, 0, 0, 0, []), (55, .getfield 11, 3, 10, 2, 2, 2, 2, []), (58, .iload_n 3, 1, 3, 0, 0, 0, 0, []), (59, .iaload, 1, 0, 0, 0, 0, 0, []), (60, .iconst 3, 1, 0, 0, 0, 0, 3, []), (61, .imul, 1, 0, 0, 0, 0, 0, []), (62, .iload 4, 2, 4, 0, 0, 0, 0, [])],
  [(64, .iadd, 1, 0, 0, 0, 0, 0, []), (65, .istore 5, 2, 5, 0, 0, 0, 0, []), (67, .aload_n 0, 1, 0, 0, 0, 0, 0, []), (68, .getfield 15, 3, 10, 3, 3, 2, 3, []), (71, .iload_n 3, 1, 3, 0, 0, 0, 0, []), (72, .iaload, 1, 0, 0, 0, 0, 0, []), (73, .iconst 4, 1, 0, 0, 0, 0, 4, []), (74, .imul, 1, 0, 0, 0, 0, 0, []), (75, .iload 4, 2, 4, 0, 0, 0, 0, []), (77, .iadd, 1, 0, 0, 0, 0, 0, []), (78, .iconst 1, 1, 0, 0, 0, 0, 1, []), (79, .iadd, 1, 0, 0, 0, 0, 0, [])],
  [(80, .istore 6, 2, 6, 0, 0, 0, 0, []), (82, .aload_n 0, 1, 0, 0, 0, 0, 0, []), (83, .getfield 32, 3, 10, 4, 8, 0, 4, []), (86, .iload 5, 2, 5, 0, 0, 0, 0, []), (88, .ishr, 1, 0, 0, 0, 0, 0, []), (89, .iconst 1, 1, 0, 0, 0, 0, 1, []), (90, .iand, 1, 0, 0, 0, 0, 0, []), (91, .ifCond .ne 6, 3, 97, 0, 0, 0, 0, []), (94, .iload 6, 2, 6, 0, 0, 0, 0, [])],
  [(96, .ireturn, 1, 0, 0, 0, 0, 0, []), (97, .aload_n 0, 1, 0, 0, 0, 0, 0, []), (98, .getfield 18, 3, 10, 0, 4, 2, 0, []), (101, .getfield 74, 3, 1, 0, 9, 2, 0, []), (104, .iload 5, 2, 5, 0, 0, 0, 0, []), (106, .iaload, 1, 0, 0, 0, 0, 0, []), (107, .istore 7, 2, 7, 0, 0, 0, 0, []), (109, .iload_n 1, 1, 1, 0, 0, 0, 0, []), (110, .iload 7, 2, 7, 0, 0, 0, 0, [])],
  [(112, .ishr, 1, 0, 0, 0, 0, 0, []), (113, .iconst 1, 1, 0, 0, 0, 0, 1, []), (114, .iand, 1, 0, 0, 0, 0, 0, []), (115, .ifCond .ne 35, 3, 150, 0, 0, 0, 0, []), (118, .iload_n 2, 1, 2, 0, 0, 0, 0, []), (119, .bipush 6, 2, 0, 0, 0, 0, 6, []), (121, .if_icmp .ge 29, 3, 150, 0, 0, 0, 0, []), (124, .iload_n 1, 1, 1, 0, 0, 0, 0, []), (125, .iconst 1, 1, 0, 0, 0, 0, 1, []), (126, .iload 7, 2, 7, 0, 0, 0, 0, [])],
  [(128, .ishl, 1, 0, 0, 0, 0, 0, []), (129, .ior, 1, 0, 0, 0, 0, 0, []), (130, .istore_n 1, 1, 1, 0, 0, 0, 0, []), (131, .aload_n 0, 1, 0, 0, 0, 0, 0, []), (132, .getfield 11, 3, 10, 2, 2, 2, 2, []), (135, .iload_n 2, 1, 2, 0, 0, 0, 0, []), (136, .iload 7, 2, 7, 0, 0, 0, 0, []), (138, .iastore, 1, 0, 0, 0, 0, 0, []), (139, .aload_n 0, 1, 0, 0, 0, 0, 0, []), (140, .getfield 15, 3, 10, 3, 3, 2, 3, []), (143, .iload_n 2, 1, 2, 0, 0, 0, 0, [])],
  [(144, .iload 6, 2, 6, 0, 0, 0, 0, []), (146, .iastore, 1, 0, 0, 0, 0, 0, []), (147, .iinc 2 1, 3, 2, 0, 0, 0, 1, []), (150, .iinc 4 1, 3, 4, 0, 0, 0, 1, []), (153, .goto (-111), 3, 42, 0, 0, 0, 0, []), (156, .iinc 3 1, 3, 3, 0, 0, 0, 1, []), (159, .goto (-131), 3, 28, 0, 0, 0, 0, [])],
  [(162, .iconst (-1), 1, 0, 0, 0, 0, (-1), []), (163, .ireturn, 1, 0, 0, 0, 0, 0, [])]]
def i_W_wordToNew : ai_I := ((⟨"SuiteBench$Walk", "wordToNew", "()I"⟩, prog_12_method_4_code, 8, (some .int), 0, 0, 0, 0, 0, 0, 10) : ai_I)
def o_W_wordToNew (_ : Nat) : SP := fun _ _ _ _ _ => False
theorem mo_W_wordToNew : ∀ a, ai_mono (o_W_wordToNew a) := fun _ _ _ _ _ _ _ _ h => h
def f_W_wordToNew : SP := ai_M o_W_wordToNew 0 8 k_W_wordToNew
theorem mf_W_wordToNew : ai_mono f_W_wordToNew := M_mono mo_W_wordToNew
abbrev cal_W_wordToNew : List ai_I := []
theorem a_W_wordToNew : ai_all "SuiteBench$Walk" prog_12_method_4_code 8 kc_W cal_W_wordToNew 0 0 false (some .int) k_W_wordToNew = true := by decide +kernel
theorem w_W_wordToNew : ai_CW i_W_wordToNew := ⟨(tk_mem (l := [((Jvm.Cond.code ({ cls := "SuiteBench$Walk", name := "wordToNew", desc := "()I" } : Jvm.MethodName) prog_12_method_4_code (8 : Nat) (Option.some Jvm.ClassFile.FieldType.int)), 5, 13)]) (by decide +kernel) _ (List.mem_singleton.mpr rfl)), (tk_mem (l := [((Jvm.Cond.initialized "SuiteBench$Walk"), 1, 9)]) (by decide +kernel) _ (List.mem_singleton.mpr rfl)), ⟨by decide +kernel, by decide +kernel, by decide +kernel⟩, ⟨(tk_mem (l := [((Jvm.Cond.instanceMethod ({ cls := "SuiteBench$Walk", name := "wordToNew", desc := "()I" } : Jvm.MethodName)), 5, 12)]) (by decide +kernel) _ (List.mem_singleton.mpr rfl)), gw_sel 40 (by decide +kernel), .inl ⟨_, _, rfl⟩⟩⟩
theorem c_W_wordToNew {E2 : (Nat → Nat) → State → Heap → Prop} (hE : ai_XH E2) : ai_S E2 i_W_wordToNew f_W_wordToNew := snd_M (by decide) rfl (by decide) a_W_wordToNew kc_W_ok (by rfl) (by decide) (fun a i h => by simp [cal_W_wordToNew, ai_nth] at h)
def k_W_take : ai_C := [
  [(0, .iload_n 2, 1, 2, 0, 0, 0, 0, []), (1, .invokestatic 64, 3, 0, 1, 10, 0, 0, [(0, 11)]), (4, .iconst 1, 1, 0, 0, 0, 0, 1, []), (5, .isub, 1, 0, 0, 0, 0, 0, []), (6, .istore_n 3, 1, 3, 0, 0, 0, 0, []), (7, .iload_n 3, 1, 3, 0, 0, 0, 0, []), (8, .ifCond .lt 76, 3, 84, 0, 0, 0, 0, []), (11, .iload_n 2, 1, 2, 0, 0, 0, 0, []), (12, .iload_n 3, 1, 3, 0, 0, 0, 0, []), (13, .invokestatic 67, 3, 1, 2, 11, 0, 0, [(0, 11)])],
  [(16, .istore 4, 2, 4, 0, 0, 0, 0, []), (18, .aload_n 0, 1, 0, 0, 0, 0, 0, []), (19, .getfield 35, 3, 10, 5, 6, 0, 5, []), (22, .iconst 3, 1, 0, 0, 0, 0, 3, []), (23, .imul, 1, 0, 0, 0, 0, 0, []), (24, .iload 4, 2, 4, 0, 0, 0, 0, []), (26, .iadd, 1, 0, 0, 0, 0, 0, []), (27, .istore 5, 2, 5, 0, 0, 0, 0, []), (29, .aload_n 0, 1, 0, 0, 0, 0, 0, []), (30, .dup, 1, 0, 0, 0, 0, 0, []), (31, .getfield 32, 3, 10, 4, 8, 0, 4, [])],
  [(34, .iconst 1, 1, 0, 0, 0, 0, 1, []), (35, .iload 5, 2, 5, 0, 0, 0, 0, []), (37, .ishl, 1, 0, 0, 0, 0, 0, []), (38, .ior, 1, 0, 0, 0, 0, 0, []), (39, .putfield 32, 3, 10, 4, 8, 0, 4, []), (42, .aload_n 1, 1, 1, 0, 0, 0, 0, []), (43, .aload_n 1, 1, 1, 0, 0, 0, 0, []), (44, .getfield 58, 3, 8, 7, 12, 0, 7, []), (47, .iconst 1, 1, 0, 0, 0, 0, 1, [])],
  [(48, .isub, 1, 0, 0, 0, 0, 0, []), (49, .iload 4, 2, 4, 0, 0, 0, 0, []), (51, .aload_n 0, 1, 0, 0, 0, 0, 0, []), (52, .getfield 18, 3, 10, 0, 4, 2, 0, []), (55, .getfield 71, 3, 1, 1, 13, 2, 1, []), (58, .iload 5, 2, 5, 0, 0, 0, 0, []), (60, .iaload, 1, 0, 0, 0, 0, 0, []), (61, .invokevirtual 38, 3, 2, 4, 14, 9, 0, [(0, 8)])],
  [(64, .aload_n 0, 1, 0, 0, 0, 0, 0, []), (65, .aload_n 0, 1, 0, 0, 0, 0, 0, []), (66, .getfield 18, 3, 10, 0, 4, 2, 0, []), (69, .getfield 74, 3, 1, 0, 9, 2, 0, []), (72, .iload 5, 2, 5, 0, 0, 0, 0, []), (74, .iaload, 1, 0, 0, 0, 0, 0, []), (75, .putfield 35, 3, 10, 5, 6, 0, 5, []), (78, .iinc 3 (-1), 3, 3, 0, 0, 0, (-1), [])],
  [(81, .goto (-74), 3, 7, 0, 0, 0, 0, []), (84, .return_, 1, 0, 0, 0, 0, 0, [])]]
def i_W_take : ai_I := ((⟨"SuiteBench$Walk", "take", "(LSuiteBench$Tests;I)V"⟩, prog_12_method_3_code, 6, none, 9, 1, 23, 0, 2, 0, 10) : ai_I)
def o_W_take (a : Nat) : SP := match a with
  | 0 => f_B_lengthOf
  | 1 => f_B_inputAt
  | 2 => f_E_addNode
  | _ => fun _ _ _ _ _ => False
theorem mo_W_take : ∀ a, ai_mono (o_W_take a)
  | 0 => mf_B_lengthOf
  | 1 => mf_B_inputAt
  | 2 => mf_E_addNode
  | _ + 3 => fun _ _ _ _ _ _ _ h => h
def f_W_take : SP := ai_M o_W_take 0 6 k_W_take
theorem mf_W_take : ai_mono f_W_take := M_mono mo_W_take
abbrev cal_W_take : List ai_I := [i_B_lengthOf, i_B_inputAt, i_E_addNode]
theorem a_W_take : ai_all "SuiteBench$Walk" prog_12_method_3_code 6 kc_W cal_W_take 1 23 false none k_W_take = true := by decide +kernel
theorem w_W_take : ai_CW i_W_take := ⟨(tk_mem (l := [((Jvm.Cond.code ({ cls := "SuiteBench$Walk", name := "take", desc := "(LSuiteBench$Tests;I)V" } : Jvm.MethodName) prog_12_method_3_code (6 : Nat) (Option.none : Option Jvm.ClassFile.FieldType)), 5, 17)]) (by decide +kernel) _ (List.mem_singleton.mpr rfl)), (tk_mem (l := [((Jvm.Cond.initialized "SuiteBench$Walk"), 1, 9)]) (by decide +kernel) _ (List.mem_singleton.mpr rfl)), ⟨by decide +kernel, by decide +kernel, by decide +kernel⟩, ⟨(tk_mem (l := [((Jvm.Cond.instanceMethod ({ cls := "SuiteBench$Walk", name := "take", desc := "(LSuiteBench$Tests;I)V" } : Jvm.MethodName)), 5, 16)]) (by decide +kernel) _ (List.mem_singleton.mpr rfl)), gw_sel 41 (by decide +kernel), .inl ⟨_, _, rfl⟩⟩⟩
theorem c_W_take {E2 : (Nat → Nat) → State → Heap → Prop} (hE : ai_XH E2) : ai_S E2 i_W_take f_W_take := snd_M (by decide) rfl (by decide) a_W_take kc_W_ok (by rfl) (by decide) (fun a i h => match a, h with
    | 0, h => by cases h; exact ⟨c_B_lengthOf hE, w_B_lengthOf⟩
    | 1, h => by cases h; exact ⟨c_B_inputAt hE, w_B_inputAt⟩
    | 2, h => by cases h; exact ⟨c_E_addNode hE, w_E_addNode⟩
    | _ + 3, h => by simp [cal_W_take, ai_nth] at h)
def k_W_fill : ai_C := [
  [(0, .aload_n 0, 1, 0, 0, 0, 0, 0, []), (1, .getfield 18, 3, 10, 0, 4, 2, 0, []), (4, .getfield 26, 3, 1, 2, 15, 0, 2, []), (7, .ifCond .ne 4, 3, 11, 0, 0, 0, 0, []), (10, .return_, 1, 0, 0, 0, 0, 0, []), (11, .aload_n 0, 1, 0, 0, 0, 0, 0, []), (12, .iconst 0, 1, 0, 0, 0, 0, 0, []), (13, .putfield 32, 3, 10, 4, 8, 0, 4, [])],
  [(16, .aload_n 0, 1, 0, 0, 0, 0, 0, []), (17, .iconst 0, 1, 0, 0, 0, 0, 0, []), (18, .putfield 35, 3, 10, 5, 6, 0, 5, []), (21, .aload_n 1, 1, 1, 0, 0, 0, 0, []), (22, .iconst 0, 1, 0, 0, 0, 0, 0, []), (23, .iconst 0, 1, 0, 0, 0, 0, 0, []), (24, .iconst 0, 1, 0, 0, 0, 0, 0, []), (25, .invokevirtual 38, 3, 0, 4, 14, 9, 0, [(0, 8)]), (28, .iconst 0, 1, 0, 0, 0, 0, 0, []), (29, .istore_n 3, 1, 3, 0, 0, 0, 0, []), (30, .iload_n 3, 1, 3, 0, 0, 0, 0, []), (31, .bipush 18, 2, 0, 0, 0, 0, 18, [])],
  [(33, .if_icmp .ge 63, 3, 96, 0, 0, 0, 0, []), (36, .aload_n 0, 1, 0, 0, 0, 0, 0, []), (37, .invokevirtual 44, 3, 1, 1, 16, 0, 0, [(0, 10)]), (40, .istore 4, 2, 4, 0, 0, 0, 0, []), (42, .iload 4, 2, 4, 0, 0, 0, 0, []), (44, .ifCond .ge 6, 3, 50, 0, 0, 0, 0, []), (47, .goto 49, 3, 96, 0, 0, 0, 0, [])],
  [(50, .aload_n 0, 1, 0, 0, 0, 0, 0, []), (51, .aload_n 1, 1, 1, 0, 0, 0, 0, []), (52, .iload 4, 2, 4, 0, 0, 0, 0, []), (54, .invokevirtual 48, 3, 2, 3, 17, 9, 0, [(0, 10)]), (57, .iload_n 2, 1, 2, 0, 0, 0, 0, []), (58, .ifCond .eq 17, 3, 75, 0, 0, 0, 0, []), (61, .aload_n 0, 1, 0, 0, 0, 0, 0, []), (62, .getfield 22, 3, 10, 1, 5, 2, 1, [])],
  [(65, .aload_n 0, 1, 0, 0, 0, 0, 0, []), (66, .getfield 35, 3, 10, 5, 6, 0, 5, []), (69, .invokevirtual 52, 3, 3, 2, 18, 0, 0, [(0, 5)]), (72, .goto 4, 3, 76, 0, 0, 0, 0, []), (75, .iconst 0, 1, 0, 0, 0, 0, 0, []), (76, .istore 5, 2, 5, 0, 0, 0, 0, []), (78, .iload 5, 2, 5, 0, 0, 0, 0, [])],
  [(80, .ifCond .le 10, 3, 90, 0, 0, 0, 0, []), (83, .aload_n 0, 1, 0, 0, 0, 0, 0, []), (84, .aload_n 1, 1, 1, 0, 0, 0, 0, []), (85, .iload 5, 2, 5, 0, 0, 0, 0, []), (87, .invokevirtual 48, 3, 2, 3, 17, 9, 0, [(0, 10)]), (90, .iinc 3 1, 3, 3, 0, 0, 0, 1, []), (93, .goto (-63), 3, 30, 0, 0, 0, 0, [])],
  [(96, .aload_n 1, 1, 1, 0, 0, 0, 0, []), (97, .aload_n 1, 1, 1, 0, 0, 0, 0, []), (98, .getfield 58, 3, 8, 7, 12, 0, 7, []), (101, .iconst 1, 1, 0, 0, 0, 0, 1, []), (102, .isub, 1, 0, 0, 0, 0, 0, []), (103, .iconst 0, 1, 0, 0, 0, 0, 0, []), (104, .aload_n 1, 1, 1, 0, 0, 0, 0, []), (105, .getfield 58, 3, 8, 7, 12, 0, 7, []), (108, .iconst 1, 1, 0, 0, 0, 0, 1, []), (109, .isub, 1, 0, 0, 0, 0, 0, []), (110, .invokevirtual 61, 3, 4, 4, 19, 9, 0, [(0, 8)])],
  [(113, .return_, 1, 0, 0, 0, 0, 0, [])]]
def i_W_fill : ai_I := ((⟨"SuiteBench$Walk", "fill", "(LSuiteBench$Tests;Z)V"⟩, prog_12_method_2_code, 6, none, 9, 3, 74, 0, 2, 0, 10) : ai_I)
def o_W_fill (a : Nat) : SP := match a with
  | 0 => f_E_addNode
  | 1 => f_W_wordToNew
  | 2 => f_W_take
  | 3 => f_S_signOf
  | 4 => f_E_addTest
  | _ => fun _ _ _ _ _ => False
theorem mo_W_fill : ∀ a, ai_mono (o_W_fill a)
  | 0 => mf_E_addNode
  | 1 => mf_W_wordToNew
  | 2 => mf_W_take
  | 3 => mf_S_signOf
  | 4 => mf_E_addTest
  | _ + 5 => fun _ _ _ _ _ _ _ h => h
def f_W_fill : SP := ai_M o_W_fill 0 6 k_W_fill
theorem mf_W_fill : ai_mono f_W_fill := M_mono mo_W_fill
abbrev cal_W_fill : List ai_I := [i_E_addNode, i_W_wordToNew, i_W_take, i_S_signOf, i_E_addTest]
theorem a_W_fill : ai_all "SuiteBench$Walk" prog_12_method_2_code 6 kc_W cal_W_fill 3 74 false none k_W_fill = true := by decide +kernel
theorem w_W_fill : ai_CW i_W_fill := ⟨(tk_mem (l := [((Jvm.Cond.code ({ cls := "SuiteBench$Walk", name := "fill", desc := "(LSuiteBench$Tests;Z)V" } : Jvm.MethodName) prog_12_method_2_code (6 : Nat) (Option.none : Option Jvm.ClassFile.FieldType)), 5, 8)]) (by decide +kernel) _ (List.mem_singleton.mpr rfl)), (tk_mem (l := [((Jvm.Cond.initialized "SuiteBench$Walk"), 1, 9)]) (by decide +kernel) _ (List.mem_singleton.mpr rfl)), ⟨by decide +kernel, by decide +kernel, by decide +kernel⟩, ⟨(tk_mem (l := [((Jvm.Cond.instanceMethod ({ cls := "SuiteBench$Walk", name := "fill", desc := "(LSuiteBench$Tests;Z)V" } : Jvm.MethodName)), 5, 6)]) (by decide +kernel) _ (List.mem_singleton.mpr rfl)), (tk_mem (l := [((Jvm.Cond.selects "SuiteBench$Walk" ({ cls := "SuiteBench$Walk", name := "fill", desc := "(LSuiteBench$Tests;Z)V" } : Jvm.MethodName) ({ cls := "SuiteBench$Walk", name := "fill", desc := "(LSuiteBench$Tests;Z)V" } : Jvm.MethodName)), 5, 7)]) (by decide +kernel) _ (List.mem_singleton.mpr rfl)), .inl ⟨_, _, rfl⟩⟩⟩
theorem c_W_fill {E2 : (Nat → Nat) → State → Heap → Prop} (hE : ai_XH E2) : ai_S E2 i_W_fill f_W_fill := snd_M (by decide) rfl (by decide) a_W_fill kc_W_ok (by rfl) (by decide) (fun a i h => match a, h with
    | 0, h => by cases h; exact ⟨c_E_addNode hE, w_E_addNode⟩
    | 1, h => by cases h; exact ⟨c_W_wordToNew hE, w_W_wordToNew⟩
    | 2, h => by cases h; exact ⟨c_W_take hE, w_W_take⟩
    | 3, h => by cases h; exact ⟨c_S_signOf hE, w_S_signOf⟩
    | 4, h => by cases h; exact ⟨c_E_addTest hE, w_E_addTest⟩
    | _ + 5, h => by simp [cal_W_fill, ai_nth] at h)
def k_T_give : ai_C := [
  [(0, .iload_n 1, 1, 1, 0, 0, 0, 0, []), (1, .iconst 2, 1, 0, 0, 0, 0, 2, []), (2, .if_icmp .ge 13, 3, 15, 0, 0, 0, 0, []), (5, .aload_n 0, 1, 0, 0, 0, 0, 0, []), (6, .iload_n 1, 1, 1, 0, 0, 0, 0, []), (7, .aload_n 0, 1, 0, 0, 0, 0, 0, []), (8, .getfield 56, 3, 6, 11, 21, 0, 11, []), (11, .invokevirtual 63, 3, 0, 3, 47, 2, 0, [(0, 6)]), (14, .areturn, 1, 0, 0, 0, 0, 0, []), (15, .aload_n 0, 1, 0, 0, 0, 0, 0, [])],
  [(16, .getfield 13, 3, 6, 3, 3, 2, 3, []), (19, .bipush 6, 2, 0, 0, 0, 0, 6, []), (21, .iload_n 1, 1, 1, 0, 0, 0, 0, []), (22, .iadd, 1, 0, 0, 0, 0, 0, []), (23, .iconst 2, 1, 0, 0, 0, 0, 2, []), (24, .isub, 1, 0, 0, 0, 0, 0, []), (25, .aaload, 1, 0, 0, 0, 0, 0, []), (26, .astore_n 2, 1, 2, 0, 0, 0, 0, []), (27, .aload_n 2, 1, 2, 0, 0, 0, 0, []), (28, .getfield 67, 3, 8, 9, 44, 3, 9, []), (31, .ifCond .ne 26, 3, 57, 0, 0, 0, 0, [])],
  [(34, .aload_n 2, 1, 2, 0, 0, 0, 0, []), (35, .iconst 1, 1, 0, 0, 0, 0, 1, []), (36, .putfield 67, 3, 8, 9, 44, 3, 9, []), (39, .aload_n 0, 1, 0, 0, 0, 0, 0, []), (40, .getfield 46, 3, 6, 2, 16, 2, 2, []), (43, .aload_n 2, 1, 2, 0, 0, 0, 0, []), (44, .iload_n 1, 1, 1, 0, 0, 0, 0, []), (45, .iconst 3, 1, 0, 0, 0, 0, 3, []), (46, .if_icmp .ne 7, 3, 53, 0, 0, 0, 0, [])],
  [(49, .iconst 1, 1, 0, 0, 0, 0, 1, []), (50, .goto 4, 3, 54, 0, 0, 0, 0, []), (53, .iconst 0, 1, 0, 0, 0, 0, 0, []), (54, .invokevirtual 71, 3, 1, 3, 48, 9, 0, [(0, 10)]), (57, .aload_n 2, 1, 2, 0, 0, 0, 0, []), (58, .areturn, 1, 0, 0, 0, 0, 0, [])]]
def i_T_give : ai_I := ((⟨"SuiteBench$Suites", "give", "(I)LSuiteBench$Tests;"⟩, prog_8_method_3_code, 3, (some (.object "SuiteBench$Tests")), 2, 5, 121, 0, 1, 0, 6) : ai_I)
def o_T_give (a : Nat) : SP := match a with
  | 0 => f_T_planned
  | 1 => f_W_fill
  | _ => fun _ _ _ _ _ => False
theorem mo_T_give : ∀ a, ai_mono (o_T_give a)
  | 0 => mf_T_planned
  | 1 => mf_W_fill
  | _ + 2 => fun _ _ _ _ _ _ _ h => h
def f_T_give : SP := ai_M o_T_give 0 3 k_T_give
theorem mf_T_give : ai_mono f_T_give := M_mono mo_T_give
abbrev cal_T_give : List ai_I := [i_T_planned, i_W_fill]
theorem a_T_give : ai_all "SuiteBench$Suites" prog_8_method_3_code 3 kc_T cal_T_give 5 121 false (some (.object "SuiteBench$Tests")) k_T_give = true := by decide +kernel
theorem w_T_give : ai_CW i_T_give := ⟨(tk_mem (l := [((Jvm.Cond.code ({ cls := "SuiteBench$Suites", name := "give", desc := "(I)LSuiteBench$Tests;" } : Jvm.MethodName) prog_8_method_3_code (3 : Nat) (Option.some (Jvm.ClassFile.FieldType.object "SuiteBench$Tests"))), 4, 201)]) (by decide +kernel) _ (List.mem_singleton.mpr rfl)), (tk_mem (l := [((Jvm.Cond.initialized "SuiteBench$Suites"), 1, 8)]) (by decide +kernel) _ (List.mem_singleton.mpr rfl)), ⟨by decide +kernel, by decide +kernel, by decide +kernel⟩, ⟨(tk_mem (l := [((Jvm.Cond.instanceMethod ({ cls := "SuiteBench$Suites", name := "give", desc := "(I)LSuiteBench$Tests;" } : Jvm.MethodName)), 4, 199)]) (by decide +kernel) _ (List.mem_singleton.mpr rfl)), (tk_mem (l := [((Jvm.Cond.selects "SuiteBench$Suites" ({ cls := "SuiteBench$Suites", name := "give", desc := "(I)LSuiteBench$Tests;" } : Jvm.MethodName) ({ cls := "SuiteBench$Suites", name := "give", desc := "(I)LSuiteBench$Tests;" } : Jvm.MethodName)), 4, 200)]) (by decide +kernel) _ (List.mem_singleton.mpr rfl)), .inl ⟨_, _, rfl⟩⟩⟩
theorem c_T_give {E2 : (Nat → Nat) → State → Heap → Prop} (hE : ai_XH E2) : ai_S E2 i_T_give f_T_give := snd_M (by decide) rfl (by decide) a_T_give kc_T_ok (by rfl) (by decide) (fun a i h => match a, h with
    | 0, h => by cases h; exact ⟨c_T_planned hE, w_T_planned⟩
    | 1, h => by cases h; exact ⟨c_W_fill hE, w_W_fill⟩
    | _ + 2, h => by simp [cal_T_give, ai_nth] at h)
def k_E_inputsInSum : ai_C := [
  [(0, .iconst 0, 1, 0, 0, 0, 0, 0, []), (1, .istore_n 1, 1, 1, 0, 0, 0, 0, []), (2, .iconst 0, 1, 0, 0, 0, 0, 0, []), (3, .istore_n 2, 1, 2, 0, 0, 0, 0, []), (4, .iload_n 2, 1, 2, 0, 0, 0, 0, []), (5, .aload_n 0, 1, 0, 0, 0, 0, 0, []), (6, .getfield 37, 3, 8, 8, 10, 0, 8, []), (9, .if_icmp .ge 18, 3, 27, 0, 0, 0, 0, []), (12, .iload_n 1, 1, 1, 0, 0, 0, 0, []), (13, .aload_n 0, 1, 0, 0, 0, 0, 0, []), (14, .getfield 27, 3, 8, 5, 7, 2, 5, [])],
  [(17, .iload_n 2, 1, 2, 0, 0, 0, 0, []), (18, .iaload, 1, 0, 0, 0, 0, 0, []), (19, .iadd, 1, 0, 0, 0, 0, 0, []), (20, .istore_n 1, 1, 1, 0, 0, 0, 0, []), (21, .iinc 2 1, 3, 2, 0, 0, 0, 1, []), (24, .goto (-20), 3, 4, 0, 0, 0, 0, []), (27, .iload_n 1, 1, 1, 0, 0, 0, 0, []), (28, .ireturn, 1, 0, 0, 0, 0, 0, [])]]
def i_E_inputsInSum : ai_I := ((⟨"SuiteBench$Tests", "inputsInSum", "()I"⟩, prog_10_method_5_code, 3, (some .int), 0, 0, 0, 0, 0, 0, 8) : ai_I)
def o_E_inputsInSum (_ : Nat) : SP := fun _ _ _ _ _ => False
theorem mo_E_inputsInSum : ∀ a, ai_mono (o_E_inputsInSum a) := fun _ _ _ _ _ _ _ _ h => h
def f_E_inputsInSum : SP := ai_M o_E_inputsInSum 0 3 k_E_inputsInSum
theorem mf_E_inputsInSum : ai_mono f_E_inputsInSum := M_mono mo_E_inputsInSum
abbrev cal_E_inputsInSum : List ai_I := []
theorem a_E_inputsInSum : ai_all "SuiteBench$Tests" prog_10_method_5_code 3 kc_E cal_E_inputsInSum 0 0 false (some .int) k_E_inputsInSum = true := by decide +kernel
theorem w_E_inputsInSum : ai_CW i_E_inputsInSum := ⟨(tk_mem (l := [((Jvm.Cond.code ({ cls := "SuiteBench$Tests", name := "inputsInSum", desc := "()I" } : Jvm.MethodName) prog_10_method_5_code (3 : Nat) (Option.some Jvm.ClassFile.FieldType.int)), 5, 25)]) (by decide +kernel) _ (List.mem_singleton.mpr rfl)), (tk_mem (l := [((Jvm.Cond.initialized "SuiteBench$Tests"), 1, 10)]) (by decide +kernel) _ (List.mem_singleton.mpr rfl)), ⟨by decide +kernel, by decide +kernel, by decide +kernel⟩, ⟨(tk_mem (l := [((Jvm.Cond.instanceMethod ({ cls := "SuiteBench$Tests", name := "inputsInSum", desc := "()I" } : Jvm.MethodName)), 5, 23)]) (by decide +kernel) _ (List.mem_singleton.mpr rfl)), (tk_mem (l := [((Jvm.Cond.selects "SuiteBench$Tests" ({ cls := "SuiteBench$Tests", name := "inputsInSum", desc := "()I" } : Jvm.MethodName) ({ cls := "SuiteBench$Tests", name := "inputsInSum", desc := "()I" } : Jvm.MethodName)), 5, 24)]) (by decide +kernel) _ (List.mem_singleton.mpr rfl)), .inl ⟨_, _, rfl⟩⟩⟩
theorem c_E_inputsInSum {E2 : (Nat → Nat) → State → Heap → Prop} (hE : ai_XH E2) : ai_S E2 i_E_inputsInSum f_E_inputsInSum := snd_M (by decide) rfl (by decide) a_E_inputsInSum kc_E_ok (by rfl) (by decide) (fun a i h => by simp [cal_E_inputsInSum, ai_nth] at h)
def k_E_mostInputs : ai_C := [
  [(0, .iconst 0, 1, 0, 0, 0, 0, 0, []), (1, .istore_n 1, 1, 1, 0, 0, 0, 0, []), (2, .iconst 0, 1, 0, 0, 0, 0, 0, []), (3, .istore_n 2, 1, 2, 0, 0, 0, 0, []), (4, .iload_n 2, 1, 2, 0, 0, 0, 0, []), (5, .aload_n 0, 1, 0, 0, 0, 0, 0, []), (6, .getfield 37, 3, 8, 8, 10, 0, 8, []), (9, .if_icmp .ge 20, 3, 29, 0, 0, 0, 0, []), (12, .iload_n 1, 1, 1, 0, 0, 0, 0, []), (13, .aload_n 0, 1, 0, 0, 0, 0, 0, []), (14, .getfield 27, 3, 8, 5, 7, 2, 5, [])],
  [(17, .iload_n 2, 1, 2, 0, 0, 0, 0, []), (18, .iaload, 1, 0, 0, 0, 0, 0, []), (19, .invokestatic 44, 3, 0, 0, 12, 22, 0, []), (22, .istore_n 1, 1, 1, 0, 0, 0, 0, []), (23, .iinc 2 1, 3, 2, 0, 0, 0, 1, []), (26, .goto (-22), 3, 4, 0, 0, 0, 0, []), (29, .iload_n 1, 1, 1, 0, 0, 0, 0, []), (30, .ireturn, 1, 0, 0, 0, 0, 0, [])]]
def i_E_mostInputs : ai_I := ((⟨"SuiteBench$Tests", "mostInputs", "()I"⟩, prog_10_method_6_code, 3, (some .int), 0, 1, 21, 0, 0, 0, 8) : ai_I)
def o_E_mostInputs (_ : Nat) : SP := fun _ _ _ _ _ => False
theorem mo_E_mostInputs : ∀ a, ai_mono (o_E_mostInputs a) := fun _ _ _ _ _ _ _ _ h => h
def f_E_mostInputs : SP := ai_M o_E_mostInputs 0 3 k_E_mostInputs
theorem mf_E_mostInputs : ai_mono f_E_mostInputs := M_mono mo_E_mostInputs
abbrev cal_E_mostInputs : List ai_I := []
theorem a_E_mostInputs : ai_all "SuiteBench$Tests" prog_10_method_6_code 3 kc_E cal_E_mostInputs 1 21 false (some .int) k_E_mostInputs = true := by decide +kernel
theorem w_E_mostInputs : ai_CW i_E_mostInputs := ⟨(tk_mem (l := [((Jvm.Cond.code ({ cls := "SuiteBench$Tests", name := "mostInputs", desc := "()I" } : Jvm.MethodName) prog_10_method_6_code (3 : Nat) (Option.some Jvm.ClassFile.FieldType.int)), 5, 29)]) (by decide +kernel) _ (List.mem_singleton.mpr rfl)), (tk_mem (l := [((Jvm.Cond.initialized "SuiteBench$Tests"), 1, 10)]) (by decide +kernel) _ (List.mem_singleton.mpr rfl)), ⟨by decide +kernel, by decide +kernel, by decide +kernel⟩, ⟨(tk_mem (l := [((Jvm.Cond.instanceMethod ({ cls := "SuiteBench$Tests", name := "mostInputs", desc := "()I" } : Jvm.MethodName)), 5, 27)]) (by decide +kernel) _ (List.mem_singleton.mpr rfl)), (tk_mem (l := [((Jvm.Cond.selects "SuiteBench$Tests" ({ cls := "SuiteBench$Tests", name := "mostInputs", desc := "()I" } : Jvm.MethodName) ({ cls := "SuiteBench$Tests", name := "mostInputs", desc := "()I" } : Jvm.MethodName)), 5, 28)]) (by decide +kernel) _ (List.mem_singleton.mpr rfl)), .inl ⟨_, _, rfl⟩⟩⟩
theorem c_E_mostInputs {E2 : (Nat → Nat) → State → Heap → Prop} (hE : ai_XH E2) : ai_S E2 i_E_mostInputs f_E_mostInputs := snd_M (by decide) rfl (by decide) a_E_mostInputs kc_E_ok (by rfl) (by decide) (fun a i h => by simp [cal_E_mostInputs, ai_nth] at h)
def k_B_suite : ai_C := [
  [(0, .iload_n 1, 1, 1, 0, 0, 0, 0, []), (1, .invokestatic 193, 3, 0, 1, 98, 0, 0, [(0, 11)]), (4, .ifCond .eq 12, 3, 16, 0, 0, 0, 0, []), (7, .iload_n 2, 1, 2, 0, 0, 0, 0, []), (8, .ifCond .lt 8, 3, 16, 0, 0, 0, 0, []), (11, .iload_n 2, 1, 2, 0, 0, 0, 0, []), (12, .iconst 2, 1, 0, 0, 0, 0, 2, []), (13, .if_icmp .le 5, 3, 18, 0, 0, 0, 0, [])],
  [(16, .iconst (-1), 1, 0, 0, 0, 0, (-1), []), (17, .ireturn, 1, 0, 0, 0, 0, 0, []), (18, .aload_n 0, 1, 0, 0, 0, 0, 0, []), (19, .getfield 56, 3, 11, 5, 14, 2, 5, []), (22, .iload_n 1, 1, 1, 0, 0, 0, 0, []), (23, .invokevirtual 196, 3, 1, 2, 99, 2, 0, [(0, 6)]), (26, .astore_n 3, 1, 3, 0, 0, 0, 0, []), (27, .iload_n 2, 1, 2, 0, 0, 0, 0, []), (28, .ifCond .ne 8, 3, 36, 0, 0, 0, 0, []), (31, .aload_n 3, 1, 3, 0, 0, 0, 0, [])],
  [(32, .getfield 200, 3, 8, 8, 100, 0, 8, []), (35, .ireturn, 1, 0, 0, 0, 0, 0, []), (36, .iload_n 2, 1, 2, 0, 0, 0, 0, []), (37, .iconst 1, 1, 0, 0, 0, 0, 1, []), (38, .if_icmp .ne 10, 3, 48, 0, 0, 0, 0, []), (41, .aload_n 3, 1, 3, 0, 0, 0, 0, []), (42, .invokevirtual 205, 3, 2, 1, 101, 0, 0, [(0, 8)]), (45, .goto 7, 3, 52, 0, 0, 0, 0, [])],
  [(48, .aload_n 3, 1, 3, 0, 0, 0, 0, []), (49, .invokevirtual 209, 3, 3, 1, 102, 0, 0, [(0, 8)]), (52, .ireturn, 1, 0, 0, 0, 0, 0, [])]]
def i_B_suite : ai_I := ((⟨"SuiteBench", "suite", "(II)I"⟩, prog_1_method_17_code, 4, (some .int), 0, 6, 143, 0, 2, 0, 11) : ai_I)
def o_B_suite (a : Nat) : SP := match a with
  | 0 => f_B_isSuite
  | 1 => f_T_give
  | 2 => f_E_inputsInSum
  | 3 => f_E_mostInputs
  | _ => fun _ _ _ _ _ => False
theorem mo_B_suite : ∀ a, ai_mono (o_B_suite a)
  | 0 => mf_B_isSuite
  | 1 => mf_T_give
  | 2 => mf_E_inputsInSum
  | 3 => mf_E_mostInputs
  | _ + 4 => fun _ _ _ _ _ _ _ h => h
def f_B_suite : SP := ai_M o_B_suite 0 4 k_B_suite
theorem mf_B_suite : ai_mono f_B_suite := M_mono mo_B_suite
abbrev cal_B_suite : List ai_I := [i_B_isSuite, i_T_give, i_E_inputsInSum, i_E_mostInputs]
theorem a_B_suite : ai_all "SuiteBench" prog_1_method_17_code 4 kc_B cal_B_suite 6 143 false (some .int) k_B_suite = true := by decide +kernel
theorem w_B_suite : ai_CW i_B_suite := ⟨(tk_mem (l := [((Jvm.Cond.code ({ cls := "SuiteBench", name := "suite", desc := "(II)I" } : Jvm.MethodName) prog_1_method_17_code (4 : Nat) (Option.some Jvm.ClassFile.FieldType.int)), 4, 194)]) (by decide +kernel) _ (List.mem_singleton.mpr rfl)), (tk_mem (l := [((Jvm.Cond.initialized "SuiteBench"), 1, 1)]) (by decide +kernel) _ (List.mem_singleton.mpr rfl)), ⟨by decide +kernel, by decide +kernel, by decide +kernel⟩, ⟨(tk_mem (l := [((Jvm.Cond.instanceMethod ({ cls := "SuiteBench", name := "suite", desc := "(II)I" } : Jvm.MethodName)), 4, 192)]) (by decide +kernel) _ (List.mem_singleton.mpr rfl)), (tk_mem (l := [((Jvm.Cond.selects "SuiteBench" ({ cls := "SuiteBench", name := "suite", desc := "(II)I" } : Jvm.MethodName) ({ cls := "SuiteBench", name := "suite", desc := "(II)I" } : Jvm.MethodName)), 4, 193)]) (by decide +kernel) _ (List.mem_singleton.mpr rfl)), .inl ⟨_, _, rfl⟩⟩⟩
theorem c_B_suite {E2 : (Nat → Nat) → State → Heap → Prop} (hE : ai_XH E2) : ai_S E2 i_B_suite f_B_suite := snd_M (by decide) rfl (by decide) a_B_suite kc_B_ok (by rfl) (by decide) (fun a i h => match a, h with
    | 0, h => by cases h; exact ⟨c_B_isSuite hE, w_B_isSuite⟩
    | 1, h => by cases h; exact ⟨c_T_give hE, w_T_give⟩
    | 2, h => by cases h; exact ⟨c_E_inputsInSum hE, w_E_inputsInSum⟩
    | 3, h => by cases h; exact ⟨c_E_mostInputs hE, w_E_mostInputs⟩
    | _ + 4, h => by simp [cal_B_suite, ai_nth] at h)
def k_N_wordToGo : ai_C := [
  [(0, .iconst 0, 1, 0, 0, 0, 0, 0, []), (1, .istore_n 1, 1, 1, 0, 0, 0, 0, []), (2, .iload_n 1, 1, 1, 0, 0, 0, 0, []), (3, .aload_n 0, 1, 0, 0, 0, 0, 0, []), (4, .invokevirtual 272, 3, 0, 1, 2, 0, 0, [(0, 12)]), (7, .if_icmp .ge 29, 3, 36, 0, 0, 0, 0, []), (10, .aload_n 0, 1, 0, 0, 0, 0, 0, []), (11, .getfield 78, 3, 12, 36, 49, 2, 36, []), (14, .iload_n 1, 1, 1, 0, 0, 0, 0, []), (15, .iload_n 1, 1, 1, 0, 0, 0, 0, [])],
  [(16, .aload_n 0, 1, 0, 0, 0, 0, 0, []), (17, .getfield 364, 3, 12, 37, 117, 0, 37, []), (20, .if_icmp .ne 7, 3, 27, 0, 0, 0, 0, []), (23, .iconst 0, 1, 0, 0, 0, 0, 0, []), (24, .goto 5, 3, 29, 0, 0, 0, 0, []), (27, .bipush (-2), 2, 0, 0, 0, 0, (-2), []), (29, .iastore, 1, 0, 0, 0, 0, 0, []), (30, .iinc 1 1, 3, 1, 0, 0, 0, 1, [])],
  [(33, .goto (-31), 3, 2, 0, 0, 0, 0, []), (36, .iconst 0, 1, 0, 0, 0, 0, 0, []), (37, .istore_n 1, 1, 1, 0, 0, 0, 0, []), (38, .iload_n 1, 1, 1, 0, 0, 0, 0, []), (39, .bipush 6, 2, 0, 0, 0, 0, 6, []), (41, .if_icmp .ge 109, 3, 150, 0, 0, 0, 0, []), (44, .iconst 0, 1, 0, 0, 0, 0, 0, []), (45, .istore_n 2, 1, 2, 0, 0, 0, 0, []), (46, .iload_n 2, 1, 2, 0, 0, 0, 0, []), (47, .aload_n 0, 1, 0, 0, 0, 0, 0, [])],
  [(48, .invokevirtual 272, 3, 0, 1, 2, 0, 0, [(0, 12)]), (51, .if_icmp .ge 93, 3, 144, 0, 0, 0, 0, []), (54, .iconst 0, 1, 0, 0, 0, 0, 0, []), (55, .istore_n 3, 1, 3, 0, 0, 0, 0, []), (56, .iload_n 3, 1, 3, 0, 0, 0, 0, []), (57, .aload_n 0, 1, 0, 0, 0, 0, 0, []), (58, .invokevirtual 269, 3, 1, 1, 3, 0, 0, [(0, 12)]), (61, .if_icmp .ge 77, 3, 138, 0, 0, 0, 0, [])],
  [(64, .aload_n 0, 1, 0, 0, 0, 0, 0, []), (65, .getfield 78, 3, 12, 36, 49, 2, 36, []), (68, .iload_n 2, 1, 2, 0, 0, 0, 0, []), (69, .iaload, 1, 0, 0, 0, 0, 0, []), (70, .ifCond .lt 68, 3, 138, 0, 0, 0, 0, []), (73, .aload_n 0, 1, 0, 0, 0, 0, 0, []), (74, .getfield 38, 3, 12, 20, 4, 2, 20, []), (77, .iconst 0, 1, 0, 0, 0, 0, 0, []), (78, .iconst 3, 1, 0, 0, 0, 0, 3, []), (79, .iload_n 2, 1, 2, 0, 0, 0, 0, [])],
  [(80, .imul, 1, 0, 0, 0, 0, 0, []), (81, .iadd, 1, 0, 0, 0, 0, 0, []), (82, .iload_n 3, 1, 3, 0, 0, 0, 0, []), (83, .iadd, 1, 0, 0, 0, 0, 0, []), (84, .iaload, 1, 0, 0, 0, 0, 0, []), (85, .istore 4, 2, 4, 0, 0, 0, 0, []), (87, .iconst 4, 1, 0, 0, 0, 0, 4, []), (88, .aload_n 0, 1, 0, 0, 0, 0, 0, []), (89, .getfield 78, 3, 12, 36, 49, 2, 36, []), (92, .iload_n 2, 1, 2, 0, 0, 0, 0, []), (93, .iaload, 1, 0, 0, 0, 0, 0, []), (94, .imul, 1, 0, 0, 0, 0, 0, []), (95, .iload_n 3, 1, 3, 0, 0, 0, 0, [])],
  [(96, .iadd, 1, 0, 0, 0, 0, 0, []), (97, .iconst 1, 1, 0, 0, 0, 0, 1, []), (98, .iadd, 1, 0, 0, 0, 0, 0, []), (99, .istore 5, 2, 5, 0, 0, 0, 0, []), (101, .aload_n 0, 1, 0, 0, 0, 0, 0, []), (102, .getfield 78, 3, 12, 36, 49, 2, 36, []), (105, .iload 4, 2, 4, 0, 0, 0, 0, []), (107, .iaload, 1, 0, 0, 0, 0, 0, []), (108, .ifCond .lt 15, 3, 123, 0, 0, 0, 0, []), (111, .iload 5, 2, 5, 0, 0, 0, 0, [])],
  [(113, .aload_n 0, 1, 0, 0, 0, 0, 0, []), (114, .getfield 78, 3, 12, 36, 49, 2, 36, []), (117, .iload 4, 2, 4, 0, 0, 0, 0, []), (119, .iaload, 1, 0, 0, 0, 0, 0, []), (120, .if_icmp .ge 12, 3, 132, 0, 0, 0, 0, []), (123, .aload_n 0, 1, 0, 0, 0, 0, 0, []), (124, .getfield 78, 3, 12, 36, 49, 2, 36, []), (127, .iload 4, 2, 4, 0, 0, 0, 0, [])],
  [(129, .iload 5, 2, 5, 0, 0, 0, 0, []), (131, .iastore, 1, 0, 0, 0, 0, 0, []), (132, .iinc 3 1, 3, 3, 0, 0, 0, 1, []), (135, .goto (-79), 3, 56, 0, 0, 0, 0, []), (138, .iinc 2 1, 3, 2, 0, 0, 0, 1, []), (141, .goto (-95), 3, 46, 0, 0, 0, 0, [])],
  [(144, .iinc 1 1, 3, 1, 0, 0, 0, 1, []), (147, .goto (-109), 3, 38, 0, 0, 0, 0, []), (150, .bipush (-2), 2, 0, 0, 0, 0, (-2), []), (152, .istore_n 1, 1, 1, 0, 0, 0, 0, []), (153, .iconst 0, 1, 0, 0, 0, 0, 0, []), (154, .istore_n 2, 1, 2, 0, 0, 0, 0, []), (155, .iload_n 2, 1, 2, 0, 0, 0, 0, []), (156, .aload_n 0, 1, 0, 0, 0, 0, 0, []), (157, .invokevirtual 272, 3, 0, 1, 2, 0, 0, [(0, 12)])],
  [(160, .if_icmp .ge 76, 3, 236, 0, 0, 0, 0, []), (163, .iconst 0, 1, 0, 0, 0, 0, 0, []), (164, .istore_n 3, 1, 3, 0, 0, 0, 0, []), (165, .iload_n 3, 1, 3, 0, 0, 0, 0, []), (166, .aload_n 0, 1, 0, 0, 0, 0, 0, []), (167, .invokevirtual 269, 3, 1, 1, 3, 0, 0, [(0, 12)]), (170, .if_icmp .ge 60, 3, 230, 0, 0, 0, 0, []), (173, .aload_n 0, 1, 0, 0, 0, 0, 0, []), (174, .getfield 78, 3, 12, 36, 49, 2, 36, [])],
  [(177, .iload_n 2, 1, 2, 0, 0, 0, 0, []), (178, .iaload, 1, 0, 0, 0, 0, 0, []), (179, .ifCond .lt 51, 3, 230, 0, 0, 0, 0, []), (182, .iconst 4, 1, 0, 0, 0, 0, 4, []), (183, .aload_n 0, 1, 0, 0, 0, 0, 0, []), (184, .getfield 78, 3, 12, 36, 49, 2, 36, []), (187, .iload_n 2, 1, 2, 0, 0, 0, 0, []), (188, .iaload, 1, 0, 0, 0, 0, 0, []), (189, .imul, 1, 0, 0, 0, 0, 0, []), (190, .iload_n 3, 1, 3, 0, 0, 0, 0, []), (191, .iadd, 1, 0, 0, 0, 0, 0, [])],
  [(192, .iconst 1, 1, 0, 0, 0, 0, 1, []), (193, .iadd, 1, 0, 0, 0, 0, 0, []), (194, .istore 4, 2, 4, 0, 0, 0, 0, []), (196, .aload_n 0, 1, 0, 0, 0, 0, 0, []), (197, .getfield 75, 3, 12, 35, 48, 2, 35, []), (200, .iconst 3, 1, 0, 0, 0, 0, 3, []), (201, .iload_n 2, 1, 2, 0, 0, 0, 0, []), (202, .imul, 1, 0, 0, 0, 0, 0, []), (203, .iload_n 3, 1, 3, 0, 0, 0, 0, []), (204, .iadd, 1, 0, 0, 0, 0, 0, []), (205, .baload, 1, 0, 0, 0, 52, 0, []), (206, .ifCond .ne 18, 3, 224, 0, 0, 0, 0, [])],
  [(209, .iload_n 1, 1, 1, 0, 0, 0, 0, []), (210, .bipush (-2), 2, 0, 0, 0, 0, (-2), []), (212, .if_icmp .eq 9, 3, 221, 0, 0, 0, 0, []), (215, .iload 4, 2, 4, 0, 0, 0, 0, []), (217, .iload_n 1, 1, 1, 0, 0, 0, 0, []), (218, .if_icmp .ge 6, 3, 224, 0, 0, 0, 0, []), (221, .iload 4, 2, 4, 0, 0, 0, 0, []), (223, .istore_n 1, 1, 1, 0, 0, 0, 0, [])],
  [(224, .iinc 3 1, 3, 3, 0, 0, 0, 1, []), (227, .goto (-62), 3, 165, 0, 0, 0, 0, []), (230, .iinc 2 1, 3, 2, 0, 0, 0, 1, []), (233, .goto (-78), 3, 155, 0, 0, 0, 0, []), (236, .iload_n 1, 1, 1, 0, 0, 0, 0, []), (237, .ireturn, 1, 0, 0, 0, 0, 0, [])]]
def i_N_wordToGo : ai_I := ((⟨"SuiteBenchModel", "wordToGo", "()I"⟩, prog_14_method_67_code, 6, (some .int), 0, 1, 20, 0, 0, 0, 12) : ai_I)
def o_N_wordToGo (a : Nat) : SP := match a with
  | 0 => f_N_states
  | 1 => f_N_inputs
  | _ => fun _ _ _ _ _ => False
theorem mo_N_wordToGo : ∀ a, ai_mono (o_N_wordToGo a)
  | 0 => mf_N_states
  | 1 => mf_N_inputs
  | _ + 2 => fun _ _ _ _ _ _ _ h => h
def f_N_wordToGo : SP := ai_M o_N_wordToGo 0 6 k_N_wordToGo
theorem mf_N_wordToGo : ai_mono f_N_wordToGo := M_mono mo_N_wordToGo
abbrev cal_N_wordToGo : List ai_I := [i_N_states, i_N_inputs]
theorem a_N_wordToGo : ai_all "SuiteBenchModel" prog_14_method_67_code 6 kc_N cal_N_wordToGo 1 20 false (some .int) k_N_wordToGo = true := by decide +kernel
theorem w_N_wordToGo : ai_CW i_N_wordToGo := ⟨(tk_mem (l := [((Jvm.Cond.code ({ cls := "SuiteBenchModel", name := "wordToGo", desc := "()I" } : Jvm.MethodName) prog_14_method_67_code (6 : Nat) (Option.some Jvm.ClassFile.FieldType.int)), 9, 82)]) (by decide +kernel) _ (List.mem_singleton.mpr rfl)), (tk_mem (l := [((Jvm.Cond.initialized "SuiteBenchModel"), 1, 15)]) (by decide +kernel) _ (List.mem_singleton.mpr rfl)), ⟨by decide +kernel, by decide +kernel, by decide +kernel⟩, ⟨(tk_mem (l := [((Jvm.Cond.instanceMethod ({ cls := "SuiteBenchModel", name := "wordToGo", desc := "()I" } : Jvm.MethodName)), 9, 81)]) (by decide +kernel) _ (List.mem_singleton.mpr rfl)), gw_sel 109 (by decide +kernel), .inl ⟨_, _, rfl⟩⟩⟩
theorem c_N_wordToGo {E2 : (Nat → Nat) → State → Heap → Prop} (hE : ai_XH E2) : ai_S E2 i_N_wordToGo f_N_wordToGo := snd_M (by decide) rfl (by decide) a_N_wordToGo kc_N_ok (by rfl) (by decide) (fun a i h => match a, h with
    | 0, h => by cases h; exact ⟨c_N_states hE, w_N_states⟩
    | 1, h => by cases h; exact ⟨c_N_inputs hE, w_N_inputs⟩
    | _ + 2, h => by simp [cal_N_wordToGo, ai_nth] at h)
def k_N_goes : ai_C := [
  [(0, .iload_n 2, 1, 2, 0, 0, 0, 0, []), (1, .invokestatic 298, 3, 0, 1, 13, 0, 0, [(0, 12)]), (4, .istore_n 3, 1, 3, 0, 0, 0, 0, []), (5, .iconst 0, 1, 0, 0, 0, 0, 0, []), (6, .istore 4, 2, 4, 0, 0, 0, 0, []), (8, .iload 4, 2, 4, 0, 0, 0, 0, []), (10, .iload_n 3, 1, 3, 0, 0, 0, 0, []), (11, .if_icmp .ge 82, 3, 93, 0, 0, 0, 0, []), (14, .iload_n 2, 1, 2, 0, 0, 0, 0, []), (15, .iload_n 3, 1, 3, 0, 0, 0, 0, [])],
  [(16, .iload 4, 2, 4, 0, 0, 0, 0, []), (18, .invokestatic 301, 3, 1, 3, 14, 0, 0, [(0, 12)]), (21, .istore 5, 2, 5, 0, 0, 0, 0, []), (23, .aload_n 0, 1, 0, 0, 0, 0, 0, []), (24, .getfield 75, 3, 12, 35, 48, 2, 35, []), (27, .iconst 3, 1, 0, 0, 0, 0, 3, []), (28, .aload_n 0, 1, 0, 0, 0, 0, 0, []), (29, .getfield 364, 3, 12, 37, 117, 0, 37, [])],
  [(32, .imul, 1, 0, 0, 0, 0, 0, []), (33, .iload 5, 2, 5, 0, 0, 0, 0, []), (35, .iadd, 1, 0, 0, 0, 0, 0, []), (36, .iconst 1, 1, 0, 0, 0, 0, 1, []), (37, .bastore, 1, 0, 0, 0, 52, 0, []), (38, .aload_n 0, 1, 0, 0, 0, 0, 0, []), (39, .getfield 66, 3, 12, 32, 47, 2, 32, []), (42, .sipush 400, 3, 0, 0, 0, 0, 400, []), (45, .iload_n 1, 1, 1, 0, 0, 0, 0, []), (46, .imul, 1, 0, 0, 0, 0, 0, []), (47, .aload_n 0, 1, 0, 0, 0, 0, 0, [])],
  [(48, .getfield 69, 3, 12, 33, 22, 2, 33, []), (51, .iload_n 1, 1, 1, 0, 0, 0, 0, []), (52, .iaload, 1, 0, 0, 0, 0, 0, []), (53, .iadd, 1, 0, 0, 0, 0, 0, []), (54, .iload 5, 2, 5, 0, 0, 0, 0, []), (56, .iastore, 1, 0, 0, 0, 0, 0, []), (57, .aload_n 0, 1, 0, 0, 0, 0, 0, []), (58, .getfield 69, 3, 12, 33, 22, 2, 33, []), (61, .iload_n 1, 1, 1, 0, 0, 0, 0, []), (62, .dup2, 1, 0, 0, 0, 0, 0, []), (63, .iaload, 1, 0, 0, 0, 0, 0, [])],
  [(64, .iconst 1, 1, 0, 0, 0, 0, 1, []), (65, .iadd, 1, 0, 0, 0, 0, 0, []), (66, .iastore, 1, 0, 0, 0, 0, 0, []), (67, .aload_n 0, 1, 0, 0, 0, 0, 0, []), (68, .aload_n 0, 1, 0, 0, 0, 0, 0, []), (69, .getfield 38, 3, 12, 20, 4, 2, 20, []), (72, .iconst 0, 1, 0, 0, 0, 0, 0, []), (73, .iconst 3, 1, 0, 0, 0, 0, 3, []), (74, .aload_n 0, 1, 0, 0, 0, 0, 0, []), (75, .getfield 364, 3, 12, 37, 117, 0, 37, []), (78, .imul, 1, 0, 0, 0, 0, 0, []), (79, .iadd, 1, 0, 0, 0, 0, 0, [])],
  [(80, .iload 5, 2, 5, 0, 0, 0, 0, []), (82, .iadd, 1, 0, 0, 0, 0, 0, []), (83, .iaload, 1, 0, 0, 0, 0, 0, []), (84, .putfield 364, 3, 12, 37, 117, 0, 37, []), (87, .iinc 4 1, 3, 4, 0, 0, 0, 1, []), (90, .goto (-82), 3, 8, 0, 0, 0, 0, []), (93, .return_, 1, 0, 0, 0, 0, 0, [])]]
def i_N_goes : ai_I := ((⟨"SuiteBenchModel", "goes", "(II)V"⟩, prog_14_method_66_code, 6, none, 9, 1, 22, 0, 2, 0, 12) : ai_I)
def o_N_goes (a : Nat) : SP := match a with
  | 0 => f_N_long1
  | 1 => f_N_inputAt
  | _ => fun _ _ _ _ _ => False
theorem mo_N_goes : ∀ a, ai_mono (o_N_goes a)
  | 0 => mf_N_long1
  | 1 => mf_N_inputAt
  | _ + 2 => fun _ _ _ _ _ _ _ h => h
def f_N_goes : SP := ai_M o_N_goes 0 6 k_N_goes
theorem mf_N_goes : ai_mono f_N_goes := M_mono mo_N_goes
abbrev cal_N_goes : List ai_I := [i_N_long1, i_N_inputAt]
theorem a_N_goes : ai_all "SuiteBenchModel" prog_14_method_66_code 6 kc_N cal_N_goes 1 22 false none k_N_goes = true := by decide +kernel
theorem w_N_goes : ai_CW i_N_goes := ⟨(tk_mem (l := [((Jvm.Cond.code ({ cls := "SuiteBenchModel", name := "goes", desc := "(II)V" } : Jvm.MethodName) prog_14_method_66_code (6 : Nat) (Option.none : Option Jvm.ClassFile.FieldType)), 9, 86)]) (by decide +kernel) _ (List.mem_singleton.mpr rfl)), (tk_mem (l := [((Jvm.Cond.initialized "SuiteBenchModel"), 1, 15)]) (by decide +kernel) _ (List.mem_singleton.mpr rfl)), ⟨by decide +kernel, by decide +kernel, by decide +kernel⟩, ⟨(tk_mem (l := [((Jvm.Cond.instanceMethod ({ cls := "SuiteBenchModel", name := "goes", desc := "(II)V" } : Jvm.MethodName)), 9, 85)]) (by decide +kernel) _ (List.mem_singleton.mpr rfl)), gw_sel 110 (by decide +kernel), .inl ⟨_, _, rfl⟩⟩⟩
theorem c_N_goes {E2 : (Nat → Nat) → State → Heap → Prop} (hE : ai_XH E2) : ai_S E2 i_N_goes f_N_goes := snd_M (by decide) rfl (by decide) a_N_goes kc_N_ok (by rfl) (by decide) (fun a i h => match a, h with
    | 0, h => by cases h; exact ⟨c_N_long1 hE, w_N_long1⟩
    | 1, h => by cases h; exact ⟨c_N_inputAt hE, w_N_inputAt⟩
    | _ + 2, h => by simp [cal_N_goes, ai_nth] at h)
def k_N_laysWay : ai_C := [
  [(0, .aload_n 0, 1, 0, 0, 0, 0, 0, []), (1, .getfield 72, 3, 12, 34, 21, 2, 34, []), (4, .iload_n 1, 1, 1, 0, 0, 0, 0, []), (5, .baload, 1, 0, 0, 0, 52, 0, []), (6, .ifCond .eq 4, 3, 10, 0, 0, 0, 0, []), (9, .return_, 1, 0, 0, 0, 0, 0, []), (10, .aload_n 0, 1, 0, 0, 0, 0, 0, []), (11, .getfield 72, 3, 12, 34, 21, 2, 34, []), (14, .iload_n 1, 1, 1, 0, 0, 0, 0, []), (15, .iconst 1, 1, 0, 0, 0, 0, 1, [])],
  [(16, .bastore, 1, 0, 0, 0, 52, 0, []), (17, .aload_n 0, 1, 0, 0, 0, 0, 0, []), (18, .getfield 69, 3, 12, 33, 22, 2, 33, []), (21, .iload_n 1, 1, 1, 0, 0, 0, 0, []), (22, .iconst 0, 1, 0, 0, 0, 0, 0, []), (23, .iastore, 1, 0, 0, 0, 0, 0, []), (24, .aload_n 0, 1, 0, 0, 0, 0, 0, []), (25, .invokevirtual 272, 3, 0, 1, 2, 0, 0, [(0, 12)]), (28, .ifCond .ne 4, 3, 32, 0, 0, 0, 0, []), (31, .return_, 1, 0, 0, 0, 0, 0, [])],
  [(32, .iload_n 1, 1, 1, 0, 0, 0, 0, []), (33, .iconst 1, 1, 0, 0, 0, 0, 1, []), (34, .if_icmp .ne 7, 3, 41, 0, 0, 0, 0, []), (37, .aload_n 0, 1, 0, 0, 0, 0, 0, []), (38, .invokevirtual 361, 3, 1, 1, 116, 9, 0, [(0, 12)]), (41, .aload_n 0, 1, 0, 0, 0, 0, 0, []), (42, .iconst 0, 1, 0, 0, 0, 0, 0, []), (43, .putfield 364, 3, 12, 37, 117, 0, 37, []), (46, .iconst 0, 1, 0, 0, 0, 0, 0, []), (47, .istore_n 2, 1, 2, 0, 0, 0, 0, [])],
  [(48, .iload_n 2, 1, 2, 0, 0, 0, 0, []), (49, .bipush 18, 2, 0, 0, 0, 0, 18, []), (51, .if_icmp .ge 16, 3, 67, 0, 0, 0, 0, []), (54, .aload_n 0, 1, 0, 0, 0, 0, 0, []), (55, .getfield 75, 3, 12, 35, 48, 2, 35, []), (58, .iload_n 2, 1, 2, 0, 0, 0, 0, []), (59, .iconst 0, 1, 0, 0, 0, 0, 0, []), (60, .bastore, 1, 0, 0, 0, 52, 0, []), (61, .iinc 2 1, 3, 2, 0, 0, 0, 1, [])],
  [(64, .goto (-16), 3, 48, 0, 0, 0, 0, []), (67, .aload_n 0, 1, 0, 0, 0, 0, 0, []), (68, .invokevirtual 367, 3, 2, 1, 118, 0, 0, [(0, 12)]), (71, .istore_n 2, 1, 2, 0, 0, 0, 0, []), (72, .iload_n 2, 1, 2, 0, 0, 0, 0, []), (73, .bipush (-2), 2, 0, 0, 0, 0, (-2), []), (75, .if_icmp .eq 48, 3, 123, 0, 0, 0, 0, []), (78, .aload_n 0, 1, 0, 0, 0, 0, 0, []), (79, .iload_n 1, 1, 1, 0, 0, 0, 0, [])],
  [(80, .iload_n 2, 1, 2, 0, 0, 0, 0, []), (81, .invokevirtual 370, 3, 3, 3, 119, 9, 0, [(0, 12)]), (84, .iload_n 1, 1, 1, 0, 0, 0, 0, []), (85, .iconst 1, 1, 0, 0, 0, 0, 1, []), (86, .if_icmp .ne 29, 3, 115, 0, 0, 0, 0, []), (89, .aload_n 0, 1, 0, 0, 0, 0, 0, []), (90, .getfield 63, 3, 12, 30, 46, 2, 30, []), (93, .aload_n 0, 1, 0, 0, 0, 0, 0, []), (94, .getfield 364, 3, 12, 37, 117, 0, 37, [])],
  [(97, .iaload, 1, 0, 0, 0, 0, 0, []), (98, .ifCond .le 17, 3, 115, 0, 0, 0, 0, []), (101, .aload_n 0, 1, 0, 0, 0, 0, 0, []), (102, .iload_n 1, 1, 1, 0, 0, 0, 0, []), (103, .aload_n 0, 1, 0, 0, 0, 0, 0, []), (104, .getfield 63, 3, 12, 30, 46, 2, 30, []), (107, .aload_n 0, 1, 0, 0, 0, 0, 0, []), (108, .getfield 364, 3, 12, 37, 117, 0, 37, []), (111, .iaload, 1, 0, 0, 0, 0, 0, [])],
  [(112, .invokevirtual 370, 3, 3, 3, 119, 9, 0, [(0, 12)]), (115, .aload_n 0, 1, 0, 0, 0, 0, 0, []), (116, .invokevirtual 367, 3, 2, 1, 118, 0, 0, [(0, 12)]), (119, .istore_n 2, 1, 2, 0, 0, 0, 0, []), (120, .goto (-48), 3, 72, 0, 0, 0, 0, []), (123, .return_, 1, 0, 0, 0, 0, 0, [])]]
def i_N_laysWay : ai_I := ((⟨"SuiteBenchModel", "laysWay", "(I)V"⟩, prog_14_method_68_code, 3, none, 9, 4, 99, 0, 1, 0, 12) : ai_I)
def o_N_laysWay (a : Nat) : SP := match a with
  | 0 => f_N_states
  | 1 => f_N_laysSigns
  | 2 => f_N_wordToGo
  | 3 => f_N_goes
  | _ => fun _ _ _ _ _ => False
theorem mo_N_laysWay : ∀ a, ai_mono (o_N_laysWay a)
  | 0 => mf_N_states
  | 1 => mf_N_laysSigns
  | 2 => mf_N_wordToGo
  | 3 => mf_N_goes
  | _ + 4 => fun _ _ _ _ _ _ _ h => h
def f_N_laysWay : SP := ai_M o_N_laysWay 0 3 k_N_laysWay
theorem mf_N_laysWay : ai_mono f_N_laysWay := M_mono mo_N_laysWay
abbrev cal_N_laysWay : List ai_I := [i_N_states, i_N_laysSigns, i_N_wordToGo, i_N_goes]
theorem a_N_laysWay : ai_all "SuiteBenchModel" prog_14_method_68_code 3 kc_N cal_N_laysWay 4 99 false none k_N_laysWay = true := by decide +kernel
theorem w_N_laysWay : ai_CW i_N_laysWay := ⟨(tk_mem (l := [((Jvm.Cond.code ({ cls := "SuiteBenchModel", name := "laysWay", desc := "(I)V" } : Jvm.MethodName) prog_14_method_68_code (3 : Nat) (Option.none : Option Jvm.ClassFile.FieldType)), 9, 78)]) (by decide +kernel) _ (List.mem_singleton.mpr rfl)), (tk_mem (l := [((Jvm.Cond.initialized "SuiteBenchModel"), 1, 15)]) (by decide +kernel) _ (List.mem_singleton.mpr rfl)), ⟨by decide +kernel, by decide +kernel, by decide +kernel⟩, ⟨(tk_mem (l := [((Jvm.Cond.instanceMethod ({ cls := "SuiteBenchModel", name := "laysWay", desc := "(I)V" } : Jvm.MethodName)), 9, 77)]) (by decide +kernel) _ (List.mem_singleton.mpr rfl)), gw_sel 108 (by decide +kernel), .inl ⟨_, _, rfl⟩⟩⟩
theorem c_N_laysWay {E2 : (Nat → Nat) → State → Heap → Prop} (hE : ai_XH E2) : ai_S E2 i_N_laysWay f_N_laysWay := snd_M (by decide) rfl (by decide) a_N_laysWay kc_N_ok (by rfl) (by decide) (fun a i h => match a, h with
    | 0, h => by cases h; exact ⟨c_N_states hE, w_N_states⟩
    | 1, h => by cases h; exact ⟨c_N_laysSigns hE, w_N_laysSigns⟩
    | 2, h => by cases h; exact ⟨c_N_wordToGo hE, w_N_wordToGo⟩
    | 3, h => by cases h; exact ⟨c_N_goes hE, w_N_goes⟩
    | _ + 4, h => by simp [cal_N_laysWay, ai_nth] at h)
def k_N_extra : ai_C := [
  [(0, .aload_n 0, 1, 0, 0, 0, 0, 0, []), (1, .getfield 13, 3, 12, 3, 0, 2, 3, []), (4, .iconst 3, 1, 0, 0, 0, 0, 3, []), (5, .iaload, 1, 0, 0, 0, 0, 0, []), (6, .ifCond .ne 7, 3, 13, 0, 0, 0, 0, []), (9, .iconst 0, 1, 0, 0, 0, 0, 0, []), (10, .goto 11, 3, 21, 0, 0, 0, 0, []), (13, .aload_n 0, 1, 0, 0, 0, 0, 0, []), (14, .getfield 13, 3, 12, 3, 0, 2, 3, [])],
  [(17, .iconst 3, 1, 0, 0, 0, 0, 3, []), (18, .iaload, 1, 0, 0, 0, 0, 0, []), (19, .iconst 1, 1, 0, 0, 0, 0, 1, []), (20, .isub, 1, 0, 0, 0, 0, 0, []), (21, .ireturn, 1, 0, 0, 0, 0, 0, [])]]
def i_N_extra : ai_I := ((⟨"SuiteBenchModel", "extra", "()I"⟩, prog_14_method_32_code, 1, (some .int), 0, 0, 0, 0, 0, 0, 12) : ai_I)
def o_N_extra (_ : Nat) : SP := fun _ _ _ _ _ => False
theorem mo_N_extra : ∀ a, ai_mono (o_N_extra a) := fun _ _ _ _ _ _ _ _ h => h
def f_N_extra : SP := ai_M o_N_extra 0 1 k_N_extra
theorem mf_N_extra : ai_mono f_N_extra := M_mono mo_N_extra
abbrev cal_N_extra : List ai_I := []
theorem a_N_extra : ai_all "SuiteBenchModel" prog_14_method_32_code 1 kc_N cal_N_extra 0 0 false (some .int) k_N_extra = true := by decide +kernel
theorem w_N_extra : ai_CW i_N_extra := ⟨(tk_mem (l := [((Jvm.Cond.code ({ cls := "SuiteBenchModel", name := "extra", desc := "()I" } : Jvm.MethodName) prog_14_method_32_code (1 : Nat) (Option.some Jvm.ClassFile.FieldType.int)), 9, 102)]) (by decide +kernel) _ (List.mem_singleton.mpr rfl)), (tk_mem (l := [((Jvm.Cond.initialized "SuiteBenchModel"), 1, 15)]) (by decide +kernel) _ (List.mem_singleton.mpr rfl)), ⟨by decide +kernel, by decide +kernel, by decide +kernel⟩, ⟨(tk_mem (l := [((Jvm.Cond.instanceMethod ({ cls := "SuiteBenchModel", name := "extra", desc := "()I" } : Jvm.MethodName)), 9, 101)]) (by decide +kernel) _ (List.mem_singleton.mpr rfl)), gw_sel 113 (by decide +kernel), .inl ⟨_, _, rfl⟩⟩⟩
theorem c_N_extra {E2 : (Nat → Nat) → State → Heap → Prop} (hE : ai_XH E2) : ai_S E2 i_N_extra f_N_extra := snd_M (by decide) rfl (by decide) a_N_extra kc_N_ok (by rfl) (by decide) (fun a i h => by simp [cal_N_extra, ai_nth] at h)
def k_N_behind : ai_C := [
  [(0, .iload_n 0, 1, 0, 0, 0, 0, 0, []), (1, .istore_n 2, 1, 2, 0, 0, 0, 0, []), (2, .iload_n 1, 1, 1, 0, 0, 0, 0, []), (3, .invokestatic 298, 3, 0, 1, 13, 0, 0, [(0, 12)]), (6, .istore_n 3, 1, 3, 0, 0, 0, 0, []), (7, .iconst 0, 1, 0, 0, 0, 0, 0, []), (8, .istore 4, 2, 4, 0, 0, 0, 0, []), (10, .iload 4, 2, 4, 0, 0, 0, 0, []), (12, .iload_n 3, 1, 3, 0, 0, 0, 0, []), (13, .if_icmp .ge 23, 3, 36, 0, 0, 0, 0, [])],
  [(16, .iconst 4, 1, 0, 0, 0, 0, 4, []), (17, .iload_n 2, 1, 2, 0, 0, 0, 0, []), (18, .imul, 1, 0, 0, 0, 0, 0, []), (19, .iload_n 1, 1, 1, 0, 0, 0, 0, []), (20, .iload_n 3, 1, 3, 0, 0, 0, 0, []), (21, .iload 4, 2, 4, 0, 0, 0, 0, []), (23, .invokestatic 301, 3, 1, 3, 14, 0, 0, [(0, 12)]), (26, .iadd, 1, 0, 0, 0, 0, 0, []), (27, .iconst 1, 1, 0, 0, 0, 0, 1, []), (28, .iadd, 1, 0, 0, 0, 0, 0, []), (29, .istore_n 2, 1, 2, 0, 0, 0, 0, []), (30, .iinc 4 1, 3, 4, 0, 0, 0, 1, [])],
  [(33, .goto (-23), 3, 10, 0, 0, 0, 0, []), (36, .iload_n 2, 1, 2, 0, 0, 0, 0, []), (37, .ireturn, 1, 0, 0, 0, 0, 0, [])]]
def i_N_behind : ai_I := ((⟨"SuiteBenchModel", "behind", "(II)I"⟩, prog_14_method_73_code, 5, (some .int), 0, 1, 22, 0, 2, 1, 12) : ai_I)
def o_N_behind (a : Nat) : SP := match a with
  | 0 => f_N_long1
  | 1 => f_N_inputAt
  | _ => fun _ _ _ _ _ => False
theorem mo_N_behind : ∀ a, ai_mono (o_N_behind a)
  | 0 => mf_N_long1
  | 1 => mf_N_inputAt
  | _ + 2 => fun _ _ _ _ _ _ _ h => h
def f_N_behind : SP := ai_M o_N_behind 0 5 k_N_behind
theorem mf_N_behind : ai_mono f_N_behind := M_mono mo_N_behind
abbrev cal_N_behind : List ai_I := [i_N_long1, i_N_inputAt]
theorem a_N_behind : ai_all "SuiteBenchModel" prog_14_method_73_code 5 kc_N cal_N_behind 1 22 false (some .int) k_N_behind = true := by decide +kernel
theorem w_N_behind : ai_CW i_N_behind := ⟨(tk_mem (l := [((Jvm.Cond.code ({ cls := "SuiteBenchModel", name := "behind", desc := "(II)I" } : Jvm.MethodName) prog_14_method_73_code (5 : Nat) (Option.some Jvm.ClassFile.FieldType.int)), 9, 113)]) (by decide +kernel) _ (List.mem_singleton.mpr rfl)), (tk_mem (l := [((Jvm.Cond.initialized "SuiteBenchModel"), 1, 15)]) (by decide +kernel) _ (List.mem_singleton.mpr rfl)), ⟨by decide +kernel, by decide +kernel, by decide +kernel⟩, (tk_mem (l := [((Jvm.Cond.static ({ cls := "SuiteBenchModel", name := "behind", desc := "(II)I" } : Jvm.MethodName)), 9, 112)]) (by decide +kernel) _ (List.mem_singleton.mpr rfl))⟩
theorem c_N_behind {E2 : (Nat → Nat) → State → Heap → Prop} (hE : ai_XH E2) : ai_S E2 i_N_behind f_N_behind := snd_M (by decide) rfl (by decide) a_N_behind kc_N_ok (by rfl) (by decide) (fun a i h => match a, h with
    | 0, h => by cases h; exact ⟨c_N_long1 hE, w_N_long1⟩
    | 1, h => by cases h; exact ⟨c_N_inputAt hE, w_N_inputAt⟩
    | _ + 2, h => by simp [cal_N_behind, ai_nth] at h)
def k_N_testAt : ai_C := [
  [(0, .aload_n 0, 1, 0, 0, 0, 0, 0, []), (1, .getfield 81, 3, 12, 38, 50, 2, 38, []), (4, .sipush 1300, 3, 0, 0, 0, 0, 1300, []), (7, .iload_n 1, 1, 1, 0, 0, 0, 0, []), (8, .imul, 1, 0, 0, 0, 0, 0, []), (9, .iload_n 2, 1, 2, 0, 0, 0, 0, []), (10, .iadd, 1, 0, 0, 0, 0, 0, []), (11, .iaload, 1, 0, 0, 0, 0, 0, []), (12, .ireturn, 1, 0, 0, 0, 0, 0, [])]]
def i_N_testAt : ai_I := ((⟨"SuiteBenchModel", "testAt", "(II)I"⟩, prog_14_method_70_code, 3, (some .int), 0, 0, 0, 0, 2, 0, 12) : ai_I)
def o_N_testAt (_ : Nat) : SP := fun _ _ _ _ _ => False
theorem mo_N_testAt : ∀ a, ai_mono (o_N_testAt a) := fun _ _ _ _ _ _ _ _ h => h
def f_N_testAt : SP := ai_M o_N_testAt 0 3 k_N_testAt
theorem mf_N_testAt : ai_mono f_N_testAt := M_mono mo_N_testAt
abbrev cal_N_testAt : List ai_I := []
theorem a_N_testAt : ai_all "SuiteBenchModel" prog_14_method_70_code 3 kc_N cal_N_testAt 0 0 false (some .int) k_N_testAt = true := by decide +kernel
theorem w_N_testAt : ai_CW i_N_testAt := ⟨(tk_mem (l := [((Jvm.Cond.code ({ cls := "SuiteBenchModel", name := "testAt", desc := "(II)I" } : Jvm.MethodName) prog_14_method_70_code (3 : Nat) (Option.some Jvm.ClassFile.FieldType.int)), 9, 125)]) (by decide +kernel) _ (List.mem_singleton.mpr rfl)), (tk_mem (l := [((Jvm.Cond.initialized "SuiteBenchModel"), 1, 15)]) (by decide +kernel) _ (List.mem_singleton.mpr rfl)), ⟨by decide +kernel, by decide +kernel, by decide +kernel⟩, ⟨(tk_mem (l := [((Jvm.Cond.instanceMethod ({ cls := "SuiteBenchModel", name := "testAt", desc := "(II)I" } : Jvm.MethodName)), 9, 124)]) (by decide +kernel) _ (List.mem_singleton.mpr rfl)), gw_sel 118 (by decide +kernel), .inl ⟨_, _, rfl⟩⟩⟩
theorem c_N_testAt {E2 : (Nat → Nat) → State → Heap → Prop} (hE : ai_XH E2) : ai_S E2 i_N_testAt f_N_testAt := snd_M (by decide) rfl (by decide) a_N_testAt kc_N_ok (by rfl) (by decide) (fun a i h => by simp [cal_N_testAt, ai_nth] at h)
def k_N_placeFor : ai_C := [
  [(0, .iconst 0, 1, 0, 0, 0, 0, 0, []), (1, .istore_n 3, 1, 3, 0, 0, 0, 0, []), (2, .aload_n 0, 1, 0, 0, 0, 0, 0, []), (3, .getfield 84, 3, 12, 39, 24, 2, 39, []), (6, .iload_n 1, 1, 1, 0, 0, 0, 0, []), (7, .iaload, 1, 0, 0, 0, 0, 0, []), (8, .istore 4, 2, 4, 0, 0, 0, 0, []), (10, .iload_n 3, 1, 3, 0, 0, 0, 0, []), (11, .iload 4, 2, 4, 0, 0, 0, 0, []), (13, .if_icmp .ge 37, 3, 50, 0, 0, 0, 0, [])],
  [(16, .iload_n 3, 1, 3, 0, 0, 0, 0, []), (17, .iload 4, 2, 4, 0, 0, 0, 0, []), (19, .iadd, 1, 0, 0, 0, 0, 0, []), (20, .iconst 2, 1, 0, 0, 0, 0, 2, []), (21, .idiv, 1, 0, 0, 0, 0, 0, []), (22, .istore 5, 2, 5, 0, 0, 0, 0, []), (24, .aload_n 0, 1, 0, 0, 0, 0, 0, []), (25, .iload_n 1, 1, 1, 0, 0, 0, 0, []), (26, .iload 5, 2, 5, 0, 0, 0, 0, []), (28, .invokevirtual 376, 3, 0, 3, 120, 0, 0, [(0, 12)]), (31, .iload_n 2, 1, 2, 0, 0, 0, 0, [])],
  [(32, .if_icmp .ge 11, 3, 43, 0, 0, 0, 0, []), (35, .iload 5, 2, 5, 0, 0, 0, 0, []), (37, .iconst 1, 1, 0, 0, 0, 0, 1, []), (38, .iadd, 1, 0, 0, 0, 0, 0, []), (39, .istore_n 3, 1, 3, 0, 0, 0, 0, []), (40, .goto 7, 3, 47, 0, 0, 0, 0, []), (43, .iload 5, 2, 5, 0, 0, 0, 0, []), (45, .istore 4, 2, 4, 0, 0, 0, 0, []), (47, .goto (-37), 3, 10, 0, 0, 0, 0, [])],
  [(50, .iload_n 3, 1, 3, 0, 0, 0, 0, []), (51, .ireturn, 1, 0, 0, 0, 0, 0, [])]]
def i_N_placeFor : ai_I := ((⟨"SuiteBenchModel", "placeFor", "(II)I"⟩, prog_14_method_71_code, 6, (some .int), 0, 1, 22, 0, 2, 0, 12) : ai_I)
def o_N_placeFor (a : Nat) : SP := match a with
  | 0 => f_N_testAt
  | _ => fun _ _ _ _ _ => False
theorem mo_N_placeFor : ∀ a, ai_mono (o_N_placeFor a)
  | 0 => mf_N_testAt
  | _ + 1 => fun _ _ _ _ _ _ _ h => h
def f_N_placeFor : SP := ai_M o_N_placeFor 0 6 k_N_placeFor
theorem mf_N_placeFor : ai_mono f_N_placeFor := M_mono mo_N_placeFor
abbrev cal_N_placeFor : List ai_I := [i_N_testAt]
theorem a_N_placeFor : ai_all "SuiteBenchModel" prog_14_method_71_code 6 kc_N cal_N_placeFor 1 22 false (some .int) k_N_placeFor = true := by decide +kernel
theorem w_N_placeFor : ai_CW i_N_placeFor := ⟨(tk_mem (l := [((Jvm.Cond.code ({ cls := "SuiteBenchModel", name := "placeFor", desc := "(II)I" } : Jvm.MethodName) prog_14_method_71_code (6 : Nat) (Option.some Jvm.ClassFile.FieldType.int)), 9, 121)]) (by decide +kernel) _ (List.mem_singleton.mpr rfl)), (tk_mem (l := [((Jvm.Cond.initialized "SuiteBenchModel"), 1, 15)]) (by decide +kernel) _ (List.mem_singleton.mpr rfl)), ⟨by decide +kernel, by decide +kernel, by decide +kernel⟩, ⟨(tk_mem (l := [((Jvm.Cond.instanceMethod ({ cls := "SuiteBenchModel", name := "placeFor", desc := "(II)I" } : Jvm.MethodName)), 9, 120)]) (by decide +kernel) _ (List.mem_singleton.mpr rfl)), gw_sel 117 (by decide +kernel), .inl ⟨_, _, rfl⟩⟩⟩
theorem c_N_placeFor {E2 : (Nat → Nat) → State → Heap → Prop} (hE : ai_XH E2) : ai_S E2 i_N_placeFor f_N_placeFor := snd_M (by decide) rfl (by decide) a_N_placeFor kc_N_ok (by rfl) (by decide) (fun a i h => match a, h with
    | 0, h => by cases h; exact ⟨c_N_testAt hE, w_N_testAt⟩
    | _ + 1, h => by simp [cal_N_placeFor, ai_nth] at h)
def k_N_adds : ai_C := [
  [(0, .aload_n 0, 1, 0, 0, 0, 0, 0, []), (1, .iload_n 1, 1, 1, 0, 0, 0, 0, []), (2, .iload_n 2, 1, 2, 0, 0, 0, 0, []), (3, .invokevirtual 379, 3, 0, 3, 121, 0, 0, [(0, 12)]), (6, .istore_n 3, 1, 3, 0, 0, 0, 0, []), (7, .iload_n 3, 1, 3, 0, 0, 0, 0, []), (8, .aload_n 0, 1, 0, 0, 0, 0, 0, []), (9, .getfield 84, 3, 12, 39, 24, 2, 39, []), (12, .iload_n 1, 1, 1, 0, 0, 0, 0, []), (13, .iaload, 1, 0, 0, 0, 0, 0, []), (14, .if_icmp .ge 14, 3, 28, 0, 0, 0, 0, [])],
  [(17, .aload_n 0, 1, 0, 0, 0, 0, 0, []), (18, .iload_n 1, 1, 1, 0, 0, 0, 0, []), (19, .iload_n 3, 1, 3, 0, 0, 0, 0, []), (20, .invokevirtual 376, 3, 1, 3, 120, 0, 0, [(0, 12)]), (23, .iload_n 2, 1, 2, 0, 0, 0, 0, []), (24, .if_icmp .ne 4, 3, 28, 0, 0, 0, 0, []), (27, .return_, 1, 0, 0, 0, 0, 0, []), (28, .aload_n 0, 1, 0, 0, 0, 0, 0, []), (29, .getfield 84, 3, 12, 39, 24, 2, 39, [])],
  [(32, .iload_n 1, 1, 1, 0, 0, 0, 0, []), (33, .iaload, 1, 0, 0, 0, 0, 0, []), (34, .istore 4, 2, 4, 0, 0, 0, 0, []), (36, .iload 4, 2, 4, 0, 0, 0, 0, []), (38, .iload_n 3, 1, 3, 0, 0, 0, 0, []), (39, .if_icmp .le 37, 3, 76, 0, 0, 0, 0, []), (42, .aload_n 0, 1, 0, 0, 0, 0, 0, []), (43, .getfield 81, 3, 12, 38, 50, 2, 38, []), (46, .sipush 1300, 3, 0, 0, 0, 0, 1300, [])],
  [(49, .iload_n 1, 1, 1, 0, 0, 0, 0, []), (50, .imul, 1, 0, 0, 0, 0, 0, []), (51, .iload 4, 2, 4, 0, 0, 0, 0, []), (53, .iadd, 1, 0, 0, 0, 0, 0, []), (54, .aload_n 0, 1, 0, 0, 0, 0, 0, []), (55, .getfield 81, 3, 12, 38, 50, 2, 38, []), (58, .sipush 1300, 3, 0, 0, 0, 0, 1300, []), (61, .iload_n 1, 1, 1, 0, 0, 0, 0, []), (62, .imul, 1, 0, 0, 0, 0, 0, []), (63, .iload 4, 2, 4, 0, 0, 0, 0, [])],
  [(65, .iadd, 1, 0, 0, 0, 0, 0, []), (66, .iconst 1, 1, 0, 0, 0, 0, 1, []), (67, .isub, 1, 0, 0, 0, 0, 0, []), (68, .iaload, 1, 0, 0, 0, 0, 0, []), (69, .iastore, 1, 0, 0, 0, 0, 0, []), (70, .iinc 4 (-1), 3, 4, 0, 0, 0, (-1), []), (73, .goto (-37), 3, 36, 0, 0, 0, 0, []), (76, .aload_n 0, 1, 0, 0, 0, 0, 0, []), (77, .getfield 81, 3, 12, 38, 50, 2, 38, [])],
  [(80, .sipush 1300, 3, 0, 0, 0, 0, 1300, []), (83, .iload_n 1, 1, 1, 0, 0, 0, 0, []), (84, .imul, 1, 0, 0, 0, 0, 0, []), (85, .iload_n 3, 1, 3, 0, 0, 0, 0, []), (86, .iadd, 1, 0, 0, 0, 0, 0, []), (87, .iload_n 2, 1, 2, 0, 0, 0, 0, []), (88, .iastore, 1, 0, 0, 0, 0, 0, []), (89, .aload_n 0, 1, 0, 0, 0, 0, 0, []), (90, .getfield 84, 3, 12, 39, 24, 2, 39, []), (93, .iload_n 1, 1, 1, 0, 0, 0, 0, []), (94, .dup2, 1, 0, 0, 0, 0, 0, []), (95, .iaload, 1, 0, 0, 0, 0, 0, [])],
  [(96, .iconst 1, 1, 0, 0, 0, 0, 1, []), (97, .iadd, 1, 0, 0, 0, 0, 0, []), (98, .iastore, 1, 0, 0, 0, 0, 0, []), (99, .return_, 1, 0, 0, 0, 0, 0, [])]]
def i_N_adds : ai_I := ((⟨"SuiteBenchModel", "adds", "(II)V"⟩, prog_14_method_72_code, 5, none, 9, 2, 47, 0, 2, 0, 12) : ai_I)
def o_N_adds (a : Nat) : SP := match a with
  | 0 => f_N_placeFor
  | 1 => f_N_testAt
  | _ => fun _ _ _ _ _ => False
theorem mo_N_adds : ∀ a, ai_mono (o_N_adds a)
  | 0 => mf_N_placeFor
  | 1 => mf_N_testAt
  | _ + 2 => fun _ _ _ _ _ _ _ h => h
def f_N_adds : SP := ai_M o_N_adds 0 5 k_N_adds
theorem mf_N_adds : ai_mono f_N_adds := M_mono mo_N_adds
abbrev cal_N_adds : List ai_I := [i_N_placeFor, i_N_testAt]
theorem a_N_adds : ai_all "SuiteBenchModel" prog_14_method_72_code 5 kc_N cal_N_adds 2 47 false none k_N_adds = true := by decide +kernel
theorem w_N_adds : ai_CW i_N_adds := ⟨(tk_mem (l := [((Jvm.Cond.code ({ cls := "SuiteBenchModel", name := "adds", desc := "(II)V" } : Jvm.MethodName) prog_14_method_72_code (5 : Nat) (Option.none : Option Jvm.ClassFile.FieldType)), 9, 117)]) (by decide +kernel) _ (List.mem_singleton.mpr rfl)), (tk_mem (l := [((Jvm.Cond.initialized "SuiteBenchModel"), 1, 15)]) (by decide +kernel) _ (List.mem_singleton.mpr rfl)), ⟨by decide +kernel, by decide +kernel, by decide +kernel⟩, ⟨(tk_mem (l := [((Jvm.Cond.instanceMethod ({ cls := "SuiteBenchModel", name := "adds", desc := "(II)V" } : Jvm.MethodName)), 9, 116)]) (by decide +kernel) _ (List.mem_singleton.mpr rfl)), gw_sel 116 (by decide +kernel), .inl ⟨_, _, rfl⟩⟩⟩
theorem c_N_adds {E2 : (Nat → Nat) → State → Heap → Prop} (hE : ai_XH E2) : ai_S E2 i_N_adds f_N_adds := snd_M (by decide) rfl (by decide) a_N_adds kc_N_ok (by rfl) (by decide) (fun a i h => match a, h with
    | 0, h => by cases h; exact ⟨c_N_placeFor hE, w_N_placeFor⟩
    | 1, h => by cases h; exact ⟨c_N_testAt hE, w_N_testAt⟩
    | _ + 2, h => by simp [cal_N_adds, ai_nth] at h)
def k_N_addsHead : ai_C := [
  [(0, .iload_n 1, 1, 1, 0, 0, 0, 0, []), (1, .iconst 2, 1, 0, 0, 0, 0, 2, []), (2, .irem, 1, 0, 0, 0, 0, 0, []), (3, .ifCond .ne 35, 3, 38, 0, 0, 0, 0, []), (6, .iconst 0, 1, 0, 0, 0, 0, 0, []), (7, .istore_n 3, 1, 3, 0, 0, 0, 0, []), (8, .iload_n 3, 1, 3, 0, 0, 0, 0, []), (9, .aload_n 0, 1, 0, 0, 0, 0, 0, []), (10, .getfield 341, 3, 12, 29, 16, 0, 29, []), (13, .if_icmp .ge 24, 3, 37, 0, 0, 0, 0, [])],
  [(16, .aload_n 0, 1, 0, 0, 0, 0, 0, []), (17, .iload_n 1, 1, 1, 0, 0, 0, 0, []), (18, .iload_n 2, 1, 2, 0, 0, 0, 0, []), (19, .aload_n 0, 1, 0, 0, 0, 0, 0, []), (20, .getfield 60, 3, 12, 28, 17, 2, 28, []), (23, .iload_n 3, 1, 3, 0, 0, 0, 0, []), (24, .iaload, 1, 0, 0, 0, 0, 0, []), (25, .invokestatic 382, 3, 0, 2, 122, 0, 0, [(0, 12)]), (28, .invokevirtual 385, 3, 1, 3, 123, 9, 0, [(0, 12)]), (31, .iinc 3 1, 3, 3, 0, 0, 0, 1, [])],
  [(34, .goto (-26), 3, 8, 0, 0, 0, 0, []), (37, .return_, 1, 0, 0, 0, 0, 0, []), (38, .aload_n 0, 1, 0, 0, 0, 0, 0, []), (39, .iconst 0, 1, 0, 0, 0, 0, 0, []), (40, .iconst 0, 1, 0, 0, 0, 0, 0, []), (41, .iload_n 2, 1, 2, 0, 0, 0, 0, []), (42, .invokevirtual 325, 3, 2, 4, 111, 0, 0, [(0, 12)]), (45, .istore_n 3, 1, 3, 0, 0, 0, 0, []), (46, .aload_n 0, 1, 0, 0, 0, 0, 0, []), (47, .iload_n 3, 1, 3, 0, 0, 0, 0, [])],
  [(48, .iconst (-1), 1, 0, 0, 0, 0, (-1), []), (49, .invokevirtual 348, 3, 3, 3, 113, 0, 0, [(0, 12)]), (52, .istore 4, 2, 4, 0, 0, 0, 0, []), (54, .iload 4, 2, 4, 0, 0, 0, 0, []), (56, .bipush (-2), 2, 0, 0, 0, 0, (-2), []), (58, .if_icmp .eq 26, 3, 84, 0, 0, 0, 0, []), (61, .aload_n 0, 1, 0, 0, 0, 0, 0, []), (62, .iload_n 1, 1, 1, 0, 0, 0, 0, []), (63, .iload_n 2, 1, 2, 0, 0, 0, 0, [])],
  [(64, .iload 4, 2, 4, 0, 0, 0, 0, []), (66, .invokestatic 382, 3, 0, 2, 122, 0, 0, [(0, 12)]), (69, .invokevirtual 385, 3, 1, 3, 123, 9, 0, [(0, 12)]), (72, .aload_n 0, 1, 0, 0, 0, 0, 0, []), (73, .iload_n 3, 1, 3, 0, 0, 0, 0, []), (74, .iload 4, 2, 4, 0, 0, 0, 0, []), (76, .invokevirtual 348, 3, 3, 3, 113, 0, 0, [(0, 12)]), (79, .istore 4, 2, 4, 0, 0, 0, 0, [])],
  [(81, .goto (-27), 3, 54, 0, 0, 0, 0, []), (84, .return_, 1, 0, 0, 0, 0, 0, [])]]
def i_N_addsHead : ai_I := ((⟨"SuiteBenchModel", "addsHead", "(II)V"⟩, prog_14_method_74_code, 5, none, 9, 3, 71, 0, 2, 0, 12) : ai_I)
def o_N_addsHead (a : Nat) : SP := match a with
  | 0 => f_N_behind
  | 1 => f_N_adds
  | 2 => f_N_leadsTo
  | 3 => f_N_markAbove
  | _ => fun _ _ _ _ _ => False
theorem mo_N_addsHead : ∀ a, ai_mono (o_N_addsHead a)
  | 0 => mf_N_behind
  | 1 => mf_N_adds
  | 2 => mf_N_leadsTo
  | 3 => mf_N_markAbove
  | _ + 4 => fun _ _ _ _ _ _ _ h => h
def f_N_addsHead : SP := ai_M o_N_addsHead 0 5 k_N_addsHead
theorem mf_N_addsHead : ai_mono f_N_addsHead := M_mono mo_N_addsHead
abbrev cal_N_addsHead : List ai_I := [i_N_behind, i_N_adds, i_N_leadsTo, i_N_markAbove]
theorem a_N_addsHead : ai_all "SuiteBenchModel" prog_14_method_74_code 5 kc_N cal_N_addsHead 3 71 false none k_N_addsHead = true := by decide +kernel
theorem w_N_addsHead : ai_CW i_N_addsHead := ⟨(tk_mem (l := [((Jvm.Cond.code ({ cls := "SuiteBenchModel", name := "addsHead", desc := "(II)V" } : Jvm.MethodName) prog_14_method_74_code (5 : Nat) (Option.none : Option Jvm.ClassFile.FieldType)), 9, 110)]) (by decide +kernel) _ (List.mem_singleton.mpr rfl)), (tk_mem (l := [((Jvm.Cond.initialized "SuiteBenchModel"), 1, 15)]) (by decide +kernel) _ (List.mem_singleton.mpr rfl)), ⟨by decide +kernel, by decide +kernel, by decide +kernel⟩, ⟨(tk_mem (l := [((Jvm.Cond.instanceMethod ({ cls := "SuiteBenchModel", name := "addsHead", desc := "(II)V" } : Jvm.MethodName)), 9, 109)]) (by decide +kernel) _ (List.mem_singleton.mpr rfl)), gw_sel 115 (by decide +kernel), .inl ⟨_, _, rfl⟩⟩⟩
theorem c_N_addsHead {E2 : (Nat → Nat) → State → Heap → Prop} (hE : ai_XH E2) : ai_S E2 i_N_addsHead f_N_addsHead := snd_M (by decide) rfl (by decide) a_N_addsHead kc_N_ok (by rfl) (by decide) (fun a i h => match a, h with
    | 0, h => by cases h; exact ⟨c_N_behind hE, w_N_behind⟩
    | 1, h => by cases h; exact ⟨c_N_adds hE, w_N_adds⟩
    | 2, h => by cases h; exact ⟨c_N_leadsTo hE, w_N_leadsTo⟩
    | 3, h => by cases h; exact ⟨c_N_markAbove hE, w_N_markAbove⟩
    | _ + 4, h => by simp [cal_N_addsHead, ai_nth] at h)
def k_N_drops : ai_C := [
  [(0, .iconst 0, 1, 0, 0, 0, 0, 0, []), (1, .istore_n 2, 1, 2, 0, 0, 0, 0, []), (2, .iload_n 2, 1, 2, 0, 0, 0, 0, []), (3, .aload_n 0, 1, 0, 0, 0, 0, 0, []), (4, .getfield 84, 3, 12, 39, 24, 2, 39, []), (7, .iload_n 1, 1, 1, 0, 0, 0, 0, []), (8, .iaload, 1, 0, 0, 0, 0, 0, []), (9, .if_icmp .ge 16, 3, 25, 0, 0, 0, 0, []), (12, .aload_n 0, 1, 0, 0, 0, 0, 0, []), (13, .getfield 87, 3, 12, 40, 51, 2, 40, [])],
  [(16, .iload_n 2, 1, 2, 0, 0, 0, 0, []), (17, .iconst 0, 1, 0, 0, 0, 0, 0, []), (18, .bastore, 1, 0, 0, 0, 52, 0, []), (19, .iinc 2 1, 3, 2, 0, 0, 0, 1, []), (22, .goto (-20), 3, 2, 0, 0, 0, 0, []), (25, .iconst 0, 1, 0, 0, 0, 0, 0, []), (26, .istore_n 2, 1, 2, 0, 0, 0, 0, []), (27, .iload_n 2, 1, 2, 0, 0, 0, 0, []), (28, .aload_n 0, 1, 0, 0, 0, 0, 0, []), (29, .getfield 84, 3, 12, 39, 24, 2, 39, [])],
  [(32, .iload_n 1, 1, 1, 0, 0, 0, 0, []), (33, .iaload, 1, 0, 0, 0, 0, 0, []), (34, .if_icmp .ge 54, 3, 88, 0, 0, 0, 0, []), (37, .aload_n 0, 1, 0, 0, 0, 0, 0, []), (38, .iload_n 1, 1, 1, 0, 0, 0, 0, []), (39, .iload_n 2, 1, 2, 0, 0, 0, 0, []), (40, .invokevirtual 376, 3, 0, 3, 120, 0, 0, [(0, 12)]), (43, .istore_n 3, 1, 3, 0, 0, 0, 0, []), (44, .iload_n 3, 1, 3, 0, 0, 0, 0, []), (45, .ifCond .le 37, 3, 82, 0, 0, 0, 0, [])],
  [(48, .iload_n 3, 1, 3, 0, 0, 0, 0, []), (49, .iconst 2, 1, 0, 0, 0, 0, 2, []), (50, .ishr, 1, 0, 0, 0, 0, 0, []), (51, .istore_n 3, 1, 3, 0, 0, 0, 0, []), (52, .aload_n 0, 1, 0, 0, 0, 0, 0, []), (53, .iload_n 1, 1, 1, 0, 0, 0, 0, []), (54, .iload_n 3, 1, 3, 0, 0, 0, 0, []), (55, .invokevirtual 379, 3, 1, 3, 121, 0, 0, [(0, 12)]), (58, .istore 4, 2, 4, 0, 0, 0, 0, []), (60, .aload_n 0, 1, 0, 0, 0, 0, 0, []), (61, .iload_n 1, 1, 1, 0, 0, 0, 0, []), (62, .iload 4, 2, 4, 0, 0, 0, 0, [])],
  [(64, .invokevirtual 376, 3, 0, 3, 120, 0, 0, [(0, 12)]), (67, .iload_n 3, 1, 3, 0, 0, 0, 0, []), (68, .if_icmp .ne 11, 3, 79, 0, 0, 0, 0, []), (71, .aload_n 0, 1, 0, 0, 0, 0, 0, []), (72, .getfield 87, 3, 12, 40, 51, 2, 40, []), (75, .iload 4, 2, 4, 0, 0, 0, 0, []), (77, .iconst 1, 1, 0, 0, 0, 0, 1, []), (78, .bastore, 1, 0, 0, 0, 52, 0, []), (79, .goto (-35), 3, 44, 0, 0, 0, 0, [])],
  [(82, .iinc 2 1, 3, 2, 0, 0, 0, 1, []), (85, .goto (-58), 3, 27, 0, 0, 0, 0, []), (88, .iconst 0, 1, 0, 0, 0, 0, 0, []), (89, .istore_n 2, 1, 2, 0, 0, 0, 0, []), (90, .iconst 0, 1, 0, 0, 0, 0, 0, []), (91, .istore_n 3, 1, 3, 0, 0, 0, 0, []), (92, .iload_n 3, 1, 3, 0, 0, 0, 0, []), (93, .aload_n 0, 1, 0, 0, 0, 0, 0, []), (94, .getfield 84, 3, 12, 39, 24, 2, 39, [])],
  [(97, .iload_n 1, 1, 1, 0, 0, 0, 0, []), (98, .iaload, 1, 0, 0, 0, 0, 0, []), (99, .if_icmp .ge 42, 3, 141, 0, 0, 0, 0, []), (102, .aload_n 0, 1, 0, 0, 0, 0, 0, []), (103, .getfield 87, 3, 12, 40, 51, 2, 40, []), (106, .iload_n 3, 1, 3, 0, 0, 0, 0, []), (107, .baload, 1, 0, 0, 0, 52, 0, []), (108, .ifCond .eq 6, 3, 114, 0, 0, 0, 0, []), (111, .goto 24, 3, 135, 0, 0, 0, 0, [])],
  [(114, .aload_n 0, 1, 0, 0, 0, 0, 0, []), (115, .getfield 81, 3, 12, 38, 50, 2, 38, []), (118, .sipush 1300, 3, 0, 0, 0, 0, 1300, []), (121, .iload_n 1, 1, 1, 0, 0, 0, 0, []), (122, .imul, 1, 0, 0, 0, 0, 0, []), (123, .iload_n 2, 1, 2, 0, 0, 0, 0, []), (124, .iadd, 1, 0, 0, 0, 0, 0, []), (125, .aload_n 0, 1, 0, 0, 0, 0, 0, []), (126, .iload_n 1, 1, 1, 0, 0, 0, 0, []), (127, .iload_n 3, 1, 3, 0, 0, 0, 0, [])],
  [(128, .invokevirtual 376, 3, 0, 3, 120, 0, 0, [(0, 12)]), (131, .iastore, 1, 0, 0, 0, 0, 0, []), (132, .iinc 2 1, 3, 2, 0, 0, 0, 1, []), (135, .iinc 3 1, 3, 3, 0, 0, 0, 1, []), (138, .goto (-46), 3, 92, 0, 0, 0, 0, []), (141, .aload_n 0, 1, 0, 0, 0, 0, 0, []), (142, .getfield 84, 3, 12, 39, 24, 2, 39, [])],
  [(145, .iload_n 1, 1, 1, 0, 0, 0, 0, []), (146, .iload_n 2, 1, 2, 0, 0, 0, 0, []), (147, .iastore, 1, 0, 0, 0, 0, 0, []), (148, .return_, 1, 0, 0, 0, 0, 0, [])]]
def i_N_drops : ai_I := ((⟨"SuiteBenchModel", "drops", "(I)V"⟩, prog_14_method_75_code, 5, none, 9, 2, 47, 0, 1, 0, 12) : ai_I)
def o_N_drops (a : Nat) : SP := match a with
  | 0 => f_N_testAt
  | 1 => f_N_placeFor
  | _ => fun _ _ _ _ _ => False
theorem mo_N_drops : ∀ a, ai_mono (o_N_drops a)
  | 0 => mf_N_testAt
  | 1 => mf_N_placeFor
  | _ + 2 => fun _ _ _ _ _ _ _ h => h
def f_N_drops : SP := ai_M o_N_drops 0 5 k_N_drops
theorem mf_N_drops : ai_mono f_N_drops := M_mono mo_N_drops
abbrev cal_N_drops : List ai_I := [i_N_testAt, i_N_placeFor]
theorem a_N_drops : ai_all "SuiteBenchModel" prog_14_method_75_code 5 kc_N cal_N_drops 2 47 false none k_N_drops = true := by decide +kernel
theorem w_N_drops : ai_CW i_N_drops := ⟨(tk_mem (l := [((Jvm.Cond.code ({ cls := "SuiteBenchModel", name := "drops", desc := "(I)V" } : Jvm.MethodName) prog_14_method_75_code (5 : Nat) (Option.none : Option Jvm.ClassFile.FieldType)), 9, 129)]) (by decide +kernel) _ (List.mem_singleton.mpr rfl)), (tk_mem (l := [((Jvm.Cond.initialized "SuiteBenchModel"), 1, 15)]) (by decide +kernel) _ (List.mem_singleton.mpr rfl)), ⟨by decide +kernel, by decide +kernel, by decide +kernel⟩, ⟨(tk_mem (l := [((Jvm.Cond.instanceMethod ({ cls := "SuiteBenchModel", name := "drops", desc := "(I)V" } : Jvm.MethodName)), 9, 128)]) (by decide +kernel) _ (List.mem_singleton.mpr rfl)), gw_sel 119 (by decide +kernel), .inl ⟨_, _, rfl⟩⟩⟩
theorem c_N_drops {E2 : (Nat → Nat) → State → Heap → Prop} (hE : ai_XH E2) : ai_S E2 i_N_drops f_N_drops := snd_M (by decide) rfl (by decide) a_N_drops kc_N_ok (by rfl) (by decide) (fun a i h => match a, h with
    | 0, h => by cases h; exact ⟨c_N_testAt hE, w_N_testAt⟩
    | 1, h => by cases h; exact ⟨c_N_placeFor hE, w_N_placeFor⟩
    | _ + 2, h => by simp [cal_N_drops, ai_nth] at h)
def k_N_laysSuite : ai_C := [
  [(0, .aload_n 0, 1, 0, 0, 0, 0, 0, []), (1, .getfield 84, 3, 12, 39, 24, 2, 39, []), (4, .iload_n 1, 1, 1, 0, 0, 0, 0, []), (5, .iaload, 1, 0, 0, 0, 0, 0, []), (6, .ifCond .lt 4, 3, 10, 0, 0, 0, 0, []), (9, .return_, 1, 0, 0, 0, 0, 0, []), (10, .aload_n 0, 1, 0, 0, 0, 0, 0, []), (11, .getfield 84, 3, 12, 39, 24, 2, 39, []), (14, .iload_n 1, 1, 1, 0, 0, 0, 0, []), (15, .iconst 0, 1, 0, 0, 0, 0, 0, [])],
  [(16, .iastore, 1, 0, 0, 0, 0, 0, []), (17, .iconst 0, 1, 0, 0, 0, 0, 0, []), (18, .istore_n 2, 1, 2, 0, 0, 0, 0, []), (19, .iload_n 2, 1, 2, 0, 0, 0, 0, []), (20, .aload_n 0, 1, 0, 0, 0, 0, 0, []), (21, .invokevirtual 272, 3, 0, 1, 2, 0, 0, [(0, 12)]), (24, .if_icmp .ge 79, 3, 103, 0, 0, 0, 0, []), (27, .aload_n 0, 1, 0, 0, 0, 0, 0, []), (28, .iload_n 2, 1, 2, 0, 0, 0, 0, []), (29, .invokevirtual 331, 3, 1, 2, 6, 0, 0, [(0, 12)])],
  [(32, .ifCond .ne 6, 3, 38, 0, 0, 0, 0, []), (35, .goto 62, 3, 97, 0, 0, 0, 0, []), (38, .aload_n 0, 1, 0, 0, 0, 0, 0, []), (39, .iload_n 1, 1, 1, 0, 0, 0, 0, []), (40, .aload_n 0, 1, 0, 0, 0, 0, 0, []), (41, .getfield 44, 3, 12, 22, 1, 2, 22, []), (44, .iload_n 2, 1, 2, 0, 0, 0, 0, []), (45, .iaload, 1, 0, 0, 0, 0, 0, []), (46, .invokevirtual 388, 3, 2, 3, 124, 9, 0, [(0, 12)])],
  [(49, .aload_n 0, 1, 0, 0, 0, 0, 0, []), (50, .invokevirtual 269, 3, 3, 1, 3, 0, 0, [(0, 12)]), (53, .ifCond .ne 6, 3, 59, 0, 0, 0, 0, []), (56, .goto 41, 3, 97, 0, 0, 0, 0, []), (59, .iconst 1, 1, 0, 0, 0, 0, 1, []), (60, .istore_n 3, 1, 3, 0, 0, 0, 0, []), (61, .iload_n 3, 1, 3, 0, 0, 0, 0, []), (62, .invokestatic 298, 3, 4, 1, 13, 0, 0, [(0, 12)])],
  [(65, .iload_n 1, 1, 1, 0, 0, 0, 0, []), (66, .iconst 2, 1, 0, 0, 0, 0, 2, []), (67, .idiv, 1, 0, 0, 0, 0, 0, []), (68, .iconst 1, 1, 0, 0, 0, 0, 1, []), (69, .iadd, 1, 0, 0, 0, 0, 0, []), (70, .if_icmp .gt 27, 3, 97, 0, 0, 0, 0, []), (73, .aload_n 0, 1, 0, 0, 0, 0, 0, []), (74, .iload_n 1, 1, 1, 0, 0, 0, 0, []), (75, .aload_n 0, 1, 0, 0, 0, 0, 0, []), (76, .getfield 44, 3, 12, 22, 1, 2, 22, []), (79, .iload_n 2, 1, 2, 0, 0, 0, 0, [])],
  [(80, .iaload, 1, 0, 0, 0, 0, 0, []), (81, .iload_n 3, 1, 3, 0, 0, 0, 0, []), (82, .invokestatic 382, 3, 5, 2, 122, 0, 0, [(0, 12)]), (85, .invokevirtual 388, 3, 2, 3, 124, 9, 0, [(0, 12)]), (88, .aload_n 0, 1, 0, 0, 0, 0, 0, []), (89, .iload_n 3, 1, 3, 0, 0, 0, 0, []), (90, .invokevirtual 358, 3, 6, 2, 115, 0, 0, [(0, 12)]), (93, .istore_n 3, 1, 3, 0, 0, 0, 0, []), (94, .goto (-33), 3, 61, 0, 0, 0, 0, [])],
  [(97, .iinc 2 1, 3, 2, 0, 0, 0, 1, []), (100, .goto (-81), 3, 19, 0, 0, 0, 0, []), (103, .aload_n 0, 1, 0, 0, 0, 0, 0, []), (104, .iload_n 1, 1, 1, 0, 0, 0, 0, []), (105, .invokevirtual 391, 3, 7, 2, 125, 9, 0, [(0, 12)]), (108, .return_, 1, 0, 0, 0, 0, 0, [])]]
def i_N_laysSuite : ai_I := ((⟨"SuiteBenchModel", "laysSuite", "(I)V"⟩, prog_14_method_76_code, 4, none, 9, 4, 95, 0, 1, 0, 12) : ai_I)
def o_N_laysSuite (a : Nat) : SP := match a with
  | 0 => f_N_states
  | 1 => f_N_isReached
  | 2 => f_N_addsHead
  | 3 => f_N_inputs
  | 4 => f_N_long1
  | 5 => f_N_behind
  | 6 => f_N_after
  | 7 => f_N_drops
  | _ => fun _ _ _ _ _ => False
theorem mo_N_laysSuite : ∀ a, ai_mono (o_N_laysSuite a)
  | 0 => mf_N_states
  | 1 => mf_N_isReached
  | 2 => mf_N_addsHead
  | 3 => mf_N_inputs
  | 4 => mf_N_long1
  | 5 => mf_N_behind
  | 6 => mf_N_after
  | 7 => mf_N_drops
  | _ + 8 => fun _ _ _ _ _ _ _ h => h
def f_N_laysSuite : SP := ai_M o_N_laysSuite 0 4 k_N_laysSuite
theorem mf_N_laysSuite : ai_mono f_N_laysSuite := M_mono mo_N_laysSuite
abbrev cal_N_laysSuite : List ai_I := [i_N_states, i_N_isReached, i_N_addsHead, i_N_inputs, i_N_long1, i_N_behind, i_N_after, i_N_drops]
theorem a_N_laysSuite : ai_all "SuiteBenchModel" prog_14_method_76_code 4 kc_N cal_N_laysSuite 4 95 false none k_N_laysSuite = true := by decide +kernel
theorem w_N_laysSuite : ai_CW i_N_laysSuite := ⟨(tk_mem (l := [((Jvm.Cond.code ({ cls := "SuiteBenchModel", name := "laysSuite", desc := "(I)V" } : Jvm.MethodName) prog_14_method_76_code (4 : Nat) (Option.none : Option Jvm.ClassFile.FieldType)), 9, 106)]) (by decide +kernel) _ (List.mem_singleton.mpr rfl)), (tk_mem (l := [((Jvm.Cond.initialized "SuiteBenchModel"), 1, 15)]) (by decide +kernel) _ (List.mem_singleton.mpr rfl)), ⟨by decide +kernel, by decide +kernel, by decide +kernel⟩, ⟨(tk_mem (l := [((Jvm.Cond.instanceMethod ({ cls := "SuiteBenchModel", name := "laysSuite", desc := "(I)V" } : Jvm.MethodName)), 9, 105)]) (by decide +kernel) _ (List.mem_singleton.mpr rfl)), gw_sel 114 (by decide +kernel), .inl ⟨_, _, rfl⟩⟩⟩
theorem c_N_laysSuite {E2 : (Nat → Nat) → State → Heap → Prop} (hE : ai_XH E2) : ai_S E2 i_N_laysSuite f_N_laysSuite := snd_M (by decide) rfl (by decide) a_N_laysSuite kc_N_ok (by rfl) (by decide) (fun a i h => match a, h with
    | 0, h => by cases h; exact ⟨c_N_states hE, w_N_states⟩
    | 1, h => by cases h; exact ⟨c_N_isReached hE, w_N_isReached⟩
    | 2, h => by cases h; exact ⟨c_N_addsHead hE, w_N_addsHead⟩
    | 3, h => by cases h; exact ⟨c_N_inputs hE, w_N_inputs⟩
    | 4, h => by cases h; exact ⟨c_N_long1 hE, w_N_long1⟩
    | 5, h => by cases h; exact ⟨c_N_behind hE, w_N_behind⟩
    | 6, h => by cases h; exact ⟨c_N_after hE, w_N_after⟩
    | 7, h => by cases h; exact ⟨c_N_drops hE, w_N_drops⟩
    | _ + 8, h => by simp [cal_N_laysSuite, ai_nth] at h)
def k_N_suiteOf : ai_C := [
  [(0, .iconst 2, 1, 0, 0, 0, 0, 2, []), (1, .aload_n 0, 1, 0, 0, 0, 0, 0, []), (2, .invokevirtual 394, 3, 0, 1, 126, 0, 0, [(0, 12)]), (5, .imul, 1, 0, 0, 0, 0, 0, []), (6, .iload_n 1, 1, 1, 0, 0, 0, 0, []), (7, .iadd, 1, 0, 0, 0, 0, 0, []), (8, .istore_n 2, 1, 2, 0, 0, 0, 0, []), (9, .aload_n 0, 1, 0, 0, 0, 0, 0, []), (10, .iload_n 2, 1, 2, 0, 0, 0, 0, []), (11, .invokevirtual 397, 3, 1, 2, 127, 9, 0, [(0, 12)]), (14, .iload_n 2, 1, 2, 0, 0, 0, 0, []), (15, .ireturn, 1, 0, 0, 0, 0, 0, [])]]
def i_N_suiteOf : ai_I := ((⟨"SuiteBenchModel", "suiteOf", "(I)I"⟩, prog_14_method_77_code, 3, (some .int), 0, 5, 118, 0, 1, 0, 12) : ai_I)
def o_N_suiteOf (a : Nat) : SP := match a with
  | 0 => f_N_extra
  | 1 => f_N_laysSuite
  | _ => fun _ _ _ _ _ => False
theorem mo_N_suiteOf : ∀ a, ai_mono (o_N_suiteOf a)
  | 0 => mf_N_extra
  | 1 => mf_N_laysSuite
  | _ + 2 => fun _ _ _ _ _ _ _ h => h
def f_N_suiteOf : SP := ai_M o_N_suiteOf 0 3 k_N_suiteOf
theorem mf_N_suiteOf : ai_mono f_N_suiteOf := M_mono mo_N_suiteOf
abbrev cal_N_suiteOf : List ai_I := [i_N_extra, i_N_laysSuite]
theorem a_N_suiteOf : ai_all "SuiteBenchModel" prog_14_method_77_code 3 kc_N cal_N_suiteOf 5 118 false (some .int) k_N_suiteOf = true := by decide +kernel
theorem w_N_suiteOf : ai_CW i_N_suiteOf := ⟨(tk_mem (l := [((Jvm.Cond.code ({ cls := "SuiteBenchModel", name := "suiteOf", desc := "(I)I" } : Jvm.MethodName) prog_14_method_77_code (3 : Nat) (Option.some Jvm.ClassFile.FieldType.int)), 9, 98)]) (by decide +kernel) _ (List.mem_singleton.mpr rfl)), (tk_mem (l := [((Jvm.Cond.initialized "SuiteBenchModel"), 1, 15)]) (by decide +kernel) _ (List.mem_singleton.mpr rfl)), ⟨by decide +kernel, by decide +kernel, by decide +kernel⟩, ⟨(tk_mem (l := [((Jvm.Cond.instanceMethod ({ cls := "SuiteBenchModel", name := "suiteOf", desc := "(I)I" } : Jvm.MethodName)), 9, 97)]) (by decide +kernel) _ (List.mem_singleton.mpr rfl)), gw_sel 112 (by decide +kernel), .inl ⟨_, _, rfl⟩⟩⟩
theorem c_N_suiteOf {E2 : (Nat → Nat) → State → Heap → Prop} (hE : ai_XH E2) : ai_S E2 i_N_suiteOf f_N_suiteOf := snd_M (by decide) rfl (by decide) a_N_suiteOf kc_N_ok (by rfl) (by decide) (fun a i h => match a, h with
    | 0, h => by cases h; exact ⟨c_N_extra hE, w_N_extra⟩
    | 1, h => by cases h; exact ⟨c_N_laysSuite hE, w_N_laysSuite⟩
    | _ + 2, h => by simp [cal_N_suiteOf, ai_nth] at h)
def k_N_testsOf : ai_C := [
  [(0, .iload_n 1, 1, 1, 0, 0, 0, 0, []), (1, .iconst 2, 1, 0, 0, 0, 0, 2, []), (2, .if_icmp .ge 16, 3, 18, 0, 0, 0, 0, []), (5, .aload_n 0, 1, 0, 0, 0, 0, 0, []), (6, .getfield 84, 3, 12, 39, 24, 2, 39, []), (9, .aload_n 0, 1, 0, 0, 0, 0, 0, []), (10, .iload_n 1, 1, 1, 0, 0, 0, 0, []), (11, .invokevirtual 400, 3, 0, 2, 128, 0, 0, [(0, 12)]), (14, .iaload, 1, 0, 0, 0, 0, 0, []), (15, .goto 15, 3, 30, 0, 0, 0, 0, [])],
  [(18, .aload_n 0, 1, 0, 0, 0, 0, 0, []), (19, .invokevirtual 272, 3, 1, 1, 2, 0, 0, [(0, 12)]), (22, .ifCond .ne 7, 3, 29, 0, 0, 0, 0, []), (25, .iconst 0, 1, 0, 0, 0, 0, 0, []), (26, .goto 4, 3, 30, 0, 0, 0, 0, []), (29, .iconst 1, 1, 0, 0, 0, 0, 1, []), (30, .ireturn, 1, 0, 0, 0, 0, 0, [])]]
def i_N_testsOf : ai_I := ((⟨"SuiteBenchModel", "testsOf", "(I)I"⟩, prog_14_method_79_code, 2, (some .int), 0, 6, 140, 0, 1, 0, 12) : ai_I)
def o_N_testsOf (a : Nat) : SP := match a with
  | 0 => f_N_suiteOf
  | 1 => f_N_states
  | _ => fun _ _ _ _ _ => False
theorem mo_N_testsOf : ∀ a, ai_mono (o_N_testsOf a)
  | 0 => mf_N_suiteOf
  | 1 => mf_N_states
  | _ + 2 => fun _ _ _ _ _ _ _ h => h
def f_N_testsOf : SP := ai_M o_N_testsOf 0 2 k_N_testsOf
theorem mf_N_testsOf : ai_mono f_N_testsOf := M_mono mo_N_testsOf
abbrev cal_N_testsOf : List ai_I := [i_N_suiteOf, i_N_states]
theorem a_N_testsOf : ai_all "SuiteBenchModel" prog_14_method_79_code 2 kc_N cal_N_testsOf 6 140 false (some .int) k_N_testsOf = true := by decide +kernel
theorem w_N_testsOf : ai_CW i_N_testsOf := ⟨(tk_mem (l := [((Jvm.Cond.code ({ cls := "SuiteBenchModel", name := "testsOf", desc := "(I)I" } : Jvm.MethodName) prog_14_method_79_code (2 : Nat) (Option.some Jvm.ClassFile.FieldType.int)), 9, 94)]) (by decide +kernel) _ (List.mem_singleton.mpr rfl)), (tk_mem (l := [((Jvm.Cond.initialized "SuiteBenchModel"), 1, 15)]) (by decide +kernel) _ (List.mem_singleton.mpr rfl)), ⟨by decide +kernel, by decide +kernel, by decide +kernel⟩, ⟨(tk_mem (l := [((Jvm.Cond.instanceMethod ({ cls := "SuiteBenchModel", name := "testsOf", desc := "(I)I" } : Jvm.MethodName)), 9, 93)]) (by decide +kernel) _ (List.mem_singleton.mpr rfl)), gw_sel 111 (by decide +kernel), .inl ⟨_, _, rfl⟩⟩⟩
theorem c_N_testsOf {E2 : (Nat → Nat) → State → Heap → Prop} (hE : ai_XH E2) : ai_S E2 i_N_testsOf f_N_testsOf := snd_M (by decide) rfl (by decide) a_N_testsOf kc_N_ok (by rfl) (by decide) (fun a i h => match a, h with
    | 0, h => by cases h; exact ⟨c_N_suiteOf hE, w_N_suiteOf⟩
    | 1, h => by cases h; exact ⟨c_N_states hE, w_N_states⟩
    | _ + 2, h => by simp [cal_N_testsOf, ai_nth] at h)
def k_N_longOf : ai_C := [
  [(0, .iload_n 1, 1, 1, 0, 0, 0, 0, []), (1, .iconst 2, 1, 0, 0, 0, 0, 2, []), (2, .if_icmp .ge 19, 3, 21, 0, 0, 0, 0, []), (5, .aload_n 0, 1, 0, 0, 0, 0, 0, []), (6, .aload_n 0, 1, 0, 0, 0, 0, 0, []), (7, .iload_n 1, 1, 1, 0, 0, 0, 0, []), (8, .invokevirtual 400, 3, 0, 2, 128, 0, 0, [(0, 12)]), (11, .iload_n 2, 1, 2, 0, 0, 0, 0, []), (12, .invokevirtual 376, 3, 1, 3, 120, 0, 0, [(0, 12)]), (15, .invokestatic 298, 3, 2, 1, 13, 0, 0, [(0, 12)])],
  [(18, .goto 11, 3, 29, 0, 0, 0, 0, []), (21, .aload_n 0, 1, 0, 0, 0, 0, 0, []), (22, .getfield 69, 3, 12, 33, 22, 2, 33, []), (25, .iload_n 1, 1, 1, 0, 0, 0, 0, []), (26, .iconst 2, 1, 0, 0, 0, 0, 2, []), (27, .isub, 1, 0, 0, 0, 0, 0, []), (28, .iaload, 1, 0, 0, 0, 0, 0, []), (29, .ireturn, 1, 0, 0, 0, 0, 0, [])]]
def i_N_longOf : ai_I := ((⟨"SuiteBenchModel", "longOf", "(II)I"⟩, prog_14_method_80_code, 3, (some .int), 0, 6, 140, 0, 2, 0, 12) : ai_I)
def o_N_longOf (a : Nat) : SP := match a with
  | 0 => f_N_suiteOf
  | 1 => f_N_testAt
  | 2 => f_N_long1
  | _ => fun _ _ _ _ _ => False
theorem mo_N_longOf : ∀ a, ai_mono (o_N_longOf a)
  | 0 => mf_N_suiteOf
  | 1 => mf_N_testAt
  | 2 => mf_N_long1
  | _ + 3 => fun _ _ _ _ _ _ _ h => h
def f_N_longOf : SP := ai_M o_N_longOf 0 3 k_N_longOf
theorem mf_N_longOf : ai_mono f_N_longOf := M_mono mo_N_longOf
abbrev cal_N_longOf : List ai_I := [i_N_suiteOf, i_N_testAt, i_N_long1]
theorem a_N_longOf : ai_all "SuiteBenchModel" prog_14_method_80_code 3 kc_N cal_N_longOf 6 140 false (some .int) k_N_longOf = true := by decide +kernel
theorem w_N_longOf : ai_CW i_N_longOf := ⟨(tk_mem (l := [((Jvm.Cond.code ({ cls := "SuiteBenchModel", name := "longOf", desc := "(II)I" } : Jvm.MethodName) prog_14_method_80_code (3 : Nat) (Option.some Jvm.ClassFile.FieldType.int)), 9, 133)]) (by decide +kernel) _ (List.mem_singleton.mpr rfl)), (tk_mem (l := [((Jvm.Cond.initialized "SuiteBenchModel"), 1, 15)]) (by decide +kernel) _ (List.mem_singleton.mpr rfl)), ⟨by decide +kernel, by decide +kernel, by decide +kernel⟩, ⟨(tk_mem (l := [((Jvm.Cond.instanceMethod ({ cls := "SuiteBenchModel", name := "longOf", desc := "(II)I" } : Jvm.MethodName)), 9, 132)]) (by decide +kernel) _ (List.mem_singleton.mpr rfl)), gw_sel 120 (by decide +kernel), .inl ⟨_, _, rfl⟩⟩⟩
theorem c_N_longOf {E2 : (Nat → Nat) → State → Heap → Prop} (hE : ai_XH E2) : ai_S E2 i_N_longOf f_N_longOf := snd_M (by decide) rfl (by decide) a_N_longOf kc_N_ok (by rfl) (by decide) (fun a i h => match a, h with
    | 0, h => by cases h; exact ⟨c_N_suiteOf hE, w_N_suiteOf⟩
    | 1, h => by cases h; exact ⟨c_N_testAt hE, w_N_testAt⟩
    | 2, h => by cases h; exact ⟨c_N_long1 hE, w_N_long1⟩
    | _ + 3, h => by simp [cal_N_longOf, ai_nth] at h)
def k_N_suite : ai_C := [
  [(0, .aload_n 0, 1, 0, 0, 0, 0, 0, []), (1, .iconst 0, 1, 0, 0, 0, 0, 0, []), (2, .putfield 145, 3, 12, 0, 67, 0, 0, []), (5, .iload_n 1, 1, 1, 0, 0, 0, 0, []), (6, .ifCond .lt 17, 3, 23, 0, 0, 0, 0, []), (9, .iload_n 1, 1, 1, 0, 0, 0, 0, []), (10, .iconst 3, 1, 0, 0, 0, 0, 3, []), (11, .if_icmp .gt 12, 3, 23, 0, 0, 0, 0, []), (14, .iload_n 2, 1, 2, 0, 0, 0, 0, []), (15, .ifCond .lt 8, 3, 23, 0, 0, 0, 0, [])],
  [(18, .iload_n 2, 1, 2, 0, 0, 0, 0, []), (19, .iconst 2, 1, 0, 0, 0, 0, 2, []), (20, .if_icmp .le 5, 3, 25, 0, 0, 0, 0, []), (23, .iconst (-1), 1, 0, 0, 0, 0, (-1), []), (24, .ireturn, 1, 0, 0, 0, 0, 0, []), (25, .iload_n 1, 1, 1, 0, 0, 0, 0, []), (26, .iconst 1, 1, 0, 0, 0, 0, 1, []), (27, .if_icmp .le 10, 3, 37, 0, 0, 0, 0, []), (30, .aload_n 0, 1, 0, 0, 0, 0, 0, []), (31, .iload_n 1, 1, 1, 0, 0, 0, 0, [])],
  [(32, .iconst 2, 1, 0, 0, 0, 0, 2, []), (33, .isub, 1, 0, 0, 0, 0, 0, []), (34, .invokevirtual 373, 3, 0, 2, 129, 9, 0, [(0, 12)]), (37, .iconst 0, 1, 0, 0, 0, 0, 0, []), (38, .istore_n 3, 1, 3, 0, 0, 0, 0, []), (39, .iconst 0, 1, 0, 0, 0, 0, 0, []), (40, .istore 4, 2, 4, 0, 0, 0, 0, []), (42, .aload_n 0, 1, 0, 0, 0, 0, 0, []), (43, .iload_n 1, 1, 1, 0, 0, 0, 0, []), (44, .invokevirtual 403, 3, 1, 2, 130, 0, 0, [(0, 12)]), (47, .istore 5, 2, 5, 0, 0, 0, 0, [])],
  [(49, .iconst 0, 1, 0, 0, 0, 0, 0, []), (50, .istore 6, 2, 6, 0, 0, 0, 0, []), (52, .iload 6, 2, 6, 0, 0, 0, 0, []), (54, .iload 5, 2, 5, 0, 0, 0, 0, []), (56, .if_icmp .ge 45, 3, 101, 0, 0, 0, 0, []), (59, .iload_n 3, 1, 3, 0, 0, 0, 0, []), (60, .aload_n 0, 1, 0, 0, 0, 0, 0, []), (61, .iload_n 1, 1, 1, 0, 0, 0, 0, []), (62, .iload 6, 2, 6, 0, 0, 0, 0, [])],
  [(64, .invokevirtual 406, 3, 2, 3, 131, 0, 0, [(0, 12)]), (67, .iadd, 1, 0, 0, 0, 0, 0, []), (68, .istore_n 3, 1, 3, 0, 0, 0, 0, []), (69, .aload_n 0, 1, 0, 0, 0, 0, 0, []), (70, .iload_n 1, 1, 1, 0, 0, 0, 0, []), (71, .iload 6, 2, 6, 0, 0, 0, 0, []), (73, .invokevirtual 406, 3, 2, 3, 131, 0, 0, [(0, 12)]), (76, .iload 4, 2, 4, 0, 0, 0, 0, []), (78, .if_icmp .le 13, 3, 91, 0, 0, 0, 0, [])],
  [(81, .aload_n 0, 1, 0, 0, 0, 0, 0, []), (82, .iload_n 1, 1, 1, 0, 0, 0, 0, []), (83, .iload 6, 2, 6, 0, 0, 0, 0, []), (85, .invokevirtual 406, 3, 2, 3, 131, 0, 0, [(0, 12)]), (88, .goto 5, 3, 93, 0, 0, 0, 0, []), (91, .iload 4, 2, 4, 0, 0, 0, 0, []), (93, .istore 4, 2, 4, 0, 0, 0, 0, []), (95, .iinc 6 1, 3, 6, 0, 0, 0, 1, [])],
  [(98, .goto (-46), 3, 52, 0, 0, 0, 0, []), (101, .iload_n 2, 1, 2, 0, 0, 0, 0, []), (102, .ifCond .ne 8, 3, 110, 0, 0, 0, 0, []), (105, .iload 5, 2, 5, 0, 0, 0, 0, []), (107, .goto 14, 3, 121, 0, 0, 0, 0, []), (110, .iload_n 2, 1, 2, 0, 0, 0, 0, []), (111, .iconst 1, 1, 0, 0, 0, 0, 1, [])],
  [(112, .if_icmp .ne 7, 3, 119, 0, 0, 0, 0, []), (115, .iload_n 3, 1, 3, 0, 0, 0, 0, []), (116, .goto 5, 3, 121, 0, 0, 0, 0, []), (119, .iload 4, 2, 4, 0, 0, 0, 0, []), (121, .ireturn, 1, 0, 0, 0, 0, 0, [])]]
def i_N_suite : ai_I := ((⟨"SuiteBenchModel", "suite", "(II)I"⟩, prog_14_method_81_code, 7, (some .int), 0, 7, 162, 0, 2, 0, 12) : ai_I)
def o_N_suite (a : Nat) : SP := match a with
  | 0 => f_N_laysWay
  | 1 => f_N_testsOf
  | 2 => f_N_longOf
  | _ => fun _ _ _ _ _ => False
theorem mo_N_suite : ∀ a, ai_mono (o_N_suite a)
  | 0 => mf_N_laysWay
  | 1 => mf_N_testsOf
  | 2 => mf_N_longOf
  | _ + 3 => fun _ _ _ _ _ _ _ h => h
def f_N_suite : SP := ai_M o_N_suite 0 7 k_N_suite
theorem mf_N_suite : ai_mono f_N_suite := M_mono mo_N_suite
abbrev cal_N_suite : List ai_I := [i_N_laysWay, i_N_testsOf, i_N_longOf]
theorem a_N_suite : ai_all "SuiteBenchModel" prog_14_method_81_code 7 kc_N cal_N_suite 7 162 false (some .int) k_N_suite = true := by decide +kernel
theorem w_N_suite : ai_CW i_N_suite := ⟨(tk_mem (l := [((Jvm.Cond.code ({ cls := "SuiteBenchModel", name := "suite", desc := "(II)I" } : Jvm.MethodName) prog_14_method_81_code (7 : Nat) (Option.some Jvm.ClassFile.FieldType.int)), 9, 90)]) (by decide +kernel) _ (List.mem_singleton.mpr rfl)), (tk_mem (l := [((Jvm.Cond.initialized "SuiteBenchModel"), 1, 15)]) (by decide +kernel) _ (List.mem_singleton.mpr rfl)), ⟨by decide +kernel, by decide +kernel, by decide +kernel⟩, ⟨(tk_mem (l := [((Jvm.Cond.instanceMethod ({ cls := "SuiteBenchModel", name := "suite", desc := "(II)I" } : Jvm.MethodName)), 9, 88)]) (by decide +kernel) _ (List.mem_singleton.mpr rfl)), (tk_mem (l := [((Jvm.Cond.selects "SuiteBenchModel" ({ cls := "SuiteBenchModel", name := "suite", desc := "(II)I" } : Jvm.MethodName) ({ cls := "SuiteBenchModel", name := "suite", desc := "(II)I" } : Jvm.MethodName)), 9, 89)]) (by decide +kernel) _ (List.mem_singleton.mpr rfl)), .inl ⟨_, _, rfl⟩⟩⟩
theorem c_N_suite {E2 : (Nat → Nat) → State → Heap → Prop} (hE : ai_XH E2) : ai_S E2 i_N_suite f_N_suite := snd_M (by decide) rfl (by decide) a_N_suite kc_N_ok (by rfl) (by decide) (fun a i h => match a, h with
    | 0, h => by cases h; exact ⟨c_N_laysWay hE, w_N_laysWay⟩
    | 1, h => by cases h; exact ⟨c_N_testsOf hE, w_N_testsOf⟩
    | 2, h => by cases h; exact ⟨c_N_longOf hE, w_N_longOf⟩
    | _ + 3, h => by simp [cal_N_suite, ai_nth] at h)
def k_B_isPlanned : ai_C := [
  [(0, .iload_n 0, 1, 0, 0, 0, 0, 0, []), (1, .ifCond .eq 8, 3, 9, 0, 0, 0, 0, []), (4, .iload_n 0, 1, 0, 0, 0, 0, 0, []), (5, .iconst 1, 1, 0, 0, 0, 0, 1, []), (6, .if_icmp .ne 7, 3, 13, 0, 0, 0, 0, []), (9, .iconst 1, 1, 0, 0, 0, 0, 1, []), (10, .goto 4, 3, 14, 0, 0, 0, 0, []), (13, .iconst 0, 1, 0, 0, 0, 0, 0, []), (14, .ireturn, 1, 0, 0, 0, 3, 0, [])]]
def i_B_isPlanned : ai_I := ((⟨"SuiteBench", "isPlanned", "(I)Z"⟩, prog_1_method_46_code, 1, (some .boolean), 3, 0, 0, 0, 1, 1, 11) : ai_I)
def o_B_isPlanned (_ : Nat) : SP := fun _ _ _ _ _ => False
theorem mo_B_isPlanned : ∀ a, ai_mono (o_B_isPlanned a) := fun _ _ _ _ _ _ _ _ h => h
def f_B_isPlanned : SP := ai_M o_B_isPlanned 0 1 k_B_isPlanned
theorem mf_B_isPlanned : ai_mono f_B_isPlanned := M_mono mo_B_isPlanned
abbrev cal_B_isPlanned : List ai_I := []
theorem a_B_isPlanned : ai_all "SuiteBench" prog_1_method_46_code 1 kc_B cal_B_isPlanned 0 0 false (some .boolean) k_B_isPlanned = true := by decide +kernel
theorem w_B_isPlanned : ai_CW i_B_isPlanned := ⟨(tk_mem (l := [((Jvm.Cond.code ({ cls := "SuiteBench", name := "isPlanned", desc := "(I)Z" } : Jvm.MethodName) prog_1_method_46_code (1 : Nat) (Option.some Jvm.ClassFile.FieldType.boolean)), 5, 37)]) (by decide +kernel) _ (List.mem_singleton.mpr rfl)), (tk_mem (l := [((Jvm.Cond.initialized "SuiteBench"), 1, 1)]) (by decide +kernel) _ (List.mem_singleton.mpr rfl)), ⟨by decide +kernel, by decide +kernel, by decide +kernel⟩, (tk_mem (l := [((Jvm.Cond.static ({ cls := "SuiteBench", name := "isPlanned", desc := "(I)Z" } : Jvm.MethodName)), 5, 36)]) (by decide +kernel) _ (List.mem_singleton.mpr rfl))⟩
theorem c_B_isPlanned {E2 : (Nat → Nat) → State → Heap → Prop} (hE : ai_XH E2) : ai_S E2 i_B_isPlanned f_B_isPlanned := snd_M (by decide) rfl (by decide) a_B_isPlanned kc_B_ok (by rfl) (by decide) (fun a i h => by simp [cal_B_isPlanned, ai_nth] at h)
def k_B_test : ai_C := [
  [(0, .iload_n 1, 1, 1, 0, 0, 0, 0, []), (1, .invokestatic 212, 3, 0, 1, 103, 0, 0, [(0, 11)]), (4, .ifCond .eq 7, 3, 11, 0, 0, 0, 0, []), (7, .iload_n 2, 1, 2, 0, 0, 0, 0, []), (8, .ifCond .ge 5, 3, 13, 0, 0, 0, 0, []), (11, .iconst (-1), 1, 0, 0, 0, 0, (-1), []), (12, .ireturn, 1, 0, 0, 0, 0, 0, []), (13, .aload_n 0, 1, 0, 0, 0, 0, 0, []), (14, .getfield 56, 3, 11, 5, 14, 2, 5, [])],
  [(17, .iload_n 1, 1, 1, 0, 0, 0, 0, []), (18, .invokevirtual 196, 3, 1, 2, 99, 2, 0, [(0, 6)]), (21, .astore_n 3, 1, 3, 0, 0, 0, 0, []), (22, .iload_n 2, 1, 2, 0, 0, 0, 0, []), (23, .aload_n 3, 1, 3, 0, 0, 0, 0, []), (24, .getfield 200, 3, 8, 8, 100, 0, 8, []), (27, .if_icmp .ge 12, 3, 39, 0, 0, 0, 0, []), (30, .aload_n 3, 1, 3, 0, 0, 0, 0, []), (31, .getfield 215, 3, 8, 4, 104, 2, 4, [])],
  [(34, .iload_n 2, 1, 2, 0, 0, 0, 0, []), (35, .iaload, 1, 0, 0, 0, 0, 0, []), (36, .goto 5, 3, 41, 0, 0, 0, 0, []), (39, .bipush (-2), 2, 0, 0, 0, 0, (-2), []), (41, .ireturn, 1, 0, 0, 0, 0, 0, [])]]
def i_B_test : ai_I := ((⟨"SuiteBench", "test", "(II)I"⟩, prog_1_method_18_code, 4, (some .int), 0, 6, 143, 0, 2, 0, 11) : ai_I)
def o_B_test (a : Nat) : SP := match a with
  | 0 => f_B_isPlanned
  | 1 => f_T_give
  | _ => fun _ _ _ _ _ => False
theorem mo_B_test : ∀ a, ai_mono (o_B_test a)
  | 0 => mf_B_isPlanned
  | 1 => mf_T_give
  | _ + 2 => fun _ _ _ _ _ _ _ h => h
def f_B_test : SP := ai_M o_B_test 0 4 k_B_test
theorem mf_B_test : ai_mono f_B_test := M_mono mo_B_test
abbrev cal_B_test : List ai_I := [i_B_isPlanned, i_T_give]
theorem a_B_test : ai_all "SuiteBench" prog_1_method_18_code 4 kc_B cal_B_test 6 143 false (some .int) k_B_test = true := by decide +kernel
theorem w_B_test : ai_CW i_B_test := ⟨(tk_mem (l := [((Jvm.Cond.code ({ cls := "SuiteBench", name := "test", desc := "(II)I" } : Jvm.MethodName) prog_1_method_18_code (4 : Nat) (Option.some Jvm.ClassFile.FieldType.int)), 5, 34)]) (by decide +kernel) _ (List.mem_singleton.mpr rfl)), (tk_mem (l := [((Jvm.Cond.initialized "SuiteBench"), 1, 1)]) (by decide +kernel) _ (List.mem_singleton.mpr rfl)), ⟨by decide +kernel, by decide +kernel, by decide +kernel⟩, ⟨(tk_mem (l := [((Jvm.Cond.instanceMethod ({ cls := "SuiteBench", name := "test", desc := "(II)I" } : Jvm.MethodName)), 5, 32)]) (by decide +kernel) _ (List.mem_singleton.mpr rfl)), (tk_mem (l := [((Jvm.Cond.selects "SuiteBench" ({ cls := "SuiteBench", name := "test", desc := "(II)I" } : Jvm.MethodName) ({ cls := "SuiteBench", name := "test", desc := "(II)I" } : Jvm.MethodName)), 5, 33)]) (by decide +kernel) _ (List.mem_singleton.mpr rfl)), .inl ⟨_, _, rfl⟩⟩⟩
theorem c_B_test {E2 : (Nat → Nat) → State → Heap → Prop} (hE : ai_XH E2) : ai_S E2 i_B_test f_B_test := snd_M (by decide) rfl (by decide) a_B_test kc_B_ok (by rfl) (by decide) (fun a i h => match a, h with
    | 0, h => by cases h; exact ⟨c_B_isPlanned hE, w_B_isPlanned⟩
    | 1, h => by cases h; exact ⟨c_T_give hE, w_T_give⟩
    | _ + 2, h => by simp [cal_B_test, ai_nth] at h)
def k_N_isOne : ai_C := [
  [(0, .iload_n 0, 1, 0, 0, 0, 0, 0, []), (1, .ifCond .eq 8, 3, 9, 0, 0, 0, 0, []), (4, .iload_n 0, 1, 0, 0, 0, 0, 0, []), (5, .iconst 1, 1, 0, 0, 0, 0, 1, []), (6, .if_icmp .ne 7, 3, 13, 0, 0, 0, 0, []), (9, .iconst 1, 1, 0, 0, 0, 0, 1, []), (10, .goto 4, 3, 14, 0, 0, 0, 0, []), (13, .iconst 0, 1, 0, 0, 0, 0, 0, []), (14, .ireturn, 1, 0, 0, 0, 3, 0, [])]]
def i_N_isOne : ai_I := ((⟨"SuiteBenchModel", "isOne", "(I)Z"⟩, prog_14_method_78_code, 1, (some .boolean), 3, 0, 0, 0, 1, 1, 12) : ai_I)
def o_N_isOne (_ : Nat) : SP := fun _ _ _ _ _ => False
theorem mo_N_isOne : ∀ a, ai_mono (o_N_isOne a) := fun _ _ _ _ _ _ _ _ h => h
def f_N_isOne : SP := ai_M o_N_isOne 0 1 k_N_isOne
theorem mf_N_isOne : ai_mono f_N_isOne := M_mono mo_N_isOne
abbrev cal_N_isOne : List ai_I := []
theorem a_N_isOne : ai_all "SuiteBenchModel" prog_14_method_78_code 1 kc_N cal_N_isOne 0 0 false (some .boolean) k_N_isOne = true := by decide +kernel
theorem w_N_isOne : ai_CW i_N_isOne := ⟨(tk_mem (l := [((Jvm.Cond.code ({ cls := "SuiteBenchModel", name := "isOne", desc := "(I)Z" } : Jvm.MethodName) prog_14_method_78_code (1 : Nat) (Option.some Jvm.ClassFile.FieldType.boolean)), 9, 140)]) (by decide +kernel) _ (List.mem_singleton.mpr rfl)), (tk_mem (l := [((Jvm.Cond.initialized "SuiteBenchModel"), 1, 15)]) (by decide +kernel) _ (List.mem_singleton.mpr rfl)), ⟨by decide +kernel, by decide +kernel, by decide +kernel⟩, (tk_mem (l := [((Jvm.Cond.static ({ cls := "SuiteBenchModel", name := "isOne", desc := "(I)Z" } : Jvm.MethodName)), 9, 139)]) (by decide +kernel) _ (List.mem_singleton.mpr rfl))⟩
theorem c_N_isOne {E2 : (Nat → Nat) → State → Heap → Prop} (hE : ai_XH E2) : ai_S E2 i_N_isOne f_N_isOne := snd_M (by decide) rfl (by decide) a_N_isOne kc_N_ok (by rfl) (by decide) (fun a i h => by simp [cal_N_isOne, ai_nth] at h)
def k_N_test : ai_C := [
  [(0, .aload_n 0, 1, 0, 0, 0, 0, 0, []), (1, .iconst 0, 1, 0, 0, 0, 0, 0, []), (2, .putfield 145, 3, 12, 0, 67, 0, 0, []), (5, .iload_n 1, 1, 1, 0, 0, 0, 0, []), (6, .invokestatic 409, 3, 0, 1, 132, 0, 0, [(0, 12)]), (9, .ifCond .eq 7, 3, 16, 0, 0, 0, 0, []), (12, .iload_n 2, 1, 2, 0, 0, 0, 0, []), (13, .ifCond .ge 5, 3, 18, 0, 0, 0, 0, [])],
  [(16, .iconst (-1), 1, 0, 0, 0, 0, (-1), []), (17, .ireturn, 1, 0, 0, 0, 0, 0, []), (18, .aload_n 0, 1, 0, 0, 0, 0, 0, []), (19, .iload_n 1, 1, 1, 0, 0, 0, 0, []), (20, .invokevirtual 400, 3, 1, 2, 128, 0, 0, [(0, 12)]), (23, .istore_n 3, 1, 3, 0, 0, 0, 0, []), (24, .iload_n 2, 1, 2, 0, 0, 0, 0, []), (25, .aload_n 0, 1, 0, 0, 0, 0, 0, []), (26, .getfield 84, 3, 12, 39, 24, 2, 39, []), (29, .iload_n 3, 1, 3, 0, 0, 0, 0, []), (30, .iaload, 1, 0, 0, 0, 0, 0, []), (31, .if_icmp .ge 12, 3, 43, 0, 0, 0, 0, [])],
  [(34, .aload_n 0, 1, 0, 0, 0, 0, 0, []), (35, .iload_n 3, 1, 3, 0, 0, 0, 0, []), (36, .iload_n 2, 1, 2, 0, 0, 0, 0, []), (37, .invokevirtual 376, 3, 2, 3, 120, 0, 0, [(0, 12)]), (40, .goto 5, 3, 45, 0, 0, 0, 0, []), (43, .bipush (-2), 2, 0, 0, 0, 0, (-2), []), (45, .ireturn, 1, 0, 0, 0, 0, 0, [])]]
def i_N_test : ai_I := ((⟨"SuiteBenchModel", "test", "(II)I"⟩, prog_14_method_82_code, 4, (some .int), 0, 6, 140, 0, 2, 0, 12) : ai_I)
def o_N_test (a : Nat) : SP := match a with
  | 0 => f_N_isOne
  | 1 => f_N_suiteOf
  | 2 => f_N_testAt
  | _ => fun _ _ _ _ _ => False
theorem mo_N_test : ∀ a, ai_mono (o_N_test a)
  | 0 => mf_N_isOne
  | 1 => mf_N_suiteOf
  | 2 => mf_N_testAt
  | _ + 3 => fun _ _ _ _ _ _ _ h => h
def f_N_test : SP := ai_M o_N_test 0 4 k_N_test
theorem mf_N_test : ai_mono f_N_test := M_mono mo_N_test
abbrev cal_N_test : List ai_I := [i_N_isOne, i_N_suiteOf, i_N_testAt]
theorem a_N_test : ai_all "SuiteBenchModel" prog_14_method_82_code 4 kc_N cal_N_test 6 140 false (some .int) k_N_test = true := by decide +kernel
theorem w_N_test : ai_CW i_N_test := ⟨(tk_mem (l := [((Jvm.Cond.code ({ cls := "SuiteBenchModel", name := "test", desc := "(II)I" } : Jvm.MethodName) prog_14_method_82_code (4 : Nat) (Option.some Jvm.ClassFile.FieldType.int)), 9, 137)]) (by decide +kernel) _ (List.mem_singleton.mpr rfl)), (tk_mem (l := [((Jvm.Cond.initialized "SuiteBenchModel"), 1, 15)]) (by decide +kernel) _ (List.mem_singleton.mpr rfl)), ⟨by decide +kernel, by decide +kernel, by decide +kernel⟩, ⟨(tk_mem (l := [((Jvm.Cond.instanceMethod ({ cls := "SuiteBenchModel", name := "test", desc := "(II)I" } : Jvm.MethodName)), 9, 135)]) (by decide +kernel) _ (List.mem_singleton.mpr rfl)), (tk_mem (l := [((Jvm.Cond.selects "SuiteBenchModel" ({ cls := "SuiteBenchModel", name := "test", desc := "(II)I" } : Jvm.MethodName) ({ cls := "SuiteBenchModel", name := "test", desc := "(II)I" } : Jvm.MethodName)), 9, 136)]) (by decide +kernel) _ (List.mem_singleton.mpr rfl)), .inl ⟨_, _, rfl⟩⟩⟩
theorem c_N_test {E2 : (Nat → Nat) → State → Heap → Prop} (hE : ai_XH E2) : ai_S E2 i_N_test f_N_test := snd_M (by decide) rfl (by decide) a_N_test kc_N_ok (by rfl) (by decide) (fun a i h => match a, h with
    | 0, h => by cases h; exact ⟨c_N_isOne hE, w_N_isOne⟩
    | 1, h => by cases h; exact ⟨c_N_suiteOf hE, w_N_suiteOf⟩
    | 2, h => by cases h; exact ⟨c_N_testAt hE, w_N_testAt⟩
    | _ + 3, h => by simp [cal_N_test, ai_nth] at h)
