/-! the code of the methods, by program; what it rests on, looked at; the contracts -/
def k_R_readClose : ai_C := [
  [(0, .aload_n 0, 1, 0, 0, 0, 0, 0, []), (1, .invokevirtual 47, 3, 0, 1, 24, 9, 0, [(0, 4)]), (4, .aload_n 0, 1, 0, 0, 0, 0, 0, []), (5, .getfield 50, 3, 4, 7, 14, 0, 7, []), (8, .iconst 3, 1, 0, 0, 0, 0, 3, []), (9, .if_icmp .eq 11, 3, 20, 0, 0, 0, 0, []), (12, .aload_n 0, 1, 0, 0, 0, 0, 0, []), (13, .iconst 1, 1, 0, 0, 0, 0, 1, []), (14, .invokevirtual 70, 3, 1, 2, 26, 0, 0, [(0, 4)])],
  [(17, .ifCond .eq 7, 3, 24, 0, 0, 0, 0, []), (20, .iconst 1, 1, 0, 0, 0, 0, 1, []), (21, .goto 4, 3, 25, 0, 0, 0, 0, []), (24, .iconst 0, 1, 0, 0, 0, 0, 0, []), (25, .ireturn, 1, 0, 0, 0, 3, 0, [])]]
def i_R_readClose : ai_I := ((⟨"SuiteBench$Reader", "readClose", "()Z"⟩, prog_6_method_7_code, 1, (some .boolean), 3, 1, 21, 0, 0, 0, 4) : ai_I)
def o_R_readClose (a : Nat) : SP := match a with
  | 0 => f_R_advance
  | 1 => f_R_wrong
  | _ => fun _ _ _ _ _ => False
theorem mo_R_readClose : ∀ a, ai_mono (o_R_readClose a)
  | 0 => mf_R_advance
  | 1 => mf_R_wrong
  | _ + 2 => fun _ _ _ _ _ _ _ h => h
def f_R_readClose : SP := ai_M o_R_readClose 0 1 k_R_readClose
theorem mf_R_readClose : ai_mono f_R_readClose := M_mono mo_R_readClose
abbrev cal_R_readClose : List ai_I := [i_R_advance, i_R_wrong]
theorem a_R_readClose : ai_all "SuiteBench$Reader" prog_6_method_7_code 1 kc_R cal_R_readClose 1 21 false (some .boolean) k_R_readClose = true := by decide +kernel
theorem w_R_readClose : ai_CW i_R_readClose := ⟨(tk_mem (l := [((Jvm.Cond.code ({ cls := "SuiteBench$Reader", name := "readClose", desc := "()Z" } : Jvm.MethodName) prog_6_method_7_code (1 : Nat) (Option.some Jvm.ClassFile.FieldType.boolean)), 4, 95)]) (by decide +kernel) _ (List.mem_singleton.mpr rfl)), (tk_mem (l := [((Jvm.Cond.initialized "SuiteBench$Reader"), 1, 2)]) (by decide +kernel) _ (List.mem_singleton.mpr rfl)), ⟨by decide +kernel, by decide +kernel, by decide +kernel⟩, ⟨(tk_mem (l := [((Jvm.Cond.instanceMethod ({ cls := "SuiteBench$Reader", name := "readClose", desc := "()Z" } : Jvm.MethodName)), 4, 94)]) (by decide +kernel) _ (List.mem_singleton.mpr rfl)), gw_sel 27 (by decide +kernel), .inl ⟨_, _, rfl⟩⟩⟩
theorem c_R_readClose {E2 : (Nat → Nat) → State → Heap → Prop} (hE : ai_XH E2) : ai_S E2 i_R_readClose f_R_readClose := snd_M (by decide) rfl (by decide) a_R_readClose kc_R_ok (by rfl) (by decide) (fun a i h => match a, h with
    | 0, h => by cases h; exact ⟨c_R_advance hE, w_R_advance⟩
    | 1, h => by cases h; exact ⟨c_R_wrong hE, w_R_wrong⟩
    | _ + 2, h => by simp [cal_R_readClose, ai_nth] at h)
def k_R_reads : ai_C := [
  [(0, .aload_n 0, 1, 0, 0, 0, 0, 0, []), (1, .iload_n 1, 1, 1, 0, 0, 0, 0, []), (2, .sipush 700, 3, 0, 0, 0, 0, 700, []), (5, .invokestatic 29, 3, 0, 0, 52, 23, 0, []), (8, .putfield 35, 3, 4, 5, 11, 0, 5, []), (11, .aload_n 0, 1, 0, 0, 0, 0, 0, []), (12, .iconst 0, 1, 0, 0, 0, 0, 0, []), (13, .putfield 38, 3, 4, 6, 10, 0, 6, [])],
  [(16, .aload_n 0, 1, 0, 0, 0, 0, 0, []), (17, .iconst 0, 1, 0, 0, 0, 0, 0, []), (18, .putfield 26, 3, 4, 2, 9, 0, 2, []), (21, .aload_n 0, 1, 0, 0, 0, 0, 0, []), (22, .iconst 0, 1, 0, 0, 0, 0, 0, []), (23, .putfield 41, 3, 4, 3, 16, 0, 3, []), (26, .aload_n 0, 1, 0, 0, 0, 0, 0, []), (27, .iconst (-1), 1, 0, 0, 0, 0, (-1), []), (28, .putfield 22, 3, 4, 4, 8, 0, 4, []), (31, .aload_n 0, 1, 0, 0, 0, 0, 0, [])],
  [(32, .getfield 18, 3, 4, 1, 7, 2, 1, []), (35, .invokevirtual 44, 3, 0, 1, 53, 9, 0, [(0, 3)]), (38, .iconst 0, 1, 0, 0, 0, 0, 0, []), (39, .istore_n 2, 1, 2, 0, 0, 0, 0, []), (40, .iload_n 2, 1, 2, 0, 0, 0, 0, []), (41, .sipush 700, 3, 0, 0, 0, 0, 700, []), (44, .if_icmp .gt 52, 3, 96, 0, 0, 0, 0, []), (47, .aload_n 0, 1, 0, 0, 0, 0, 0, [])],
  [(48, .invokevirtual 47, 3, 1, 1, 24, 9, 0, [(0, 4)]), (51, .aload_n 0, 1, 0, 0, 0, 0, 0, []), (52, .getfield 50, 3, 4, 7, 14, 0, 7, []), (55, .ifCond .ne 6, 3, 61, 0, 0, 0, 0, []), (58, .goto 38, 3, 96, 0, 0, 0, 0, []), (61, .aload_n 0, 1, 0, 0, 0, 0, 0, []), (62, .invokevirtual 53, 3, 2, 1, 54, 0, 0, [(0, 4)])],
  [(65, .ifCond .eq 10, 3, 75, 0, 0, 0, 0, []), (68, .aload_n 0, 1, 0, 0, 0, 0, 0, []), (69, .invokevirtual 57, 3, 3, 1, 55, 0, 0, [(0, 4)]), (72, .ifCond .ne 5, 3, 77, 0, 0, 0, 0, []), (75, .iconst 0, 1, 0, 0, 0, 0, 0, []), (76, .ireturn, 1, 0, 0, 0, 3, 0, []), (77, .aload_n 0, 1, 0, 0, 0, 0, 0, []), (78, .getfield 18, 3, 4, 1, 7, 2, 1, [])],
  [(81, .dup, 1, 0, 0, 0, 0, 0, []), (82, .getfield 60, 3, 3, 9, 56, 0, 9, []), (85, .iconst 1, 1, 0, 0, 0, 0, 1, []), (86, .iadd, 1, 0, 0, 0, 0, 0, []), (87, .putfield 60, 3, 3, 9, 56, 0, 9, []), (90, .iinc 2 1, 3, 2, 0, 0, 0, 1, []), (93, .goto (-53), 3, 40, 0, 0, 0, 0, [])],
  [(96, .iconst 1, 1, 0, 0, 0, 0, 1, []), (97, .ireturn, 1, 0, 0, 0, 3, 0, [])]]
def i_R_reads : ai_I := ((⟨"SuiteBench$Reader", "reads", "(I)Z"⟩, prog_6_method_3_code, 3, (some .boolean), 3, 5, 109, 0, 1, 0, 4) : ai_I)
def o_R_reads (a : Nat) : SP := match a with
  | 0 => f_P_clear
  | 1 => f_R_advance
  | 2 => f_R_readLine
  | 3 => f_R_readClose
  | _ => fun _ _ _ _ _ => False
theorem mo_R_reads : ∀ a, ai_mono (o_R_reads a)
  | 0 => mf_P_clear
  | 1 => mf_R_advance
  | 2 => mf_R_readLine
  | 3 => mf_R_readClose
  | _ + 4 => fun _ _ _ _ _ _ _ h => h
def f_R_reads : SP := ai_M o_R_reads 0 3 k_R_reads
theorem mf_R_reads : ai_mono f_R_reads := M_mono mo_R_reads
abbrev cal_R_reads : List ai_I := [i_P_clear, i_R_advance, i_R_readLine, i_R_readClose]
theorem a_R_reads : ai_all "SuiteBench$Reader" prog_6_method_3_code 3 kc_R cal_R_reads 5 109 false (some .boolean) k_R_reads = true := by decide +kernel
theorem w_R_reads : ai_CW i_R_reads := ⟨(tk_mem (l := [((Jvm.Cond.code ({ cls := "SuiteBench$Reader", name := "reads", desc := "(I)Z" } : Jvm.MethodName) prog_6_method_3_code (3 : Nat) (Option.some Jvm.ClassFile.FieldType.boolean)), 4, 6)]) (by decide +kernel) _ (List.mem_singleton.mpr rfl)), (tk_mem (l := [((Jvm.Cond.initialized "SuiteBench$Reader"), 1, 2)]) (by decide +kernel) _ (List.mem_singleton.mpr rfl)), ⟨by decide +kernel, by decide +kernel, by decide +kernel⟩, ⟨(tk_mem (l := [((Jvm.Cond.instanceMethod ({ cls := "SuiteBench$Reader", name := "reads", desc := "(I)Z" } : Jvm.MethodName)), 4, 4)]) (by decide +kernel) _ (List.mem_singleton.mpr rfl)), (tk_mem (l := [((Jvm.Cond.selects "SuiteBench$Reader" ({ cls := "SuiteBench$Reader", name := "reads", desc := "(I)Z" } : Jvm.MethodName) ({ cls := "SuiteBench$Reader", name := "reads", desc := "(I)Z" } : Jvm.MethodName)), 4, 5)]) (by decide +kernel) _ (List.mem_singleton.mpr rfl)), .inl ⟨_, _, rfl⟩⟩⟩
theorem c_R_reads {E2 : (Nat → Nat) → State → Heap → Prop} (hE : ai_XH E2) : ai_S E2 i_R_reads f_R_reads := snd_M (by decide) rfl (by decide) a_R_reads kc_R_ok (by rfl) (by decide) (fun a i h => match a, h with
    | 0, h => by cases h; exact ⟨c_P_clear hE, w_P_clear⟩
    | 1, h => by cases h; exact ⟨c_R_advance hE, w_R_advance⟩
    | 2, h => by cases h; exact ⟨c_R_readLine hE, w_R_readLine⟩
    | 3, h => by cases h; exact ⟨c_R_readClose hE, w_R_readClose⟩
    | _ + 4, h => by simp [cal_R_reads, ai_nth] at h)
def k_B_text : ai_C := [
  [(0, .iload_n 1, 1, 1, 0, 0, 0, 0, []), (1, .ifCond .lt 14, 3, 15, 0, 0, 0, 0, []), (4, .iload_n 1, 1, 1, 0, 0, 0, 0, []), (5, .aload_n 0, 1, 0, 0, 0, 0, 0, []), (6, .getfield 10, 3, 11, 0, 31, 2, 0, []), (9, .getfield 96, 3, 4, 2, 69, 0, 2, []), (12, .if_icmp .le 6, 3, 18, 0, 0, 0, 0, []), (15, .bipush (-2), 2, 0, 0, 0, 0, (-2), [])],
  [(17, .ireturn, 1, 0, 0, 0, 0, 0, []), (18, .aload_n 0, 1, 0, 0, 0, 0, 0, []), (19, .getfield 10, 3, 11, 0, 31, 2, 0, []), (22, .iload_n 1, 1, 1, 0, 0, 0, 0, []), (23, .invokevirtual 104, 3, 0, 2, 71, 0, 0, [(0, 4)]), (26, .ifCond .ne 5, 3, 31, 0, 0, 0, 0, []), (29, .iconst (-1), 1, 0, 0, 0, 0, (-1), []), (30, .ireturn, 1, 0, 0, 0, 0, 0, []), (31, .aload_n 0, 1, 0, 0, 0, 0, 0, [])],
  [(32, .getfield 19, 3, 11, 12, 1, 2, 12, []), (35, .astore_n 2, 1, 2, 0, 0, 0, 0, []), (36, .aload_n 0, 1, 0, 0, 0, 0, 0, []), (37, .aload_n 0, 1, 0, 0, 0, 0, 0, []), (38, .getfield 10, 3, 11, 0, 31, 2, 0, []), (41, .getfield 108, 3, 4, 1, 72, 2, 1, []), (44, .putfield 19, 3, 11, 12, 1, 2, 12, []), (47, .aload_n 0, 1, 0, 0, 0, 0, 0, [])],
  [(48, .getfield 10, 3, 11, 0, 31, 2, 0, []), (51, .aload_n 2, 1, 2, 0, 0, 0, 0, []), (52, .putfield 108, 3, 4, 1, 72, 2, 1, []), (55, .aload_n 0, 1, 0, 0, 0, 0, 0, []), (56, .invokevirtual 93, 3, 1, 1, 68, 9, 0, [(0, 11)]), (59, .aload_n 0, 1, 0, 0, 0, 0, 0, []), (60, .getfield 19, 3, 11, 12, 1, 2, 12, []), (63, .getfield 111, 3, 3, 9, 73, 0, 9, [])],
  [(66, .ireturn, 1, 0, 0, 0, 0, 0, [])]]
def i_B_text : ai_I := ((⟨"SuiteBench", "text", "(I)I"⟩, prog_1_method_3_code, 3, (some .int), 0, 6, 134, 0, 1, 0, 11) : ai_I)
def o_B_text (a : Nat) : SP := match a with
  | 0 => f_R_reads
  | 1 => f_B_settle
  | _ => fun _ _ _ _ _ => False
theorem mo_B_text : ∀ a, ai_mono (o_B_text a)
  | 0 => mf_R_reads
  | 1 => mf_B_settle
  | _ + 2 => fun _ _ _ _ _ _ _ h => h
def f_B_text : SP := ai_M o_B_text 0 3 k_B_text
theorem mf_B_text : ai_mono f_B_text := M_mono mo_B_text
abbrev cal_B_text : List ai_I := [i_R_reads, i_B_settle]
theorem a_B_text : ai_all "SuiteBench" prog_1_method_3_code 3 kc_B cal_B_text 6 134 false (some .int) k_B_text = true := by decide +kernel
theorem w_B_text : ai_CW i_B_text := ⟨(tk_mem (l := [((Jvm.Cond.code ({ cls := "SuiteBench", name := "text", desc := "(I)I" } : Jvm.MethodName) prog_1_method_3_code (3 : Nat) (Option.some Jvm.ClassFile.FieldType.int)), 4, 2)]) (by decide +kernel) _ (List.mem_singleton.mpr rfl)), (tk_mem (l := [((Jvm.Cond.initialized "SuiteBench"), 1, 1)]) (by decide +kernel) _ (List.mem_singleton.mpr rfl)), ⟨by decide +kernel, by decide +kernel, by decide +kernel⟩, ⟨(tk_mem (l := [((Jvm.Cond.instanceMethod ({ cls := "SuiteBench", name := "text", desc := "(I)I" } : Jvm.MethodName)), 4, 0)]) (by decide +kernel) _ (List.mem_singleton.mpr rfl)), (tk_mem (l := [((Jvm.Cond.selects "SuiteBench" ({ cls := "SuiteBench", name := "text", desc := "(I)I" } : Jvm.MethodName) ({ cls := "SuiteBench", name := "text", desc := "(I)I" } : Jvm.MethodName)), 4, 1)]) (by decide +kernel) _ (List.mem_singleton.mpr rfl)), .inl ⟨_, _, rfl⟩⟩⟩
theorem c_B_text {E2 : (Nat → Nat) → State → Heap → Prop} (hE : ai_XH E2) : ai_S E2 i_B_text f_B_text := snd_M (by decide) rfl (by decide) a_B_text kc_B_ok (by rfl) (by decide) (fun a i h => match a, h with
    | 0, h => by cases h; exact ⟨c_R_reads hE, w_R_reads⟩
    | 1, h => by cases h; exact ⟨c_B_settle hE, w_B_settle⟩
    | _ + 2, h => by simp [cal_B_text, ai_nth] at h)
def k_N_here : ai_C := [
  [(0, .aload_n 0, 1, 0, 0, 0, 0, 0, []), (1, .getfield 151, 3, 12, 12, 69, 0, 12, []), (4, .aload_n 0, 1, 0, 0, 0, 0, 0, []), (5, .getfield 154, 3, 12, 11, 70, 0, 11, []), (8, .if_icmp .ge 15, 3, 23, 0, 0, 0, 0, []), (11, .aload_n 0, 1, 0, 0, 0, 0, 0, []), (12, .getfield 7, 3, 12, 1, 41, 2, 1, []), (15, .aload_n 0, 1, 0, 0, 0, 0, 0, [])],
  [(16, .getfield 151, 3, 12, 12, 69, 0, 12, []), (19, .iaload, 1, 0, 0, 0, 0, 0, []), (20, .goto 4, 3, 24, 0, 0, 0, 0, []), (23, .iconst (-1), 1, 0, 0, 0, 0, (-1), []), (24, .ireturn, 1, 0, 0, 0, 0, 0, [])]]
def i_N_here : ai_I := ((⟨"SuiteBenchModel", "here", "()I"⟩, prog_14_method_4_code, 1, (some .int), 0, 0, 0, 0, 0, 0, 12) : ai_I)
def o_N_here (_ : Nat) : SP := fun _ _ _ _ _ => False
theorem mo_N_here : ∀ a, ai_mono (o_N_here a) := fun _ _ _ _ _ _ _ _ h => h
def f_N_here : SP := ai_M o_N_here 0 1 k_N_here
theorem mf_N_here : ai_mono f_N_here := M_mono mo_N_here
abbrev cal_N_here : List ai_I := []
theorem a_N_here : ai_all "SuiteBenchModel" prog_14_method_4_code 1 kc_N cal_N_here 0 0 false (some .int) k_N_here = true := by decide +kernel
theorem w_N_here : ai_CW i_N_here := ⟨(tk_mem (l := [((Jvm.Cond.code ({ cls := "SuiteBenchModel", name := "here", desc := "()I" } : Jvm.MethodName) prog_14_method_4_code (1 : Nat) (Option.some Jvm.ClassFile.FieldType.int)), 8, 85)]) (by decide +kernel) _ (List.mem_singleton.mpr rfl)), (tk_mem (l := [((Jvm.Cond.initialized "SuiteBenchModel"), 1, 15)]) (by decide +kernel) _ (List.mem_singleton.mpr rfl)), ⟨by decide +kernel, by decide +kernel, by decide +kernel⟩, ⟨(tk_mem (l := [((Jvm.Cond.instanceMethod ({ cls := "SuiteBenchModel", name := "here", desc := "()I" } : Jvm.MethodName)), 8, 84)]) (by decide +kernel) _ (List.mem_singleton.mpr rfl)), gw_sel 79 (by decide +kernel), .inl ⟨_, _, rfl⟩⟩⟩
theorem c_N_here {E2 : (Nat → Nat) → State → Heap → Prop} (hE : ai_XH E2) : ai_S E2 i_N_here f_N_here := snd_M (by decide) rfl (by decide) a_N_here kc_N_ok (by rfl) (by decide) (fun a i h => by simp [cal_N_here, ai_nth] at h)
def k_N_isSmall : ai_C := [
  [(0, .iload_n 0, 1, 0, 0, 0, 0, 0, []), (1, .bipush 97, 2, 0, 0, 0, 0, 97, []), (3, .if_icmp .lt 13, 3, 16, 0, 0, 0, 0, []), (6, .iload_n 0, 1, 0, 0, 0, 0, 0, []), (7, .bipush 122, 2, 0, 0, 0, 0, 122, []), (9, .if_icmp .gt 7, 3, 16, 0, 0, 0, 0, []), (12, .iconst 1, 1, 0, 0, 0, 0, 1, []), (13, .goto 4, 3, 17, 0, 0, 0, 0, [])],
  [(16, .iconst 0, 1, 0, 0, 0, 0, 0, []), (17, .ireturn, 1, 0, 0, 0, 3, 0, [])]]
def i_N_isSmall : ai_I := ((⟨"SuiteBenchModel", "isSmall", "(I)Z"⟩, prog_14_method_5_code, 1, (some .boolean), 3, 0, 0, 0, 1, 1, 12) : ai_I)
def o_N_isSmall (_ : Nat) : SP := fun _ _ _ _ _ => False
theorem mo_N_isSmall : ∀ a, ai_mono (o_N_isSmall a) := fun _ _ _ _ _ _ _ _ h => h
def f_N_isSmall : SP := ai_M o_N_isSmall 0 1 k_N_isSmall
theorem mf_N_isSmall : ai_mono f_N_isSmall := M_mono mo_N_isSmall
abbrev cal_N_isSmall : List ai_I := []
theorem a_N_isSmall : ai_all "SuiteBenchModel" prog_14_method_5_code 1 kc_N cal_N_isSmall 0 0 false (some .boolean) k_N_isSmall = true := by decide +kernel
theorem w_N_isSmall : ai_CW i_N_isSmall := ⟨(tk_mem (l := [((Jvm.Cond.code ({ cls := "SuiteBenchModel", name := "isSmall", desc := "(I)Z" } : Jvm.MethodName) prog_14_method_5_code (1 : Nat) (Option.some Jvm.ClassFile.FieldType.boolean)), 8, 88)]) (by decide +kernel) _ (List.mem_singleton.mpr rfl)), (tk_mem (l := [((Jvm.Cond.initialized "SuiteBenchModel"), 1, 15)]) (by decide +kernel) _ (List.mem_singleton.mpr rfl)), ⟨by decide +kernel, by decide +kernel, by decide +kernel⟩, (tk_mem (l := [((Jvm.Cond.static ({ cls := "SuiteBenchModel", name := "isSmall", desc := "(I)Z" } : Jvm.MethodName)), 8, 87)]) (by decide +kernel) _ (List.mem_singleton.mpr rfl))⟩
theorem c_N_isSmall {E2 : (Nat → Nat) → State → Heap → Prop} (hE : ai_XH E2) : ai_S E2 i_N_isSmall f_N_isSmall := snd_M (by decide) rfl (by decide) a_N_isSmall kc_N_ok (by rfl) (by decide) (fun a i h => by simp [cal_N_isSmall, ai_nth] at h)
def k_N_wordHere : ai_C := [
  [(0, .iconst 0, 1, 0, 0, 0, 0, 0, []), (1, .istore_n 1, 1, 1, 0, 0, 0, 0, []), (2, .iconst 0, 1, 0, 0, 0, 0, 0, []), (3, .istore_n 2, 1, 2, 0, 0, 0, 0, []), (4, .iload_n 2, 1, 2, 0, 0, 0, 0, []), (5, .ldc 184, 2, 0, 0, 0, 1, 0, []), (7, .invokevirtual 186, 3, 0, 1, 71, 0, 0, [(0, 98)]), (10, .if_icmp .ge 113, 3, 123, 0, 0, 0, 0, []), (13, .iconst 0, 1, 0, 0, 0, 0, 0, []), (14, .istore_n 3, 1, 3, 0, 0, 0, 0, []), (15, .ldc 184, 2, 0, 0, 0, 1, 0, [])],
  [(17, .iload_n 2, 1, 2, 0, 0, 0, 0, []), (18, .iload_n 3, 1, 3, 0, 0, 0, 0, []), (19, .iadd, 1, 0, 0, 0, 0, 0, []), (20, .invokevirtual 191, 3, 1, 2, 72, 0, 0, [(0, 98)]), (23, .bipush 32, 2, 0, 0, 0, 0, 32, []), (25, .if_icmp .eq 44, 3, 69, 0, 0, 0, 0, []), (28, .aload_n 0, 1, 0, 0, 0, 0, 0, []), (29, .getfield 161, 3, 12, 13, 73, 0, 13, [])],
  [(32, .iload_n 3, 1, 3, 0, 0, 0, 0, []), (33, .iadd, 1, 0, 0, 0, 0, 0, []), (34, .aload_n 0, 1, 0, 0, 0, 0, 0, []), (35, .getfield 151, 3, 12, 12, 69, 0, 12, []), (38, .if_icmp .ge 31, 3, 69, 0, 0, 0, 0, []), (41, .aload_n 0, 1, 0, 0, 0, 0, 0, []), (42, .getfield 7, 3, 12, 1, 41, 2, 1, []), (45, .aload_n 0, 1, 0, 0, 0, 0, 0, []), (46, .getfield 161, 3, 12, 13, 73, 0, 13, [])],
  [(49, .iload_n 3, 1, 3, 0, 0, 0, 0, []), (50, .iadd, 1, 0, 0, 0, 0, 0, []), (51, .iaload, 1, 0, 0, 0, 0, 0, []), (52, .ldc 184, 2, 0, 0, 0, 1, 0, []), (54, .iload_n 2, 1, 2, 0, 0, 0, 0, []), (55, .iload_n 3, 1, 3, 0, 0, 0, 0, []), (56, .iadd, 1, 0, 0, 0, 0, 0, []), (57, .invokevirtual 191, 3, 1, 2, 72, 0, 0, [(0, 98)]), (60, .if_icmp .ne 9, 3, 69, 0, 0, 0, 0, []), (63, .iinc 3 1, 3, 3, 0, 0, 0, 1, [])],
  [(66, .goto (-51), 3, 15, 0, 0, 0, 0, []), (69, .ldc 184, 2, 0, 0, 0, 1, 0, []), (71, .iload_n 2, 1, 2, 0, 0, 0, 0, []), (72, .iload_n 3, 1, 3, 0, 0, 0, 0, []), (73, .iadd, 1, 0, 0, 0, 0, 0, []), (74, .invokevirtual 191, 3, 1, 2, 72, 0, 0, [(0, 98)]), (77, .bipush 32, 2, 0, 0, 0, 0, 32, []), (79, .if_icmp .ne 18, 3, 97, 0, 0, 0, 0, [])],
  [(82, .aload_n 0, 1, 0, 0, 0, 0, 0, []), (83, .getfield 161, 3, 12, 13, 73, 0, 13, []), (86, .iload_n 3, 1, 3, 0, 0, 0, 0, []), (87, .iadd, 1, 0, 0, 0, 0, 0, []), (88, .aload_n 0, 1, 0, 0, 0, 0, 0, []), (89, .getfield 151, 3, 12, 12, 69, 0, 12, []), (92, .if_icmp .ne 5, 3, 97, 0, 0, 0, 0, []), (95, .iload_n 1, 1, 1, 0, 0, 0, 0, [])],
  [(96, .ireturn, 1, 0, 0, 0, 0, 0, []), (97, .ldc 184, 2, 0, 0, 0, 1, 0, []), (99, .iload_n 2, 1, 2, 0, 0, 0, 0, []), (100, .invokevirtual 191, 3, 1, 2, 72, 0, 0, [(0, 98)]), (103, .bipush 32, 2, 0, 0, 0, 0, 32, []), (105, .if_icmp .eq 9, 3, 114, 0, 0, 0, 0, []), (108, .iinc 2 1, 3, 2, 0, 0, 0, 1, []), (111, .goto (-14), 3, 97, 0, 0, 0, 0, [])],
  [(114, .iinc 2 1, 3, 2, 0, 0, 0, 1, []), (117, .iinc 1 1, 3, 1, 0, 0, 0, 1, []), (120, .goto (-116), 3, 4, 0, 0, 0, 0, []), (123, .iconst (-1), 1, 0, 0, 0, 0, (-1), []), (124, .ireturn, 1, 0, 0, 0, 0, 0, [])]]
def i_N_wordHere : ai_I := ((⟨"SuiteBenchModel", "wordHere", "()I"⟩, prog_14_method_8_code, 4, (some .int), 0, 7, 221, 0, 0, 0, 12) : ai_I)
def o_N_wordHere (a : Nat) : SP := match a with
  | 0 => f_J_length
  | 1 => f_J_charAt
  | _ => fun _ _ _ _ _ => False
theorem mo_N_wordHere : ∀ a, ai_mono (o_N_wordHere a)
  | 0 => mf_J_length
  | 1 => mf_J_charAt
  | _ + 2 => fun _ _ _ _ _ _ _ h => h
def f_N_wordHere : SP := ai_M o_N_wordHere 0 4 k_N_wordHere
theorem mf_N_wordHere : ai_mono f_N_wordHere := M_mono mo_N_wordHere
abbrev cal_N_wordHere : List ai_I := [i_J_length, i_J_charAt]
theorem a_N_wordHere : ai_all "SuiteBenchModel" prog_14_method_8_code 4 kc_N cal_N_wordHere 7 221 false (some .int) k_N_wordHere = true := by decide +kernel
theorem w_N_wordHere : ai_CW i_N_wordHere := ⟨(tk_mem (l := [((Jvm.Cond.code ({ cls := "SuiteBenchModel", name := "wordHere", desc := "()I" } : Jvm.MethodName) prog_14_method_8_code (4 : Nat) (Option.some Jvm.ClassFile.FieldType.int)), 8, 92)]) (by decide +kernel) _ (List.mem_singleton.mpr rfl)), (tk_mem (l := [((Jvm.Cond.initialized "SuiteBenchModel"), 1, 15)]) (by decide +kernel) _ (List.mem_singleton.mpr rfl)), ⟨by decide +kernel, by decide +kernel, by decide +kernel⟩, ⟨(tk_mem (l := [((Jvm.Cond.instanceMethod ({ cls := "SuiteBenchModel", name := "wordHere", desc := "()I" } : Jvm.MethodName)), 8, 91)]) (by decide +kernel) _ (List.mem_singleton.mpr rfl)), gw_sel 80 (by decide +kernel), .inl ⟨_, _, rfl⟩⟩⟩
theorem c_N_wordHere {E2 : (Nat → Nat) → State → Heap → Prop} (hE : ai_XH E2) : ai_S E2 i_N_wordHere f_N_wordHere := snd_M (by decide) rfl (by decide) a_N_wordHere kc_N_ok (by rfl) (by decide) (fun a i h => match a, h with
    | 0, h => by cases h; exact hE.1
    | 1, h => by cases h; exact hE.2
    | _ + 2, h => by simp [cal_N_wordHere, ai_nth] at h)
def k_N_nameHere : ai_C := [
  [(0, .aload_n 0, 1, 0, 0, 0, 0, 0, []), (1, .iconst 0, 1, 0, 0, 0, 0, 0, []), (2, .putfield 174, 3, 12, 15, 74, 0, 15, []), (5, .iconst 0, 1, 0, 0, 0, 0, 0, []), (6, .istore_n 1, 1, 1, 0, 0, 0, 0, []), (7, .iload_n 1, 1, 1, 0, 0, 0, 0, []), (8, .bipush 6, 2, 0, 0, 0, 0, 6, []), (10, .if_icmp .ge 53, 3, 63, 0, 0, 0, 0, []), (13, .aload_n 0, 1, 0, 0, 0, 0, 0, []), (14, .aload_n 0, 1, 0, 0, 0, 0, 0, []), (15, .getfield 174, 3, 12, 15, 74, 0, 15, [])],
  [(18, .iconst 5, 1, 0, 0, 0, 0, 5, []), (19, .ishl, 1, 0, 0, 0, 0, 0, []), (20, .aload_n 0, 1, 0, 0, 0, 0, 0, []), (21, .getfield 161, 3, 12, 13, 73, 0, 13, []), (24, .iload_n 1, 1, 1, 0, 0, 0, 0, []), (25, .iadd, 1, 0, 0, 0, 0, 0, []), (26, .aload_n 0, 1, 0, 0, 0, 0, 0, []), (27, .getfield 151, 3, 12, 12, 69, 0, 12, []), (30, .if_icmp .ge 22, 3, 52, 0, 0, 0, 0, [])],
  [(33, .aload_n 0, 1, 0, 0, 0, 0, 0, []), (34, .getfield 7, 3, 12, 1, 41, 2, 1, []), (37, .aload_n 0, 1, 0, 0, 0, 0, 0, []), (38, .getfield 161, 3, 12, 13, 73, 0, 13, []), (41, .iload_n 1, 1, 1, 0, 0, 0, 0, []), (42, .iadd, 1, 0, 0, 0, 0, 0, []), (43, .iaload, 1, 0, 0, 0, 0, 0, []), (44, .bipush 97, 2, 0, 0, 0, 0, 97, []), (46, .isub, 1, 0, 0, 0, 0, 0, []), (47, .iconst 1, 1, 0, 0, 0, 0, 1, [])],
  [(48, .iadd, 1, 0, 0, 0, 0, 0, []), (49, .goto 4, 3, 53, 0, 0, 0, 0, []), (52, .iconst 0, 1, 0, 0, 0, 0, 0, []), (53, .ior, 1, 0, 0, 0, 0, 0, []), (54, .putfield 174, 3, 12, 15, 74, 0, 15, []), (57, .iinc 1 1, 3, 1, 0, 0, 0, 1, []), (60, .goto (-53), 3, 7, 0, 0, 0, 0, []), (63, .return_, 1, 0, 0, 0, 0, 0, [])]]
def i_N_nameHere : ai_I := ((⟨"SuiteBenchModel", "nameHere", "()V"⟩, prog_14_method_9_code, 2, none, 9, 0, 0, 0, 0, 0, 12) : ai_I)
def o_N_nameHere (_ : Nat) : SP := fun _ _ _ _ _ => False
theorem mo_N_nameHere : ∀ a, ai_mono (o_N_nameHere a) := fun _ _ _ _ _ _ _ _ h => h
def f_N_nameHere : SP := ai_M o_N_nameHere 0 2 k_N_nameHere
theorem mf_N_nameHere : ai_mono f_N_nameHere := M_mono mo_N_nameHere
abbrev cal_N_nameHere : List ai_I := []
theorem a_N_nameHere : ai_all "SuiteBenchModel" prog_14_method_9_code 2 kc_N cal_N_nameHere 0 0 false none k_N_nameHere = true := by decide +kernel
theorem w_N_nameHere : ai_CW i_N_nameHere := ⟨(tk_mem (l := [((Jvm.Cond.code ({ cls := "SuiteBenchModel", name := "nameHere", desc := "()V" } : Jvm.MethodName) prog_14_method_9_code (2 : Nat) (Option.none : Option Jvm.ClassFile.FieldType)), 8, 145)]) (by decide +kernel) _ (List.mem_singleton.mpr rfl)), (tk_mem (l := [((Jvm.Cond.initialized "SuiteBenchModel"), 1, 15)]) (by decide +kernel) _ (List.mem_singleton.mpr rfl)), ⟨by decide +kernel, by decide +kernel, by decide +kernel⟩, ⟨(tk_mem (l := [((Jvm.Cond.instanceMethod ({ cls := "SuiteBenchModel", name := "nameHere", desc := "()V" } : Jvm.MethodName)), 8, 144)]) (by decide +kernel) _ (List.mem_singleton.mpr rfl)), gw_sel 81 (by decide +kernel), .inl ⟨_, _, rfl⟩⟩⟩
theorem c_N_nameHere {E2 : (Nat → Nat) → State → Heap → Prop} (hE : ai_XH E2) : ai_S E2 i_N_nameHere f_N_nameHere := snd_M (by decide) rfl (by decide) a_N_nameHere kc_N_ok (by rfl) (by decide) (fun a i h => by simp [cal_N_nameHere, ai_nth] at h)
def k_N_isDigit : ai_C := [
  [(0, .iload_n 0, 1, 0, 0, 0, 0, 0, []), (1, .bipush 48, 2, 0, 0, 0, 0, 48, []), (3, .if_icmp .lt 13, 3, 16, 0, 0, 0, 0, []), (6, .iload_n 0, 1, 0, 0, 0, 0, 0, []), (7, .bipush 57, 2, 0, 0, 0, 0, 57, []), (9, .if_icmp .gt 7, 3, 16, 0, 0, 0, 0, []), (12, .iconst 1, 1, 0, 0, 0, 0, 1, []), (13, .goto 4, 3, 17, 0, 0, 0, 0, [])],
  [(16, .iconst 0, 1, 0, 0, 0, 0, 0, []), (17, .ireturn, 1, 0, 0, 0, 3, 0, [])]]
def i_N_isDigit : ai_I := ((⟨"SuiteBenchModel", "isDigit", "(I)Z"⟩, prog_14_method_6_code, 1, (some .boolean), 3, 0, 0, 0, 1, 1, 12) : ai_I)
def o_N_isDigit (_ : Nat) : SP := fun _ _ _ _ _ => False
theorem mo_N_isDigit : ∀ a, ai_mono (o_N_isDigit a) := fun _ _ _ _ _ _ _ _ h => h
def f_N_isDigit : SP := ai_M o_N_isDigit 0 1 k_N_isDigit
theorem mf_N_isDigit : ai_mono f_N_isDigit := M_mono mo_N_isDigit
abbrev cal_N_isDigit : List ai_I := []
theorem a_N_isDigit : ai_all "SuiteBenchModel" prog_14_method_6_code 1 kc_N cal_N_isDigit 0 0 false (some .boolean) k_N_isDigit = true := by decide +kernel
theorem w_N_isDigit : ai_CW i_N_isDigit := ⟨(tk_mem (l := [((Jvm.Cond.code ({ cls := "SuiteBenchModel", name := "isDigit", desc := "(I)Z" } : Jvm.MethodName) prog_14_method_6_code (1 : Nat) (Option.some Jvm.ClassFile.FieldType.boolean)), 8, 148)]) (by decide +kernel) _ (List.mem_singleton.mpr rfl)), (tk_mem (l := [((Jvm.Cond.initialized "SuiteBenchModel"), 1, 15)]) (by decide +kernel) _ (List.mem_singleton.mpr rfl)), ⟨by decide +kernel, by decide +kernel, by decide +kernel⟩, (tk_mem (l := [((Jvm.Cond.static ({ cls := "SuiteBenchModel", name := "isDigit", desc := "(I)Z" } : Jvm.MethodName)), 8, 147)]) (by decide +kernel) _ (List.mem_singleton.mpr rfl))⟩
theorem c_N_isDigit {E2 : (Nat → Nat) → State → Heap → Prop} (hE : ai_XH E2) : ai_S E2 i_N_isDigit f_N_isDigit := snd_M (by decide) rfl (by decide) a_N_isDigit kc_N_ok (by rfl) (by decide) (fun a i h => by simp [cal_N_isDigit, ai_nth] at h)
def k_N_token : ai_C := [
  [(0, .aload_n 0, 1, 0, 0, 0, 0, 0, []), (1, .invokevirtual 157, 3, 0, 1, 75, 0, 0, [(0, 12)]), (4, .bipush 10, 2, 0, 0, 0, 0, 10, []), (6, .if_icmp .eq 12, 3, 18, 0, 0, 0, 0, []), (9, .aload_n 0, 1, 0, 0, 0, 0, 0, []), (10, .invokevirtual 157, 3, 0, 1, 75, 0, 0, [(0, 12)]), (13, .bipush 32, 2, 0, 0, 0, 0, 32, []), (15, .if_icmp .ne 16, 3, 31, 0, 0, 0, 0, [])],
  [(18, .aload_n 0, 1, 0, 0, 0, 0, 0, []), (19, .dup, 1, 0, 0, 0, 0, 0, []), (20, .getfield 151, 3, 12, 12, 69, 0, 12, []), (23, .iconst 1, 1, 0, 0, 0, 0, 1, []), (24, .iadd, 1, 0, 0, 0, 0, 0, []), (25, .putfield 151, 3, 12, 12, 69, 0, 12, []), (28, .goto (-28), 3, 0, 0, 0, 0, 0, []), (31, .aload_n 0, 1, 0, 0, 0, 0, 0, [])],
  [(32, .aload_n 0, 1, 0, 0, 0, 0, 0, []), (33, .getfield 151, 3, 12, 12, 69, 0, 12, []), (36, .putfield 161, 3, 12, 13, 73, 0, 13, []), (39, .aload_n 0, 1, 0, 0, 0, 0, 0, []), (40, .invokevirtual 157, 3, 0, 1, 75, 0, 0, [(0, 12)]), (43, .istore_n 1, 1, 1, 0, 0, 0, 0, []), (44, .iload_n 1, 1, 1, 0, 0, 0, 0, []), (45, .iconst (-1), 1, 0, 0, 0, 0, (-1), []), (46, .if_icmp .ne 11, 3, 57, 0, 0, 0, 0, [])],
  [(49, .aload_n 0, 1, 0, 0, 0, 0, 0, []), (50, .iconst 4, 1, 0, 0, 0, 0, 4, []), (51, .putfield 164, 3, 12, 14, 76, 0, 14, []), (54, .goto 191, 3, 245, 0, 0, 0, 0, []), (57, .iload_n 1, 1, 1, 0, 0, 0, 0, []), (58, .invokestatic 167, 3, 1, 1, 77, 0, 0, [(0, 12)]), (61, .ifCond .eq 84, 3, 145, 0, 0, 0, 0, [])],
  [(64, .aload_n 0, 1, 0, 0, 0, 0, 0, []), (65, .invokevirtual 157, 3, 0, 1, 75, 0, 0, [(0, 12)]), (68, .invokestatic 167, 3, 1, 1, 77, 0, 0, [(0, 12)]), (71, .ifCond .eq 16, 3, 87, 0, 0, 0, 0, []), (74, .aload_n 0, 1, 0, 0, 0, 0, 0, []), (75, .dup, 1, 0, 0, 0, 0, 0, []), (76, .getfield 151, 3, 12, 12, 69, 0, 12, []), (79, .iconst 1, 1, 0, 0, 0, 0, 1, [])],
  [(80, .iadd, 1, 0, 0, 0, 0, 0, []), (81, .putfield 151, 3, 12, 12, 69, 0, 12, []), (84, .goto (-20), 3, 64, 0, 0, 0, 0, []), (87, .aload_n 0, 1, 0, 0, 0, 0, 0, []), (88, .aload_n 0, 1, 0, 0, 0, 0, 0, []), (89, .invokevirtual 171, 3, 2, 1, 78, 0, 0, [(0, 12)]), (92, .putfield 174, 3, 12, 15, 74, 0, 15, []), (95, .aload_n 0, 1, 0, 0, 0, 0, 0, [])],
  [(96, .aload_n 0, 1, 0, 0, 0, 0, 0, []), (97, .getfield 174, 3, 12, 15, 74, 0, 15, []), (100, .iconst (-1), 1, 0, 0, 0, 0, (-1), []), (101, .if_icmp .eq 7, 3, 108, 0, 0, 0, 0, []), (104, .iconst 0, 1, 0, 0, 0, 0, 0, []), (105, .goto 22, 3, 127, 0, 0, 0, 0, []), (108, .aload_n 0, 1, 0, 0, 0, 0, 0, []), (109, .getfield 151, 3, 12, 12, 69, 0, 12, [])],
  [(112, .aload_n 0, 1, 0, 0, 0, 0, 0, []), (113, .getfield 161, 3, 12, 13, 73, 0, 13, []), (116, .isub, 1, 0, 0, 0, 0, 0, []), (117, .bipush 6, 2, 0, 0, 0, 0, 6, []), (119, .if_icmp .le 7, 3, 126, 0, 0, 0, 0, []), (122, .iconst 5, 1, 0, 0, 0, 0, 5, []), (123, .goto 4, 3, 127, 0, 0, 0, 0, []), (126, .iconst 1, 1, 0, 0, 0, 0, 1, []), (127, .putfield 164, 3, 12, 14, 76, 0, 14, [])],
  [(130, .aload_n 0, 1, 0, 0, 0, 0, 0, []), (131, .getfield 164, 3, 12, 14, 76, 0, 14, []), (134, .iconst 1, 1, 0, 0, 0, 0, 1, []), (135, .if_icmp .ne 110, 3, 245, 0, 0, 0, 0, []), (138, .aload_n 0, 1, 0, 0, 0, 0, 0, []), (139, .invokevirtual 177, 3, 3, 1, 79, 9, 0, [(0, 12)]), (142, .goto 103, 3, 245, 0, 0, 0, 0, [])],
  [(145, .iload_n 1, 1, 1, 0, 0, 0, 0, []), (146, .invokestatic 180, 3, 4, 1, 80, 0, 0, [(0, 12)]), (149, .ifCond .eq 71, 3, 220, 0, 0, 0, 0, []), (152, .aload_n 0, 1, 0, 0, 0, 0, 0, []), (153, .iconst 2, 1, 0, 0, 0, 0, 2, []), (154, .putfield 164, 3, 12, 14, 76, 0, 14, []), (157, .aload_n 0, 1, 0, 0, 0, 0, 0, []), (158, .iconst 0, 1, 0, 0, 0, 0, 0, []), (159, .putfield 174, 3, 12, 15, 74, 0, 15, [])],
  [(162, .aload_n 0, 1, 0, 0, 0, 0, 0, []), (163, .invokevirtual 157, 3, 0, 1, 75, 0, 0, [(0, 12)]), (166, .invokestatic 180, 3, 4, 1, 80, 0, 0, [(0, 12)]), (169, .ifCond .eq 76, 3, 245, 0, 0, 0, 0, []), (172, .aload_n 0, 1, 0, 0, 0, 0, 0, []), (173, .aload_n 0, 1, 0, 0, 0, 0, 0, []), (174, .getfield 174, 3, 12, 15, 74, 0, 15, [])],
  [(177, .ldc 183, 2, 0, 0, 81, 0, 99999, []), (179, .if_icmp .le 10, 3, 189, 0, 0, 0, 0, []), (182, .aload_n 0, 1, 0, 0, 0, 0, 0, []), (183, .getfield 174, 3, 12, 15, 74, 0, 15, []), (186, .goto 18, 3, 204, 0, 0, 0, 0, []), (189, .bipush 10, 2, 0, 0, 0, 0, 10, []), (191, .aload_n 0, 1, 0, 0, 0, 0, 0, [])],
  [(192, .getfield 174, 3, 12, 15, 74, 0, 15, []), (195, .imul, 1, 0, 0, 0, 0, 0, []), (196, .aload_n 0, 1, 0, 0, 0, 0, 0, []), (197, .invokevirtual 157, 3, 0, 1, 75, 0, 0, [(0, 12)]), (200, .iadd, 1, 0, 0, 0, 0, 0, []), (201, .bipush 48, 2, 0, 0, 0, 0, 48, []), (203, .isub, 1, 0, 0, 0, 0, 0, []), (204, .putfield 174, 3, 12, 15, 74, 0, 15, []), (207, .aload_n 0, 1, 0, 0, 0, 0, 0, [])],
  [(208, .dup, 1, 0, 0, 0, 0, 0, []), (209, .getfield 151, 3, 12, 12, 69, 0, 12, []), (212, .iconst 1, 1, 0, 0, 0, 0, 1, []), (213, .iadd, 1, 0, 0, 0, 0, 0, []), (214, .putfield 151, 3, 12, 12, 69, 0, 12, []), (217, .goto (-55), 3, 162, 0, 0, 0, 0, []), (220, .aload_n 0, 1, 0, 0, 0, 0, 0, []), (221, .iload_n 1, 1, 1, 0, 0, 0, 0, []), (222, .bipush 59, 2, 0, 0, 0, 0, 59, [])],
  [(224, .if_icmp .ne 7, 3, 231, 0, 0, 0, 0, []), (227, .iconst 3, 1, 0, 0, 0, 0, 3, []), (228, .goto 4, 3, 232, 0, 0, 0, 0, []), (231, .iconst 5, 1, 0, 0, 0, 0, 5, []), (232, .putfield 164, 3, 12, 14, 76, 0, 14, []), (235, .aload_n 0, 1, 0, 0, 0, 0, 0, []), (236, .dup, 1, 0, 0, 0, 0, 0, []), (237, .getfield 151, 3, 12, 12, 69, 0, 12, [])],
  [(240, .iconst 1, 1, 0, 0, 0, 0, 1, []), (241, .iadd, 1, 0, 0, 0, 0, 0, []), (242, .putfield 151, 3, 12, 12, 69, 0, 12, []), (245, .return_, 1, 0, 0, 0, 0, 0, [])]]
def i_N_token : ai_I := ((⟨"SuiteBenchModel", "token", "()V"⟩, prog_14_method_7_code, 2, none, 9, 8, 244, 0, 0, 0, 12) : ai_I)
def o_N_token (a : Nat) : SP := match a with
  | 0 => f_N_here
  | 1 => f_N_isSmall
  | 2 => f_N_wordHere
  | 3 => f_N_nameHere
  | 4 => f_N_isDigit
  | _ => fun _ _ _ _ _ => False
theorem mo_N_token : ∀ a, ai_mono (o_N_token a)
  | 0 => mf_N_here
  | 1 => mf_N_isSmall
  | 2 => mf_N_wordHere
  | 3 => mf_N_nameHere
  | 4 => mf_N_isDigit
  | _ + 5 => fun _ _ _ _ _ _ _ h => h
def f_N_token : SP := ai_M o_N_token 0 2 k_N_token
theorem mf_N_token : ai_mono f_N_token := M_mono mo_N_token
abbrev cal_N_token : List ai_I := [i_N_here, i_N_isSmall, i_N_wordHere, i_N_nameHere, i_N_isDigit]
theorem a_N_token : ai_all "SuiteBenchModel" prog_14_method_7_code 2 kc_N cal_N_token 8 244 false none k_N_token = true := by decide +kernel
theorem w_N_token : ai_CW i_N_token := ⟨(tk_mem (l := [((Jvm.Cond.code ({ cls := "SuiteBenchModel", name := "token", desc := "()V" } : Jvm.MethodName) prog_14_method_7_code (2 : Nat) (Option.none : Option Jvm.ClassFile.FieldType)), 8, 81)]) (by decide +kernel) _ (List.mem_singleton.mpr rfl)), (tk_mem (l := [((Jvm.Cond.initialized "SuiteBenchModel"), 1, 15)]) (by decide +kernel) _ (List.mem_singleton.mpr rfl)), ⟨by decide +kernel, by decide +kernel, by decide +kernel⟩, ⟨(tk_mem (l := [((Jvm.Cond.instanceMethod ({ cls := "SuiteBenchModel", name := "token", desc := "()V" } : Jvm.MethodName)), 8, 80)]) (by decide +kernel) _ (List.mem_singleton.mpr rfl)), gw_sel 78 (by decide +kernel), .inl ⟨_, _, rfl⟩⟩⟩
theorem c_N_token {E2 : (Nat → Nat) → State → Heap → Prop} (hE : ai_XH E2) : ai_S E2 i_N_token f_N_token := snd_M (by decide) rfl (by decide) a_N_token kc_N_ok (by rfl) (by decide) (fun a i h => match a, h with
    | 0, h => by cases h; exact ⟨c_N_here hE, w_N_here⟩
    | 1, h => by cases h; exact ⟨c_N_isSmall hE, w_N_isSmall⟩
    | 2, h => by cases h; exact ⟨c_N_wordHere hE, w_N_wordHere⟩
    | 3, h => by cases h; exact ⟨c_N_nameHere hE, w_N_nameHere⟩
    | 4, h => by cases h; exact ⟨c_N_isDigit hE, w_N_isDigit⟩
    | _ + 5, h => by simp [cal_N_token, ai_nth] at h)
def k_N_isWord : ai_C := [
  [(0, .aload_n 0, 1, 0, 0, 0, 0, 0, []), (1, .getfield 195, 3, 12, 16, 82, 0, 16, []), (4, .ifCond .ne 22, 3, 26, 0, 0, 0, 0, []), (7, .aload_n 0, 1, 0, 0, 0, 0, 0, []), (8, .getfield 164, 3, 12, 14, 76, 0, 14, []), (11, .ifCond .ne 15, 3, 26, 0, 0, 0, 0, []), (14, .aload_n 0, 1, 0, 0, 0, 0, 0, []), (15, .getfield 174, 3, 12, 15, 74, 0, 15, [])],
  [(18, .iload_n 1, 1, 1, 0, 0, 0, 0, []), (19, .if_icmp .ne 7, 3, 26, 0, 0, 0, 0, []), (22, .iconst 1, 1, 0, 0, 0, 0, 1, []), (23, .goto 4, 3, 27, 0, 0, 0, 0, []), (26, .iconst 0, 1, 0, 0, 0, 0, 0, []), (27, .ireturn, 1, 0, 0, 0, 3, 0, [])]]
def i_N_isWord : ai_I := ((⟨"SuiteBenchModel", "isWord", "(I)Z"⟩, prog_14_method_11_code, 2, (some .boolean), 3, 0, 0, 0, 1, 0, 12) : ai_I)
def o_N_isWord (_ : Nat) : SP := fun _ _ _ _ _ => False
theorem mo_N_isWord : ∀ a, ai_mono (o_N_isWord a) := fun _ _ _ _ _ _ _ _ h => h
def f_N_isWord : SP := ai_M o_N_isWord 0 2 k_N_isWord
theorem mf_N_isWord : ai_mono f_N_isWord := M_mono mo_N_isWord
abbrev cal_N_isWord : List ai_I := []
theorem a_N_isWord : ai_all "SuiteBenchModel" prog_14_method_11_code 2 kc_N cal_N_isWord 0 0 false (some .boolean) k_N_isWord = true := by decide +kernel
theorem w_N_isWord : ai_CW i_N_isWord := ⟨(tk_mem (l := [((Jvm.Cond.code ({ cls := "SuiteBenchModel", name := "isWord", desc := "(I)Z" } : Jvm.MethodName) prog_14_method_11_code (2 : Nat) (Option.some Jvm.ClassFile.FieldType.boolean)), 8, 157)]) (by decide +kernel) _ (List.mem_singleton.mpr rfl)), (tk_mem (l := [((Jvm.Cond.initialized "SuiteBenchModel"), 1, 15)]) (by decide +kernel) _ (List.mem_singleton.mpr rfl)), ⟨by decide +kernel, by decide +kernel, by decide +kernel⟩, ⟨(tk_mem (l := [((Jvm.Cond.instanceMethod ({ cls := "SuiteBenchModel", name := "isWord", desc := "(I)Z" } : Jvm.MethodName)), 8, 156)]) (by decide +kernel) _ (List.mem_singleton.mpr rfl)), gw_sel 83 (by decide +kernel), .inl ⟨_, _, rfl⟩⟩⟩
theorem c_N_isWord {E2 : (Nat → Nat) → State → Heap → Prop} (hE : ai_XH E2) : ai_S E2 i_N_isWord f_N_isWord := snd_M (by decide) rfl (by decide) a_N_isWord kc_N_ok (by rfl) (by decide) (fun a i h => by simp [cal_N_isWord, ai_nth] at h)
def k_N_reading : ai_C := [
  [(0, .aload_n 0, 1, 0, 0, 0, 0, 0, []), (1, .getfield 13, 3, 12, 3, 0, 2, 3, []), (4, .iconst 5, 1, 0, 0, 0, 0, 5, []), (5, .iload_n 1, 1, 1, 0, 0, 0, 0, []), (6, .iadd, 1, 0, 0, 0, 0, 0, []), (7, .iaload, 1, 0, 0, 0, 0, 0, []), (8, .ireturn, 1, 0, 0, 0, 0, 0, [])]]
def i_N_reading : ai_I := ((⟨"SuiteBenchModel", "reading", "(I)I"⟩, prog_14_method_14_code, 2, (some .int), 0, 0, 0, 0, 1, 0, 12) : ai_I)
def o_N_reading (_ : Nat) : SP := fun _ _ _ _ _ => False
theorem mo_N_reading : ∀ a, ai_mono (o_N_reading a) := fun _ _ _ _ _ _ _ _ h => h
def f_N_reading : SP := ai_M o_N_reading 0 2 k_N_reading
theorem mf_N_reading : ai_mono f_N_reading := M_mono mo_N_reading
abbrev cal_N_reading : List ai_I := []
theorem a_N_reading : ai_all "SuiteBenchModel" prog_14_method_14_code 2 kc_N cal_N_reading 0 0 false (some .int) k_N_reading = true := by decide +kernel
theorem w_N_reading : ai_CW i_N_reading := ⟨(tk_mem (l := [((Jvm.Cond.code ({ cls := "SuiteBenchModel", name := "reading", desc := "(I)I" } : Jvm.MethodName) prog_14_method_14_code (2 : Nat) (Option.some Jvm.ClassFile.FieldType.int)), 8, 165)]) (by decide +kernel) _ (List.mem_singleton.mpr rfl)), (tk_mem (l := [((Jvm.Cond.initialized "SuiteBenchModel"), 1, 15)]) (by decide +kernel) _ (List.mem_singleton.mpr rfl)), ⟨by decide +kernel, by decide +kernel, by decide +kernel⟩, ⟨(tk_mem (l := [((Jvm.Cond.instanceMethod ({ cls := "SuiteBenchModel", name := "reading", desc := "(I)I" } : Jvm.MethodName)), 8, 164)]) (by decide +kernel) _ (List.mem_singleton.mpr rfl)), gw_sel 85 (by decide +kernel), .inl ⟨_, _, rfl⟩⟩⟩
theorem c_N_reading {E2 : (Nat → Nat) → State → Heap → Prop} (hE : ai_XH E2) : ai_S E2 i_N_reading f_N_reading := snd_M (by decide) rfl (by decide) a_N_reading kc_N_ok (by rfl) (by decide) (fun a i h => by simp [cal_N_reading, ai_nth] at h)
def k_N_wrong : ai_C := [
  [(0, .aload_n 0, 1, 0, 0, 0, 0, 0, []), (1, .getfield 195, 3, 12, 16, 82, 0, 16, []), (4, .ifCond .eq 4, 3, 8, 0, 0, 0, 0, []), (7, .return_, 1, 0, 0, 0, 0, 0, []), (8, .aload_n 0, 1, 0, 0, 0, 0, 0, []), (9, .iload_n 1, 1, 1, 0, 0, 0, 0, []), (10, .putfield 195, 3, 12, 16, 82, 0, 16, []), (13, .aload_n 0, 1, 0, 0, 0, 0, 0, []), (14, .aload_n 0, 1, 0, 0, 0, 0, 0, []), (15, .getfield 161, 3, 12, 13, 73, 0, 13, [])],
  [(18, .putfield 198, 3, 12, 17, 83, 0, 17, []), (21, .return_, 1, 0, 0, 0, 0, 0, [])]]
def i_N_wrong : ai_I := ((⟨"SuiteBenchModel", "wrong", "(I)V"⟩, prog_14_method_10_code, 2, none, 9, 0, 0, 0, 1, 0, 12) : ai_I)
def o_N_wrong (_ : Nat) : SP := fun _ _ _ _ _ => False
theorem mo_N_wrong : ∀ a, ai_mono (o_N_wrong a) := fun _ _ _ _ _ _ _ _ h => h
def f_N_wrong : SP := ai_M o_N_wrong 0 2 k_N_wrong
theorem mf_N_wrong : ai_mono f_N_wrong := M_mono mo_N_wrong
abbrev cal_N_wrong : List ai_I := []
theorem a_N_wrong : ai_all "SuiteBenchModel" prog_14_method_10_code 2 kc_N cal_N_wrong 0 0 false none k_N_wrong = true := by decide +kernel
theorem w_N_wrong : ai_CW i_N_wrong := ⟨(tk_mem (l := [((Jvm.Cond.code ({ cls := "SuiteBenchModel", name := "wrong", desc := "(I)V" } : Jvm.MethodName) prog_14_method_10_code (2 : Nat) (Option.none : Option Jvm.ClassFile.FieldType)), 8, 169)]) (by decide +kernel) _ (List.mem_singleton.mpr rfl)), (tk_mem (l := [((Jvm.Cond.initialized "SuiteBenchModel"), 1, 15)]) (by decide +kernel) _ (List.mem_singleton.mpr rfl)), ⟨by decide +kernel, by decide +kernel, by decide +kernel⟩, ⟨(tk_mem (l := [((Jvm.Cond.instanceMethod ({ cls := "SuiteBenchModel", name := "wrong", desc := "(I)V" } : Jvm.MethodName)), 8, 168)]) (by decide +kernel) _ (List.mem_singleton.mpr rfl)), gw_sel 86 (by decide +kernel), .inl ⟨_, _, rfl⟩⟩⟩
theorem c_N_wrong {E2 : (Nat → Nat) → State → Heap → Prop} (hE : ai_XH E2) : ai_S E2 i_N_wrong f_N_wrong := snd_M (by decide) rfl (by decide) a_N_wrong kc_N_ok (by rfl) (by decide) (fun a i h => by simp [cal_N_wrong, ai_nth] at h)
def k_N_goOn : ai_C := [
  [(0, .aload_n 0, 1, 0, 0, 0, 0, 0, []), (1, .getfield 195, 3, 12, 16, 82, 0, 16, []), (4, .ifCond .ne 7, 3, 11, 0, 0, 0, 0, []), (7, .aload_n 0, 1, 0, 0, 0, 0, 0, []), (8, .invokevirtual 201, 3, 0, 1, 84, 9, 0, [(0, 12)]), (11, .return_, 1, 0, 0, 0, 0, 0, [])]]
def i_N_goOn : ai_I := ((⟨"SuiteBenchModel", "goOn", "()V"⟩, prog_14_method_12_code, 1, none, 9, 9, 265, 0, 0, 0, 12) : ai_I)
def o_N_goOn (a : Nat) : SP := match a with
  | 0 => f_N_token
  | _ => fun _ _ _ _ _ => False
theorem mo_N_goOn : ∀ a, ai_mono (o_N_goOn a)
  | 0 => mf_N_token
  | _ + 1 => fun _ _ _ _ _ _ _ h => h
def f_N_goOn : SP := ai_M o_N_goOn 0 1 k_N_goOn
theorem mf_N_goOn : ai_mono f_N_goOn := M_mono mo_N_goOn
abbrev cal_N_goOn : List ai_I := [i_N_token]
theorem a_N_goOn : ai_all "SuiteBenchModel" prog_14_method_12_code 1 kc_N cal_N_goOn 9 265 false none k_N_goOn = true := by decide +kernel
theorem w_N_goOn : ai_CW i_N_goOn := ⟨(tk_mem (l := [((Jvm.Cond.code ({ cls := "SuiteBenchModel", name := "goOn", desc := "()V" } : Jvm.MethodName) prog_14_method_12_code (1 : Nat) (Option.none : Option Jvm.ClassFile.FieldType)), 8, 173)]) (by decide +kernel) _ (List.mem_singleton.mpr rfl)), (tk_mem (l := [((Jvm.Cond.initialized "SuiteBenchModel"), 1, 15)]) (by decide +kernel) _ (List.mem_singleton.mpr rfl)), ⟨by decide +kernel, by decide +kernel, by decide +kernel⟩, ⟨(tk_mem (l := [((Jvm.Cond.instanceMethod ({ cls := "SuiteBenchModel", name := "goOn", desc := "()V" } : Jvm.MethodName)), 8, 172)]) (by decide +kernel) _ (List.mem_singleton.mpr rfl)), gw_sel 87 (by decide +kernel), .inl ⟨_, _, rfl⟩⟩⟩
theorem c_N_goOn {E2 : (Nat → Nat) → State → Heap → Prop} (hE : ai_XH E2) : ai_S E2 i_N_goOn f_N_goOn := snd_M (by decide) rfl (by decide) a_N_goOn kc_N_ok (by rfl) (by decide) (fun a i h => match a, h with
    | 0, h => by cases h; exact ⟨c_N_token hE, w_N_token⟩
    | _ + 1, h => by simp [cal_N_goOn, ai_nth] at h)
def k_N_readPlaces : ai_C := [
  [(0, .aload_n 0, 1, 0, 0, 0, 0, 0, []), (1, .iconst 0, 1, 0, 0, 0, 0, 0, []), (2, .invokevirtual 211, 3, 0, 2, 85, 0, 0, [(0, 12)]), (5, .aload_n 0, 1, 0, 0, 0, 0, 0, []), (6, .iconst 2, 1, 0, 0, 0, 0, 2, []), (7, .invokevirtual 211, 3, 0, 2, 85, 0, 0, [(0, 12)]), (10, .iadd, 1, 0, 0, 0, 0, 0, []), (11, .ireturn, 1, 0, 0, 0, 0, 0, [])]]
def i_N_readPlaces : ai_I := ((⟨"SuiteBenchModel", "readPlaces", "()I"⟩, prog_14_method_15_code, 1, (some .int), 0, 1, 21, 0, 0, 0, 12) : ai_I)
def o_N_readPlaces (a : Nat) : SP := match a with
  | 0 => f_N_reading
  | _ => fun _ _ _ _ _ => False
theorem mo_N_readPlaces : ∀ a, ai_mono (o_N_readPlaces a)
  | 0 => mf_N_reading
  | _ + 1 => fun _ _ _ _ _ _ _ h => h
def f_N_readPlaces : SP := ai_M o_N_readPlaces 0 1 k_N_readPlaces
theorem mf_N_readPlaces : ai_mono f_N_readPlaces := M_mono mo_N_readPlaces
abbrev cal_N_readPlaces : List ai_I := [i_N_reading]
theorem a_N_readPlaces : ai_all "SuiteBenchModel" prog_14_method_15_code 1 kc_N cal_N_readPlaces 1 21 false (some .int) k_N_readPlaces = true := by decide +kernel
theorem w_N_readPlaces : ai_CW i_N_readPlaces := ⟨(tk_mem (l := [((Jvm.Cond.code ({ cls := "SuiteBenchModel", name := "readPlaces", desc := "()I" } : Jvm.MethodName) prog_14_method_15_code (1 : Nat) (Option.some Jvm.ClassFile.FieldType.int)), 8, 181)]) (by decide +kernel) _ (List.mem_singleton.mpr rfl)), (tk_mem (l := [((Jvm.Cond.initialized "SuiteBenchModel"), 1, 15)]) (by decide +kernel) _ (List.mem_singleton.mpr rfl)), ⟨by decide +kernel, by decide +kernel, by decide +kernel⟩, ⟨(tk_mem (l := [((Jvm.Cond.instanceMethod ({ cls := "SuiteBenchModel", name := "readPlaces", desc := "()I" } : Jvm.MethodName)), 8, 180)]) (by decide +kernel) _ (List.mem_singleton.mpr rfl)), gw_sel 89 (by decide +kernel), .inl ⟨_, _, rfl⟩⟩⟩
theorem c_N_readPlaces {E2 : (Nat → Nat) → State → Heap → Prop} (hE : ai_XH E2) : ai_S E2 i_N_readPlaces f_N_readPlaces := snd_M (by decide) rfl (by decide) a_N_readPlaces kc_N_ok (by rfl) (by decide) (fun a i h => match a, h with
    | 0, h => by cases h; exact ⟨c_N_reading hE, w_N_reading⟩
    | _ + 1, h => by simp [cal_N_readPlaces, ai_nth] at h)
def k_N_found : ai_C := [
  [(0, .iconst 0, 1, 0, 0, 0, 0, 0, []), (1, .istore 4, 2, 4, 0, 0, 0, 0, []), (3, .iload 4, 2, 4, 0, 0, 0, 0, []), (5, .iload_n 2, 1, 2, 0, 0, 0, 0, []), (6, .if_icmp .ge 22, 3, 28, 0, 0, 0, 0, []), (9, .aload_n 0, 1, 0, 0, 0, 0, 0, []), (10, .iload_n 1, 1, 1, 0, 0, 0, 0, []), (11, .iload 4, 2, 4, 0, 0, 0, 0, []), (13, .iadd, 1, 0, 0, 0, 0, 0, []), (14, .iaload, 1, 0, 0, 0, 0, 0, []), (15, .iload_n 3, 1, 3, 0, 0, 0, 0, [])],
  [(16, .if_icmp .ne 6, 3, 22, 0, 0, 0, 0, []), (19, .iload 4, 2, 4, 0, 0, 0, 0, []), (21, .ireturn, 1, 0, 0, 0, 0, 0, []), (22, .iinc 4 1, 3, 4, 0, 0, 0, 1, []), (25, .goto (-22), 3, 3, 0, 0, 0, 0, []), (28, .iconst (-1), 1, 0, 0, 0, 0, (-1), []), (29, .ireturn, 1, 0, 0, 0, 0, 0, [])]]
def i_N_found : ai_I := ((⟨"SuiteBenchModel", "found", "([IIII)I"⟩, prog_14_method_16_code, 5, (some .int), 0, 0, 0, 0, 4, 1, 12) : ai_I)
def o_N_found (_ : Nat) : SP := fun _ _ _ _ _ => False
theorem mo_N_found : ∀ a, ai_mono (o_N_found a) := fun _ _ _ _ _ _ _ _ h => h
def f_N_found : SP := ai_M o_N_found 0 5 k_N_found
theorem mf_N_found : ai_mono f_N_found := M_mono mo_N_found
abbrev cal_N_found : List ai_I := []
theorem a_N_found : ai_all "SuiteBenchModel" prog_14_method_16_code 5 kc_N cal_N_found 0 0 false (some .int) k_N_found = true := by decide +kernel
theorem w_N_found : ai_CW i_N_found := ⟨(tk_mem (l := [((Jvm.Cond.code ({ cls := "SuiteBenchModel", name := "found", desc := "([IIII)I" } : Jvm.MethodName) prog_14_method_16_code (5 : Nat) (Option.some Jvm.ClassFile.FieldType.int)), 8, 184)]) (by decide +kernel) _ (List.mem_singleton.mpr rfl)), (tk_mem (l := [((Jvm.Cond.initialized "SuiteBenchModel"), 1, 15)]) (by decide +kernel) _ (List.mem_singleton.mpr rfl)), ⟨by decide +kernel, by decide +kernel, by decide +kernel⟩, (tk_mem (l := [((Jvm.Cond.static ({ cls := "SuiteBenchModel", name := "found", desc := "([IIII)I" } : Jvm.MethodName)), 8, 183)]) (by decide +kernel) _ (List.mem_singleton.mpr rfl))⟩
theorem c_N_found {E2 : (Nat → Nat) → State → Heap → Prop} (hE : ai_XH E2) : ai_S E2 i_N_found f_N_found := snd_M (by decide) rfl (by decide) a_N_found kc_N_ok (by rfl) (by decide) (fun a i h => by simp [cal_N_found, ai_nth] at h)
def k_N_fresh : ai_C := [
  [(0, .aload_n 0, 1, 0, 0, 0, 0, 0, []), (1, .getfield 195, 3, 12, 16, 82, 0, 16, []), (4, .ifCond .eq 5, 3, 9, 0, 0, 0, 0, []), (7, .iconst 0, 1, 0, 0, 0, 0, 0, []), (8, .ireturn, 1, 0, 0, 0, 0, 0, []), (9, .aload_n 0, 1, 0, 0, 0, 0, 0, []), (10, .getfield 164, 3, 12, 14, 76, 0, 14, []), (13, .iconst 1, 1, 0, 0, 0, 0, 1, []), (14, .if_icmp .eq 11, 3, 25, 0, 0, 0, 0, [])],
  [(17, .aload_n 0, 1, 0, 0, 0, 0, 0, []), (18, .iconst 1, 1, 0, 0, 0, 0, 1, []), (19, .invokevirtual 204, 3, 0, 2, 86, 9, 0, [(0, 12)]), (22, .goto 50, 3, 72, 0, 0, 0, 0, []), (25, .aload_n 0, 1, 0, 0, 0, 0, 0, []), (26, .getfield 16, 3, 12, 4, 42, 2, 4, []), (29, .bipush 8, 2, 0, 0, 0, 0, 8, []), (31, .aload_n 0, 1, 0, 0, 0, 0, 0, [])],
  [(32, .invokevirtual 215, 3, 1, 1, 87, 0, 0, [(0, 12)]), (35, .aload_n 0, 1, 0, 0, 0, 0, 0, []), (36, .getfield 174, 3, 12, 15, 74, 0, 15, []), (39, .invokestatic 218, 3, 2, 4, 88, 0, 0, [(0, 12)]), (42, .iconst (-1), 1, 0, 0, 0, 0, (-1), []), (43, .if_icmp .ne 24, 3, 67, 0, 0, 0, 0, []), (46, .aload_n 0, 1, 0, 0, 0, 0, 0, []), (47, .getfield 19, 3, 12, 5, 43, 2, 5, [])],
  [(50, .iconst 3, 1, 0, 0, 0, 0, 3, []), (51, .aload_n 0, 1, 0, 0, 0, 0, 0, []), (52, .iconst 1, 1, 0, 0, 0, 0, 1, []), (53, .invokevirtual 211, 3, 3, 2, 85, 0, 0, [(0, 12)]), (56, .aload_n 0, 1, 0, 0, 0, 0, 0, []), (57, .getfield 174, 3, 12, 15, 74, 0, 15, []), (60, .invokestatic 218, 3, 2, 4, 88, 0, 0, [(0, 12)]), (63, .iconst (-1), 1, 0, 0, 0, 0, (-1), [])],
  [(64, .if_icmp .eq 8, 3, 72, 0, 0, 0, 0, []), (67, .aload_n 0, 1, 0, 0, 0, 0, 0, []), (68, .iconst 3, 1, 0, 0, 0, 0, 3, []), (69, .invokevirtual 204, 3, 0, 2, 86, 9, 0, [(0, 12)]), (72, .aload_n 0, 1, 0, 0, 0, 0, 0, []), (73, .getfield 195, 3, 12, 16, 82, 0, 16, []), (76, .ifCond .ne 10, 3, 86, 0, 0, 0, 0, []), (79, .aload_n 0, 1, 0, 0, 0, 0, 0, [])],
  [(80, .getfield 174, 3, 12, 15, 74, 0, 15, []), (83, .goto 4, 3, 87, 0, 0, 0, 0, []), (86, .iconst 0, 1, 0, 0, 0, 0, 0, []), (87, .istore_n 1, 1, 1, 0, 0, 0, 0, []), (88, .aload_n 0, 1, 0, 0, 0, 0, 0, []), (89, .invokevirtual 208, 3, 4, 1, 89, 9, 0, [(0, 12)]), (92, .iload_n 1, 1, 1, 0, 0, 0, 0, []), (93, .ireturn, 1, 0, 0, 0, 0, 0, [])]]
def i_N_fresh : ai_I := ((⟨"SuiteBenchModel", "fresh", "()I"⟩, prog_14_method_17_code, 2, (some .int), 0, 10, 285, 0, 0, 0, 12) : ai_I)
def o_N_fresh (a : Nat) : SP := match a with
  | 0 => f_N_wrong
  | 1 => f_N_readPlaces
  | 2 => f_N_found
  | 3 => f_N_reading
  | 4 => f_N_goOn
  | _ => fun _ _ _ _ _ => False
theorem mo_N_fresh : ∀ a, ai_mono (o_N_fresh a)
  | 0 => mf_N_wrong
  | 1 => mf_N_readPlaces
  | 2 => mf_N_found
  | 3 => mf_N_reading
  | 4 => mf_N_goOn
  | _ + 5 => fun _ _ _ _ _ _ _ h => h
def f_N_fresh : SP := ai_M o_N_fresh 0 2 k_N_fresh
theorem mf_N_fresh : ai_mono f_N_fresh := M_mono mo_N_fresh
abbrev cal_N_fresh : List ai_I := [i_N_wrong, i_N_readPlaces, i_N_found, i_N_reading, i_N_goOn]
theorem a_N_fresh : ai_all "SuiteBenchModel" prog_14_method_17_code 2 kc_N cal_N_fresh 10 285 false (some .int) k_N_fresh = true := by decide +kernel
theorem w_N_fresh : ai_CW i_N_fresh := ⟨(tk_mem (l := [((Jvm.Cond.code ({ cls := "SuiteBenchModel", name := "fresh", desc := "()I" } : Jvm.MethodName) prog_14_method_17_code (2 : Nat) (Option.some Jvm.ClassFile.FieldType.int)), 8, 177)]) (by decide +kernel) _ (List.mem_singleton.mpr rfl)), (tk_mem (l := [((Jvm.Cond.initialized "SuiteBenchModel"), 1, 15)]) (by decide +kernel) _ (List.mem_singleton.mpr rfl)), ⟨by decide +kernel, by decide +kernel, by decide +kernel⟩, ⟨(tk_mem (l := [((Jvm.Cond.instanceMethod ({ cls := "SuiteBenchModel", name := "fresh", desc := "()I" } : Jvm.MethodName)), 8, 176)]) (by decide +kernel) _ (List.mem_singleton.mpr rfl)), gw_sel 88 (by decide +kernel), .inl ⟨_, _, rfl⟩⟩⟩
theorem c_N_fresh {E2 : (Nat → Nat) → State → Heap → Prop} (hE : ai_XH E2) : ai_S E2 i_N_fresh f_N_fresh := snd_M (by decide) rfl (by decide) a_N_fresh kc_N_ok (by rfl) (by decide) (fun a i h => match a, h with
    | 0, h => by cases h; exact ⟨c_N_wrong hE, w_N_wrong⟩
    | 1, h => by cases h; exact ⟨c_N_readPlaces hE, w_N_readPlaces⟩
    | 2, h => by cases h; exact ⟨c_N_found hE, w_N_found⟩
    | 3, h => by cases h; exact ⟨c_N_reading hE, w_N_reading⟩
    | 4, h => by cases h; exact ⟨c_N_goOn hE, w_N_goOn⟩
    | _ + 5, h => by simp [cal_N_fresh, ai_nth] at h)
def k_N_readState : ai_C := [
  [(0, .aload_n 0, 1, 0, 0, 0, 0, 0, []), (1, .iconst 2, 1, 0, 0, 0, 0, 2, []), (2, .invokevirtual 211, 3, 0, 2, 85, 0, 0, [(0, 12)]), (5, .ifCond .le 11, 3, 16, 0, 0, 0, 0, []), (8, .aload_n 0, 1, 0, 0, 0, 0, 0, []), (9, .iconst 1, 1, 0, 0, 0, 0, 1, []), (10, .invokevirtual 204, 3, 1, 2, 86, 9, 0, [(0, 12)]), (13, .goto 18, 3, 31, 0, 0, 0, 0, [])],
  [(16, .aload_n 0, 1, 0, 0, 0, 0, 0, []), (17, .iconst 0, 1, 0, 0, 0, 0, 0, []), (18, .invokevirtual 211, 3, 0, 2, 85, 0, 0, [(0, 12)]), (21, .bipush 6, 2, 0, 0, 0, 0, 6, []), (23, .if_icmp .ne 8, 3, 31, 0, 0, 0, 0, []), (26, .aload_n 0, 1, 0, 0, 0, 0, 0, []), (27, .iconst 2, 1, 0, 0, 0, 0, 2, []), (28, .invokevirtual 204, 3, 1, 2, 86, 9, 0, [(0, 12)]), (31, .aload_n 0, 1, 0, 0, 0, 0, 0, [])],
  [(32, .invokevirtual 208, 3, 2, 1, 89, 9, 0, [(0, 12)]), (35, .aload_n 0, 1, 0, 0, 0, 0, 0, []), (36, .invokevirtual 221, 3, 3, 1, 90, 0, 0, [(0, 12)]), (39, .istore_n 1, 1, 1, 0, 0, 0, 0, []), (40, .aload_n 0, 1, 0, 0, 0, 0, 0, []), (41, .getfield 195, 3, 12, 16, 82, 0, 16, []), (44, .ifCond .eq 4, 3, 48, 0, 0, 0, 0, []), (47, .return_, 1, 0, 0, 0, 0, 0, [])],
  [(48, .aload_n 0, 1, 0, 0, 0, 0, 0, []), (49, .getfield 16, 3, 12, 4, 42, 2, 4, []), (52, .bipush 8, 2, 0, 0, 0, 0, 8, []), (54, .aload_n 0, 1, 0, 0, 0, 0, 0, []), (55, .invokevirtual 215, 3, 4, 1, 87, 0, 0, [(0, 12)]), (58, .iadd, 1, 0, 0, 0, 0, 0, []), (59, .iload_n 1, 1, 1, 0, 0, 0, 0, []), (60, .iastore, 1, 0, 0, 0, 0, 0, []), (61, .aload_n 0, 1, 0, 0, 0, 0, 0, []), (62, .getfield 13, 3, 12, 3, 0, 2, 3, [])],
  [(65, .iconst 5, 1, 0, 0, 0, 0, 5, []), (66, .dup2, 1, 0, 0, 0, 0, 0, []), (67, .iaload, 1, 0, 0, 0, 0, 0, []), (68, .iconst 1, 1, 0, 0, 0, 0, 1, []), (69, .iadd, 1, 0, 0, 0, 0, 0, []), (70, .iastore, 1, 0, 0, 0, 0, 0, []), (71, .return_, 1, 0, 0, 0, 0, 0, [])]]
def i_N_readState : ai_I := ((⟨"SuiteBenchModel", "readState", "()V"⟩, prog_14_method_19_code, 2, none, 9, 11, 306, 0, 0, 0, 12) : ai_I)
def o_N_readState (a : Nat) : SP := match a with
  | 0 => f_N_reading
  | 1 => f_N_wrong
  | 2 => f_N_goOn
  | 3 => f_N_fresh
  | 4 => f_N_readPlaces
  | _ => fun _ _ _ _ _ => False
theorem mo_N_readState : ∀ a, ai_mono (o_N_readState a)
  | 0 => mf_N_reading
  | 1 => mf_N_wrong
  | 2 => mf_N_goOn
  | 3 => mf_N_fresh
  | 4 => mf_N_readPlaces
  | _ + 5 => fun _ _ _ _ _ _ _ h => h
def f_N_readState : SP := ai_M o_N_readState 0 2 k_N_readState
theorem mf_N_readState : ai_mono f_N_readState := M_mono mo_N_readState
abbrev cal_N_readState : List ai_I := [i_N_reading, i_N_wrong, i_N_goOn, i_N_fresh, i_N_readPlaces]
theorem a_N_readState : ai_all "SuiteBenchModel" prog_14_method_19_code 2 kc_N cal_N_readState 11 306 false none k_N_readState = true := by decide +kernel
theorem w_N_readState : ai_CW i_N_readState := ⟨(tk_mem (l := [((Jvm.Cond.code ({ cls := "SuiteBenchModel", name := "readState", desc := "()V" } : Jvm.MethodName) prog_14_method_19_code (2 : Nat) (Option.none : Option Jvm.ClassFile.FieldType)), 8, 161)]) (by decide +kernel) _ (List.mem_singleton.mpr rfl)), (tk_mem (l := [((Jvm.Cond.initialized "SuiteBenchModel"), 1, 15)]) (by decide +kernel) _ (List.mem_singleton.mpr rfl)), ⟨by decide +kernel, by decide +kernel, by decide +kernel⟩, ⟨(tk_mem (l := [((Jvm.Cond.instanceMethod ({ cls := "SuiteBenchModel", name := "readState", desc := "()V" } : Jvm.MethodName)), 8, 160)]) (by decide +kernel) _ (List.mem_singleton.mpr rfl)), gw_sel 84 (by decide +kernel), .inl ⟨_, _, rfl⟩⟩⟩
theorem c_N_readState {E2 : (Nat → Nat) → State → Heap → Prop} (hE : ai_XH E2) : ai_S E2 i_N_readState f_N_readState := snd_M (by decide) rfl (by decide) a_N_readState kc_N_ok (by rfl) (by decide) (fun a i h => match a, h with
    | 0, h => by cases h; exact ⟨c_N_reading hE, w_N_reading⟩
    | 1, h => by cases h; exact ⟨c_N_wrong hE, w_N_wrong⟩
    | 2, h => by cases h; exact ⟨c_N_goOn hE, w_N_goOn⟩
    | 3, h => by cases h; exact ⟨c_N_fresh hE, w_N_fresh⟩
    | 4, h => by cases h; exact ⟨c_N_readPlaces hE, w_N_readPlaces⟩
    | _ + 5, h => by simp [cal_N_readState, ai_nth] at h)
def k_N_readInput : ai_C := [
  [(0, .aload_n 0, 1, 0, 0, 0, 0, 0, []), (1, .iconst 1, 1, 0, 0, 0, 0, 1, []), (2, .invokevirtual 211, 3, 0, 2, 85, 0, 0, [(0, 12)]), (5, .iconst 3, 1, 0, 0, 0, 0, 3, []), (6, .if_icmp .ne 8, 3, 14, 0, 0, 0, 0, []), (9, .aload_n 0, 1, 0, 0, 0, 0, 0, []), (10, .iconst 2, 1, 0, 0, 0, 0, 2, []), (11, .invokevirtual 204, 3, 1, 2, 86, 9, 0, [(0, 12)]), (14, .aload_n 0, 1, 0, 0, 0, 0, 0, []), (15, .invokevirtual 208, 3, 2, 1, 89, 9, 0, [(0, 12)])],
  [(18, .aload_n 0, 1, 0, 0, 0, 0, 0, []), (19, .invokevirtual 221, 3, 3, 1, 90, 0, 0, [(0, 12)]), (22, .istore_n 1, 1, 1, 0, 0, 0, 0, []), (23, .aload_n 0, 1, 0, 0, 0, 0, 0, []), (24, .getfield 195, 3, 12, 16, 82, 0, 16, []), (27, .ifCond .eq 4, 3, 31, 0, 0, 0, 0, []), (30, .return_, 1, 0, 0, 0, 0, 0, []), (31, .aload_n 0, 1, 0, 0, 0, 0, 0, [])],
  [(32, .getfield 19, 3, 12, 5, 43, 2, 5, []), (35, .iconst 3, 1, 0, 0, 0, 0, 3, []), (36, .aload_n 0, 1, 0, 0, 0, 0, 0, []), (37, .iconst 1, 1, 0, 0, 0, 0, 1, []), (38, .invokevirtual 211, 3, 0, 2, 85, 0, 0, [(0, 12)]), (41, .iadd, 1, 0, 0, 0, 0, 0, []), (42, .iload_n 1, 1, 1, 0, 0, 0, 0, []), (43, .iastore, 1, 0, 0, 0, 0, 0, []), (44, .aload_n 0, 1, 0, 0, 0, 0, 0, []), (45, .getfield 13, 3, 12, 3, 0, 2, 3, [])],
  [(48, .bipush 6, 2, 0, 0, 0, 0, 6, []), (50, .dup2, 1, 0, 0, 0, 0, 0, []), (51, .iaload, 1, 0, 0, 0, 0, 0, []), (52, .iconst 1, 1, 0, 0, 0, 0, 1, []), (53, .iadd, 1, 0, 0, 0, 0, 0, []), (54, .iastore, 1, 0, 0, 0, 0, 0, []), (55, .return_, 1, 0, 0, 0, 0, 0, [])]]
def i_N_readInput : ai_I := ((⟨"SuiteBenchModel", "readInput", "()V"⟩, prog_14_method_20_code, 2, none, 9, 11, 306, 0, 0, 0, 12) : ai_I)
def o_N_readInput (a : Nat) : SP := match a with
  | 0 => f_N_reading
  | 1 => f_N_wrong
  | 2 => f_N_goOn
  | 3 => f_N_fresh
  | _ => fun _ _ _ _ _ => False
theorem mo_N_readInput : ∀ a, ai_mono (o_N_readInput a)
  | 0 => mf_N_reading
  | 1 => mf_N_wrong
  | 2 => mf_N_goOn
  | 3 => mf_N_fresh
  | _ + 4 => fun _ _ _ _ _ _ _ h => h
def f_N_readInput : SP := ai_M o_N_readInput 0 2 k_N_readInput
theorem mf_N_readInput : ai_mono f_N_readInput := M_mono mo_N_readInput
abbrev cal_N_readInput : List ai_I := [i_N_reading, i_N_wrong, i_N_goOn, i_N_fresh]
theorem a_N_readInput : ai_all "SuiteBenchModel" prog_14_method_20_code 2 kc_N cal_N_readInput 11 306 false none k_N_readInput = true := by decide +kernel
theorem w_N_readInput : ai_CW i_N_readInput := ⟨(tk_mem (l := [((Jvm.Cond.code ({ cls := "SuiteBenchModel", name := "readInput", desc := "()V" } : Jvm.MethodName) prog_14_method_20_code (2 : Nat) (Option.none : Option Jvm.ClassFile.FieldType)), 8, 188)]) (by decide +kernel) _ (List.mem_singleton.mpr rfl)), (tk_mem (l := [((Jvm.Cond.initialized "SuiteBenchModel"), 1, 15)]) (by decide +kernel) _ (List.mem_singleton.mpr rfl)), ⟨by decide +kernel, by decide +kernel, by decide +kernel⟩, ⟨(tk_mem (l := [((Jvm.Cond.instanceMethod ({ cls := "SuiteBenchModel", name := "readInput", desc := "()V" } : Jvm.MethodName)), 8, 187)]) (by decide +kernel) _ (List.mem_singleton.mpr rfl)), gw_sel 90 (by decide +kernel), .inl ⟨_, _, rfl⟩⟩⟩
theorem c_N_readInput {E2 : (Nat → Nat) → State → Heap → Prop} (hE : ai_XH E2) : ai_S E2 i_N_readInput f_N_readInput := snd_M (by decide) rfl (by decide) a_N_readInput kc_N_ok (by rfl) (by decide) (fun a i h => match a, h with
    | 0, h => by cases h; exact ⟨c_N_reading hE, w_N_reading⟩
    | 1, h => by cases h; exact ⟨c_N_wrong hE, w_N_wrong⟩
    | 2, h => by cases h; exact ⟨c_N_goOn hE, w_N_goOn⟩
    | 3, h => by cases h; exact ⟨c_N_fresh hE, w_N_fresh⟩
    | _ + 4, h => by simp [cal_N_readInput, ai_nth] at h)
def k_N_readMore : ai_C := [
  [(0, .aload_n 0, 1, 0, 0, 0, 0, 0, []), (1, .iconst 0, 1, 0, 0, 0, 0, 0, []), (2, .invokevirtual 211, 3, 0, 2, 85, 0, 0, [(0, 12)]), (5, .ifCond .ne 11, 3, 16, 0, 0, 0, 0, []), (8, .aload_n 0, 1, 0, 0, 0, 0, 0, []), (9, .iconst 1, 1, 0, 0, 0, 0, 1, []), (10, .invokevirtual 204, 3, 1, 2, 86, 9, 0, [(0, 12)]), (13, .goto 17, 3, 30, 0, 0, 0, 0, [])],
  [(16, .aload_n 0, 1, 0, 0, 0, 0, 0, []), (17, .iconst 2, 1, 0, 0, 0, 0, 2, []), (18, .invokevirtual 211, 3, 0, 2, 85, 0, 0, [(0, 12)]), (21, .iconst 2, 1, 0, 0, 0, 0, 2, []), (22, .if_icmp .ne 8, 3, 30, 0, 0, 0, 0, []), (25, .aload_n 0, 1, 0, 0, 0, 0, 0, []), (26, .iconst 2, 1, 0, 0, 0, 0, 2, []), (27, .invokevirtual 204, 3, 1, 2, 86, 9, 0, [(0, 12)]), (30, .aload_n 0, 1, 0, 0, 0, 0, 0, []), (31, .invokevirtual 208, 3, 2, 1, 89, 9, 0, [(0, 12)])],
  [(34, .aload_n 0, 1, 0, 0, 0, 0, 0, []), (35, .invokevirtual 221, 3, 3, 1, 90, 0, 0, [(0, 12)]), (38, .istore_n 1, 1, 1, 0, 0, 0, 0, []), (39, .aload_n 0, 1, 0, 0, 0, 0, 0, []), (40, .getfield 195, 3, 12, 16, 82, 0, 16, []), (43, .ifCond .eq 4, 3, 47, 0, 0, 0, 0, []), (46, .return_, 1, 0, 0, 0, 0, 0, []), (47, .aload_n 0, 1, 0, 0, 0, 0, 0, [])],
  [(48, .getfield 16, 3, 12, 4, 42, 2, 4, []), (51, .bipush 8, 2, 0, 0, 0, 0, 8, []), (53, .aload_n 0, 1, 0, 0, 0, 0, 0, []), (54, .invokevirtual 215, 3, 4, 1, 87, 0, 0, [(0, 12)]), (57, .iadd, 1, 0, 0, 0, 0, 0, []), (58, .iload_n 1, 1, 1, 0, 0, 0, 0, []), (59, .iastore, 1, 0, 0, 0, 0, 0, []), (60, .aload_n 0, 1, 0, 0, 0, 0, 0, []), (61, .getfield 13, 3, 12, 3, 0, 2, 3, [])],
  [(64, .bipush 7, 2, 0, 0, 0, 0, 7, []), (66, .dup2, 1, 0, 0, 0, 0, 0, []), (67, .iaload, 1, 0, 0, 0, 0, 0, []), (68, .iconst 1, 1, 0, 0, 0, 0, 1, []), (69, .iadd, 1, 0, 0, 0, 0, 0, []), (70, .iastore, 1, 0, 0, 0, 0, 0, []), (71, .return_, 1, 0, 0, 0, 0, 0, [])]]
def i_N_readMore : ai_I := ((⟨"SuiteBenchModel", "readMore", "()V"⟩, prog_14_method_21_code, 2, none, 9, 11, 306, 0, 0, 0, 12) : ai_I)
def o_N_readMore (a : Nat) : SP := match a with
  | 0 => f_N_reading
  | 1 => f_N_wrong
  | 2 => f_N_goOn
  | 3 => f_N_fresh
  | 4 => f_N_readPlaces
  | _ => fun _ _ _ _ _ => False
theorem mo_N_readMore : ∀ a, ai_mono (o_N_readMore a)
  | 0 => mf_N_reading
  | 1 => mf_N_wrong
  | 2 => mf_N_goOn
  | 3 => mf_N_fresh
  | 4 => mf_N_readPlaces
  | _ + 5 => fun _ _ _ _ _ _ _ h => h
def f_N_readMore : SP := ai_M o_N_readMore 0 2 k_N_readMore
theorem mf_N_readMore : ai_mono f_N_readMore := M_mono mo_N_readMore
abbrev cal_N_readMore : List ai_I := [i_N_reading, i_N_wrong, i_N_goOn, i_N_fresh, i_N_readPlaces]
theorem a_N_readMore : ai_all "SuiteBenchModel" prog_14_method_21_code 2 kc_N cal_N_readMore 11 306 false none k_N_readMore = true := by decide +kernel
theorem w_N_readMore : ai_CW i_N_readMore := ⟨(tk_mem (l := [((Jvm.Cond.code ({ cls := "SuiteBenchModel", name := "readMore", desc := "()V" } : Jvm.MethodName) prog_14_method_21_code (2 : Nat) (Option.none : Option Jvm.ClassFile.FieldType)), 8, 192)]) (by decide +kernel) _ (List.mem_singleton.mpr rfl)), (tk_mem (l := [((Jvm.Cond.initialized "SuiteBenchModel"), 1, 15)]) (by decide +kernel) _ (List.mem_singleton.mpr rfl)), ⟨by decide +kernel, by decide +kernel, by decide +kernel⟩, ⟨(tk_mem (l := [((Jvm.Cond.instanceMethod ({ cls := "SuiteBenchModel", name := "readMore", desc := "()V" } : Jvm.MethodName)), 8, 191)]) (by decide +kernel) _ (List.mem_singleton.mpr rfl)), gw_sel 91 (by decide +kernel), .inl ⟨_, _, rfl⟩⟩⟩
theorem c_N_readMore {E2 : (Nat → Nat) → State → Heap → Prop} (hE : ai_XH E2) : ai_S E2 i_N_readMore f_N_readMore := snd_M (by decide) rfl (by decide) a_N_readMore kc_N_ok (by rfl) (by decide) (fun a i h => match a, h with
    | 0, h => by cases h; exact ⟨c_N_reading hE, w_N_reading⟩
    | 1, h => by cases h; exact ⟨c_N_wrong hE, w_N_wrong⟩
    | 2, h => by cases h; exact ⟨c_N_goOn hE, w_N_goOn⟩
    | 3, h => by cases h; exact ⟨c_N_fresh hE, w_N_fresh⟩
    | 4, h => by cases h; exact ⟨c_N_readPlaces hE, w_N_readPlaces⟩
    | _ + 5, h => by simp [cal_N_readMore, ai_nth] at h)
def k_N_atHand : ai_C := [
  [(0, .aload_n 0, 1, 0, 0, 0, 0, 0, []), (1, .getfield 195, 3, 12, 16, 82, 0, 16, []), (4, .ifCond .eq 5, 3, 9, 0, 0, 0, 0, []), (7, .iconst 0, 1, 0, 0, 0, 0, 0, []), (8, .ireturn, 1, 0, 0, 0, 0, 0, []), (9, .aload_n 0, 1, 0, 0, 0, 0, 0, []), (10, .getfield 164, 3, 12, 14, 76, 0, 14, []), (13, .iconst 1, 1, 0, 0, 0, 0, 1, []), (14, .if_icmp .eq 8, 3, 22, 0, 0, 0, 0, [])],
  [(17, .aload_n 0, 1, 0, 0, 0, 0, 0, []), (18, .iconst 1, 1, 0, 0, 0, 0, 1, []), (19, .invokevirtual 204, 3, 0, 2, 86, 9, 0, [(0, 12)]), (22, .aload_n 0, 1, 0, 0, 0, 0, 0, []), (23, .getfield 195, 3, 12, 16, 82, 0, 16, []), (26, .ifCond .eq 7, 3, 33, 0, 0, 0, 0, []), (29, .iconst 0, 1, 0, 0, 0, 0, 0, []), (30, .goto 37, 3, 67, 0, 0, 0, 0, [])],
  [(33, .iload_n 1, 1, 1, 0, 0, 0, 0, []), (34, .ifCond .eq 20, 3, 54, 0, 0, 0, 0, []), (37, .aload_n 0, 1, 0, 0, 0, 0, 0, []), (38, .getfield 16, 3, 12, 4, 42, 2, 4, []), (41, .bipush 8, 2, 0, 0, 0, 0, 8, []), (43, .iload_n 2, 1, 2, 0, 0, 0, 0, []), (44, .aload_n 0, 1, 0, 0, 0, 0, 0, []), (45, .getfield 174, 3, 12, 15, 74, 0, 15, [])],
  [(48, .invokestatic 218, 3, 1, 4, 88, 0, 0, [(0, 12)]), (51, .goto 16, 3, 67, 0, 0, 0, 0, []), (54, .aload_n 0, 1, 0, 0, 0, 0, 0, []), (55, .getfield 19, 3, 12, 5, 43, 2, 5, []), (58, .iconst 3, 1, 0, 0, 0, 0, 3, []), (59, .iload_n 2, 1, 2, 0, 0, 0, 0, []), (60, .aload_n 0, 1, 0, 0, 0, 0, 0, []), (61, .getfield 174, 3, 12, 15, 74, 0, 15, [])],
  [(64, .invokestatic 218, 3, 1, 4, 88, 0, 0, [(0, 12)]), (67, .istore_n 3, 1, 3, 0, 0, 0, 0, []), (68, .iload_n 3, 1, 3, 0, 0, 0, 0, []), (69, .iconst (-1), 1, 0, 0, 0, 0, (-1), []), (70, .if_icmp .ne 8, 3, 78, 0, 0, 0, 0, []), (73, .aload_n 0, 1, 0, 0, 0, 0, 0, []), (74, .iconst 4, 1, 0, 0, 0, 0, 4, []), (75, .invokevirtual 204, 3, 0, 2, 86, 9, 0, [(0, 12)]), (78, .aload_n 0, 1, 0, 0, 0, 0, 0, []), (79, .getfield 195, 3, 12, 16, 82, 0, 16, [])],
  [(82, .ifCond .ne 7, 3, 89, 0, 0, 0, 0, []), (85, .iload_n 3, 1, 3, 0, 0, 0, 0, []), (86, .goto 4, 3, 90, 0, 0, 0, 0, []), (89, .iconst 0, 1, 0, 0, 0, 0, 0, []), (90, .ireturn, 1, 0, 0, 0, 0, 0, [])]]
def i_N_atHand : ai_I := ((⟨"SuiteBenchModel", "atHand", "(ZI)I"⟩, prog_14_method_18_code, 4, (some .int), 0, 1, 24, 0, 2, 0, 12) : ai_I)
def o_N_atHand (a : Nat) : SP := match a with
  | 0 => f_N_wrong
  | 1 => f_N_found
  | _ => fun _ _ _ _ _ => False
theorem mo_N_atHand : ∀ a, ai_mono (o_N_atHand a)
  | 0 => mf_N_wrong
  | 1 => mf_N_found
  | _ + 2 => fun _ _ _ _ _ _ _ h => h
def f_N_atHand : SP := ai_M o_N_atHand 0 4 k_N_atHand
theorem mf_N_atHand : ai_mono f_N_atHand := M_mono mo_N_atHand
abbrev cal_N_atHand : List ai_I := [i_N_wrong, i_N_found]
theorem a_N_atHand : ai_all "SuiteBenchModel" prog_14_method_18_code 4 kc_N cal_N_atHand 1 24 false (some .int) k_N_atHand = true := by decide +kernel
theorem w_N_atHand : ai_CW i_N_atHand := ⟨(tk_mem (l := [((Jvm.Cond.code ({ cls := "SuiteBenchModel", name := "atHand", desc := "(ZI)I" } : Jvm.MethodName) prog_14_method_18_code (4 : Nat) (Option.some Jvm.ClassFile.FieldType.int)), 8, 200)]) (by decide +kernel) _ (List.mem_singleton.mpr rfl)), (tk_mem (l := [((Jvm.Cond.initialized "SuiteBenchModel"), 1, 15)]) (by decide +kernel) _ (List.mem_singleton.mpr rfl)), ⟨by decide +kernel, by decide +kernel, by decide +kernel⟩, ⟨(tk_mem (l := [((Jvm.Cond.instanceMethod ({ cls := "SuiteBenchModel", name := "atHand", desc := "(ZI)I" } : Jvm.MethodName)), 8, 199)]) (by decide +kernel) _ (List.mem_singleton.mpr rfl)), gw_sel 93 (by decide +kernel), .inl ⟨_, _, rfl⟩⟩⟩
theorem c_N_atHand {E2 : (Nat → Nat) → State → Heap → Prop} (hE : ai_XH E2) : ai_S E2 i_N_atHand f_N_atHand := snd_M (by decide) rfl (by decide) a_N_atHand kc_N_ok (by rfl) (by decide) (fun a i h => match a, h with
    | 0, h => by cases h; exact ⟨c_N_wrong hE, w_N_wrong⟩
    | 1, h => by cases h; exact ⟨c_N_found hE, w_N_found⟩
    | _ + 2, h => by simp [cal_N_atHand, ai_nth] at h)
def k_N_numeral : ai_C := [
  [(0, .aload_n 0, 1, 0, 0, 0, 0, 0, []), (1, .getfield 195, 3, 12, 16, 82, 0, 16, []), (4, .ifCond .eq 5, 3, 9, 0, 0, 0, 0, []), (7, .iconst 0, 1, 0, 0, 0, 0, 0, []), (8, .ireturn, 1, 0, 0, 0, 0, 0, []), (9, .aload_n 0, 1, 0, 0, 0, 0, 0, []), (10, .getfield 164, 3, 12, 14, 76, 0, 14, []), (13, .iconst 2, 1, 0, 0, 0, 0, 2, []), (14, .if_icmp .eq 11, 3, 25, 0, 0, 0, 0, [])],
  [(17, .aload_n 0, 1, 0, 0, 0, 0, 0, []), (18, .iconst 1, 1, 0, 0, 0, 0, 1, []), (19, .invokevirtual 204, 3, 0, 2, 86, 9, 0, [(0, 12)]), (22, .goto 16, 3, 38, 0, 0, 0, 0, []), (25, .aload_n 0, 1, 0, 0, 0, 0, 0, []), (26, .getfield 174, 3, 12, 15, 74, 0, 15, []), (29, .iload_n 1, 1, 1, 0, 0, 0, 0, []), (30, .if_icmp .le 8, 3, 38, 0, 0, 0, 0, [])],
  [(33, .aload_n 0, 1, 0, 0, 0, 0, 0, []), (34, .iconst 2, 1, 0, 0, 0, 0, 2, []), (35, .invokevirtual 204, 3, 0, 2, 86, 9, 0, [(0, 12)]), (38, .aload_n 0, 1, 0, 0, 0, 0, 0, []), (39, .getfield 195, 3, 12, 16, 82, 0, 16, []), (42, .ifCond .ne 10, 3, 52, 0, 0, 0, 0, []), (45, .aload_n 0, 1, 0, 0, 0, 0, 0, []), (46, .getfield 174, 3, 12, 15, 74, 0, 15, [])],
  [(49, .goto 4, 3, 53, 0, 0, 0, 0, []), (52, .iconst 0, 1, 0, 0, 0, 0, 0, []), (53, .istore_n 2, 1, 2, 0, 0, 0, 0, []), (54, .aload_n 0, 1, 0, 0, 0, 0, 0, []), (55, .invokevirtual 208, 3, 1, 1, 89, 9, 0, [(0, 12)]), (58, .iload_n 2, 1, 2, 0, 0, 0, 0, []), (59, .ireturn, 1, 0, 0, 0, 0, 0, [])]]
def i_N_numeral : ai_I := ((⟨"SuiteBenchModel", "numeral", "(I)I"⟩, prog_14_method_13_code, 3, (some .int), 0, 10, 285, 0, 1, 0, 12) : ai_I)
def o_N_numeral (a : Nat) : SP := match a with
  | 0 => f_N_wrong
  | 1 => f_N_goOn
  | _ => fun _ _ _ _ _ => False
theorem mo_N_numeral : ∀ a, ai_mono (o_N_numeral a)
  | 0 => mf_N_wrong
  | 1 => mf_N_goOn
  | _ + 2 => fun _ _ _ _ _ _ _ h => h
def f_N_numeral : SP := ai_M o_N_numeral 0 3 k_N_numeral
theorem mf_N_numeral : ai_mono f_N_numeral := M_mono mo_N_numeral
abbrev cal_N_numeral : List ai_I := [i_N_wrong, i_N_goOn]
theorem a_N_numeral : ai_all "SuiteBenchModel" prog_14_method_13_code 3 kc_N cal_N_numeral 10 285 false (some .int) k_N_numeral = true := by decide +kernel
theorem w_N_numeral : ai_CW i_N_numeral := ⟨(tk_mem (l := [((Jvm.Cond.code ({ cls := "SuiteBenchModel", name := "numeral", desc := "(I)I" } : Jvm.MethodName) prog_14_method_13_code (3 : Nat) (Option.some Jvm.ClassFile.FieldType.int)), 8, 204)]) (by decide +kernel) _ (List.mem_singleton.mpr rfl)), (tk_mem (l := [((Jvm.Cond.initialized "SuiteBenchModel"), 1, 15)]) (by decide +kernel) _ (List.mem_singleton.mpr rfl)), ⟨by decide +kernel, by decide +kernel, by decide +kernel⟩, ⟨(tk_mem (l := [((Jvm.Cond.instanceMethod ({ cls := "SuiteBenchModel", name := "numeral", desc := "(I)I" } : Jvm.MethodName)), 8, 203)]) (by decide +kernel) _ (List.mem_singleton.mpr rfl)), gw_sel 94 (by decide +kernel), .inl ⟨_, _, rfl⟩⟩⟩
theorem c_N_numeral {E2 : (Nat → Nat) → State → Heap → Prop} (hE : ai_XH E2) : ai_S E2 i_N_numeral f_N_numeral := snd_M (by decide) rfl (by decide) a_N_numeral kc_N_ok (by rfl) (by decide) (fun a i h => match a, h with
    | 0, h => by cases h; exact ⟨c_N_wrong hE, w_N_wrong⟩
    | 1, h => by cases h; exact ⟨c_N_goOn hE, w_N_goOn⟩
    | _ + 2, h => by simp [cal_N_numeral, ai_nth] at h)
def k_N_readArc : ai_C := [
  [(0, .aload_n 0, 1, 0, 0, 0, 0, 0, []), (1, .invokevirtual 208, 3, 0, 1, 89, 9, 0, [(0, 12)]), (4, .iload_n 1, 1, 1, 0, 0, 0, 0, []), (5, .ifCond .eq 10, 3, 15, 0, 0, 0, 0, []), (8, .aload_n 0, 1, 0, 0, 0, 0, 0, []), (9, .invokevirtual 215, 3, 1, 1, 87, 0, 0, [(0, 12)]), (12, .goto 8, 3, 20, 0, 0, 0, 0, []), (15, .aload_n 0, 1, 0, 0, 0, 0, 0, [])],
  [(16, .iconst 0, 1, 0, 0, 0, 0, 0, []), (17, .invokevirtual 211, 3, 2, 2, 85, 0, 0, [(0, 12)]), (20, .istore_n 2, 1, 2, 0, 0, 0, 0, []), (21, .aload_n 0, 1, 0, 0, 0, 0, 0, []), (22, .iconst 1, 1, 0, 0, 0, 0, 1, []), (23, .iload_n 2, 1, 2, 0, 0, 0, 0, []), (24, .invokevirtual 224, 3, 3, 3, 91, 0, 0, [(0, 12)]), (27, .istore_n 3, 1, 3, 0, 0, 0, 0, []), (28, .aload_n 0, 1, 0, 0, 0, 0, 0, []), (29, .invokevirtual 208, 3, 0, 1, 89, 9, 0, [(0, 12)])],
  [(32, .aload_n 0, 1, 0, 0, 0, 0, 0, []), (33, .iconst 0, 1, 0, 0, 0, 0, 0, []), (34, .aload_n 0, 1, 0, 0, 0, 0, 0, []), (35, .iconst 1, 1, 0, 0, 0, 0, 1, []), (36, .invokevirtual 211, 3, 2, 2, 85, 0, 0, [(0, 12)]), (39, .invokevirtual 224, 3, 3, 3, 91, 0, 0, [(0, 12)]), (42, .istore 4, 2, 4, 0, 0, 0, 0, []), (44, .iload_n 1, 1, 1, 0, 0, 0, 0, []), (45, .ifCond .eq 15, 3, 60, 0, 0, 0, 0, [])],
  [(48, .bipush 24, 2, 0, 0, 0, 0, 24, []), (50, .iconst 3, 1, 0, 0, 0, 0, 3, []), (51, .iload_n 3, 1, 3, 0, 0, 0, 0, []), (52, .imul, 1, 0, 0, 0, 0, 0, []), (53, .iadd, 1, 0, 0, 0, 0, 0, []), (54, .iload 4, 2, 4, 0, 0, 0, 0, []), (56, .iadd, 1, 0, 0, 0, 0, 0, []), (57, .goto 12, 3, 69, 0, 0, 0, 0, []), (60, .bipush 18, 2, 0, 0, 0, 0, 18, []), (62, .iconst 3, 1, 0, 0, 0, 0, 3, []), (63, .iload_n 3, 1, 3, 0, 0, 0, 0, [])],
  [(64, .imul, 1, 0, 0, 0, 0, 0, []), (65, .iadd, 1, 0, 0, 0, 0, 0, []), (66, .iload 4, 2, 4, 0, 0, 0, 0, []), (68, .iadd, 1, 0, 0, 0, 0, 0, []), (69, .istore 5, 2, 5, 0, 0, 0, 0, []), (71, .aload_n 0, 1, 0, 0, 0, 0, 0, []), (72, .getfield 195, 3, 12, 16, 82, 0, 16, []), (75, .ifCond .ne 32, 3, 107, 0, 0, 0, 0, []), (78, .iload_n 1, 1, 1, 0, 0, 0, 0, []), (79, .ifCond .eq 13, 3, 92, 0, 0, 0, 0, [])],
  [(82, .aload_n 0, 1, 0, 0, 0, 0, 0, []), (83, .getfield 28, 3, 12, 8, 30, 2, 8, []), (86, .iload 5, 2, 5, 0, 0, 0, 0, []), (88, .iaload, 1, 0, 0, 0, 0, 0, []), (89, .goto 10, 3, 99, 0, 0, 0, 0, []), (92, .aload_n 0, 1, 0, 0, 0, 0, 0, []), (93, .getfield 22, 3, 12, 6, 28, 2, 6, [])],
  [(96, .iload 5, 2, 5, 0, 0, 0, 0, []), (98, .iaload, 1, 0, 0, 0, 0, 0, []), (99, .ifCond .eq 8, 3, 107, 0, 0, 0, 0, []), (102, .aload_n 0, 1, 0, 0, 0, 0, 0, []), (103, .iconst 3, 1, 0, 0, 0, 0, 3, []), (104, .invokevirtual 204, 3, 4, 2, 86, 9, 0, [(0, 12)]), (107, .aload_n 0, 1, 0, 0, 0, 0, 0, []), (108, .invokevirtual 208, 3, 0, 1, 89, 9, 0, [(0, 12)]), (111, .aload_n 0, 1, 0, 0, 0, 0, 0, [])],
  [(112, .iconst 1, 1, 0, 0, 0, 0, 1, []), (113, .iload_n 2, 1, 2, 0, 0, 0, 0, []), (114, .invokevirtual 224, 3, 3, 3, 91, 0, 0, [(0, 12)]), (117, .istore 6, 2, 6, 0, 0, 0, 0, []), (119, .aload_n 0, 1, 0, 0, 0, 0, 0, []), (120, .invokevirtual 208, 3, 0, 1, 89, 9, 0, [(0, 12)]), (123, .aload_n 0, 1, 0, 0, 0, 0, 0, []), (124, .bipush 9, 2, 0, 0, 0, 0, 9, []), (126, .invokevirtual 228, 3, 5, 2, 92, 0, 0, [(0, 12)])],
  [(129, .istore 7, 2, 7, 0, 0, 0, 0, []), (131, .aload_n 0, 1, 0, 0, 0, 0, 0, []), (132, .getfield 195, 3, 12, 16, 82, 0, 16, []), (135, .ifCond .eq 4, 3, 139, 0, 0, 0, 0, []), (138, .return_, 1, 0, 0, 0, 0, 0, []), (139, .iload_n 1, 1, 1, 0, 0, 0, 0, []), (140, .ifCond .eq 26, 3, 166, 0, 0, 0, 0, []), (143, .aload_n 0, 1, 0, 0, 0, 0, 0, [])],
  [(144, .getfield 28, 3, 12, 8, 30, 2, 8, []), (147, .iload 5, 2, 5, 0, 0, 0, 0, []), (149, .iload 6, 2, 6, 0, 0, 0, 0, []), (151, .iconst 1, 1, 0, 0, 0, 0, 1, []), (152, .iadd, 1, 0, 0, 0, 0, 0, []), (153, .iastore, 1, 0, 0, 0, 0, 0, []), (154, .aload_n 0, 1, 0, 0, 0, 0, 0, []), (155, .getfield 31, 3, 12, 9, 31, 2, 9, []), (158, .iload 5, 2, 5, 0, 0, 0, 0, [])],
  [(160, .iload 7, 2, 7, 0, 0, 0, 0, []), (162, .iastore, 1, 0, 0, 0, 0, 0, []), (163, .goto 23, 3, 186, 0, 0, 0, 0, []), (166, .aload_n 0, 1, 0, 0, 0, 0, 0, []), (167, .getfield 22, 3, 12, 6, 28, 2, 6, []), (170, .iload 5, 2, 5, 0, 0, 0, 0, []), (172, .iload 6, 2, 6, 0, 0, 0, 0, []), (174, .iconst 1, 1, 0, 0, 0, 0, 1, []), (175, .iadd, 1, 0, 0, 0, 0, 0, [])],
  [(176, .iastore, 1, 0, 0, 0, 0, 0, []), (177, .aload_n 0, 1, 0, 0, 0, 0, 0, []), (178, .getfield 25, 3, 12, 7, 29, 2, 7, []), (181, .iload 5, 2, 5, 0, 0, 0, 0, []), (183, .iload 7, 2, 7, 0, 0, 0, 0, []), (185, .iastore, 1, 0, 0, 0, 0, 0, []), (186, .return_, 1, 0, 0, 0, 0, 0, [])]]
def i_N_readArc : ai_I := ((⟨"SuiteBenchModel", "readArc", "(Z)V"⟩, prog_14_method_22_code, 8, none, 9, 11, 307, 0, 1, 0, 12) : ai_I)
def o_N_readArc (a : Nat) : SP := match a with
  | 0 => f_N_goOn
  | 1 => f_N_readPlaces
  | 2 => f_N_reading
  | 3 => f_N_atHand
  | 4 => f_N_wrong
  | 5 => f_N_numeral
  | _ => fun _ _ _ _ _ => False
theorem mo_N_readArc : ∀ a, ai_mono (o_N_readArc a)
  | 0 => mf_N_goOn
  | 1 => mf_N_readPlaces
  | 2 => mf_N_reading
  | 3 => mf_N_atHand
  | 4 => mf_N_wrong
  | 5 => mf_N_numeral
  | _ + 6 => fun _ _ _ _ _ _ _ h => h
def f_N_readArc : SP := ai_M o_N_readArc 0 8 k_N_readArc
theorem mf_N_readArc : ai_mono f_N_readArc := M_mono mo_N_readArc
abbrev cal_N_readArc : List ai_I := [i_N_goOn, i_N_readPlaces, i_N_reading, i_N_atHand, i_N_wrong, i_N_numeral]
theorem a_N_readArc : ai_all "SuiteBenchModel" prog_14_method_22_code 8 kc_N cal_N_readArc 11 307 false none k_N_readArc = true := by decide +kernel
theorem w_N_readArc : ai_CW i_N_readArc := ⟨(tk_mem (l := [((Jvm.Cond.code ({ cls := "SuiteBenchModel", name := "readArc", desc := "(Z)V" } : Jvm.MethodName) prog_14_method_22_code (8 : Nat) (Option.none : Option Jvm.ClassFile.FieldType)), 8, 196)]) (by decide +kernel) _ (List.mem_singleton.mpr rfl)), (tk_mem (l := [((Jvm.Cond.initialized "SuiteBenchModel"), 1, 15)]) (by decide +kernel) _ (List.mem_singleton.mpr rfl)), ⟨by decide +kernel, by decide +kernel, by decide +kernel⟩, ⟨(tk_mem (l := [((Jvm.Cond.instanceMethod ({ cls := "SuiteBenchModel", name := "readArc", desc := "(Z)V" } : Jvm.MethodName)), 8, 195)]) (by decide +kernel) _ (List.mem_singleton.mpr rfl)), gw_sel 92 (by decide +kernel), .inl ⟨_, _, rfl⟩⟩⟩
theorem c_N_readArc {E2 : (Nat → Nat) → State → Heap → Prop} (hE : ai_XH E2) : ai_S E2 i_N_readArc f_N_readArc := snd_M (by decide) rfl (by decide) a_N_readArc kc_N_ok (by rfl) (by decide) (fun a i h => match a, h with
    | 0, h => by cases h; exact ⟨c_N_goOn hE, w_N_goOn⟩
    | 1, h => by cases h; exact ⟨c_N_readPlaces hE, w_N_readPlaces⟩
    | 2, h => by cases h; exact ⟨c_N_reading hE, w_N_reading⟩
    | 3, h => by cases h; exact ⟨c_N_atHand hE, w_N_atHand⟩
    | 4, h => by cases h; exact ⟨c_N_wrong hE, w_N_wrong⟩
    | 5, h => by cases h; exact ⟨c_N_numeral hE, w_N_numeral⟩
    | _ + 6, h => by simp [cal_N_readArc, ai_nth] at h)
def k_N_readOnce : ai_C := [
  [(0, .aload_n 0, 1, 0, 0, 0, 0, 0, []), (1, .iload_n 1, 1, 1, 0, 0, 0, 0, []), (2, .invokevirtual 211, 3, 0, 2, 85, 0, 0, [(0, 12)]), (5, .ifCond .eq 8, 3, 13, 0, 0, 0, 0, []), (8, .aload_n 0, 1, 0, 0, 0, 0, 0, []), (9, .iconst 3, 1, 0, 0, 0, 0, 3, []), (10, .invokevirtual 204, 3, 1, 2, 86, 9, 0, [(0, 12)]), (13, .aload_n 0, 1, 0, 0, 0, 0, 0, []), (14, .invokevirtual 208, 3, 2, 1, 89, 9, 0, [(0, 12)])],
  [(17, .aload_n 0, 1, 0, 0, 0, 0, 0, []), (18, .iload_n 2, 1, 2, 0, 0, 0, 0, []), (19, .invokevirtual 228, 3, 3, 2, 92, 0, 0, [(0, 12)]), (22, .istore_n 3, 1, 3, 0, 0, 0, 0, []), (23, .aload_n 0, 1, 0, 0, 0, 0, 0, []), (24, .getfield 13, 3, 12, 3, 0, 2, 3, []), (27, .iconst 5, 1, 0, 0, 0, 0, 5, []), (28, .iload_n 1, 1, 1, 0, 0, 0, 0, []), (29, .iadd, 1, 0, 0, 0, 0, 0, []), (30, .iload_n 3, 1, 3, 0, 0, 0, 0, []), (31, .iconst 1, 1, 0, 0, 0, 0, 1, [])],
  [(32, .iadd, 1, 0, 0, 0, 0, 0, []), (33, .iastore, 1, 0, 0, 0, 0, 0, []), (34, .return_, 1, 0, 0, 0, 0, 0, [])]]
def i_N_readOnce : ai_I := ((⟨"SuiteBenchModel", "readOnce", "(II)V"⟩, prog_14_method_23_code, 4, none, 9, 11, 307, 0, 2, 0, 12) : ai_I)
def o_N_readOnce (a : Nat) : SP := match a with
  | 0 => f_N_reading
  | 1 => f_N_wrong
  | 2 => f_N_goOn
  | 3 => f_N_numeral
  | _ => fun _ _ _ _ _ => False
theorem mo_N_readOnce : ∀ a, ai_mono (o_N_readOnce a)
  | 0 => mf_N_reading
  | 1 => mf_N_wrong
  | 2 => mf_N_goOn
  | 3 => mf_N_numeral
  | _ + 4 => fun _ _ _ _ _ _ _ h => h
def f_N_readOnce : SP := ai_M o_N_readOnce 0 4 k_N_readOnce
theorem mf_N_readOnce : ai_mono f_N_readOnce := M_mono mo_N_readOnce
abbrev cal_N_readOnce : List ai_I := [i_N_reading, i_N_wrong, i_N_goOn, i_N_numeral]
theorem a_N_readOnce : ai_all "SuiteBenchModel" prog_14_method_23_code 4 kc_N cal_N_readOnce 11 307 false none k_N_readOnce = true := by decide +kernel
theorem w_N_readOnce : ai_CW i_N_readOnce := ⟨(tk_mem (l := [((Jvm.Cond.code ({ cls := "SuiteBenchModel", name := "readOnce", desc := "(II)V" } : Jvm.MethodName) prog_14_method_23_code (4 : Nat) (Option.none : Option Jvm.ClassFile.FieldType)), 8, 208)]) (by decide +kernel) _ (List.mem_singleton.mpr rfl)), (tk_mem (l := [((Jvm.Cond.initialized "SuiteBenchModel"), 1, 15)]) (by decide +kernel) _ (List.mem_singleton.mpr rfl)), ⟨by decide +kernel, by decide +kernel, by decide +kernel⟩, ⟨(tk_mem (l := [((Jvm.Cond.instanceMethod ({ cls := "SuiteBenchModel", name := "readOnce", desc := "(II)V" } : Jvm.MethodName)), 8, 207)]) (by decide +kernel) _ (List.mem_singleton.mpr rfl)), gw_sel 95 (by decide +kernel), .inl ⟨_, _, rfl⟩⟩⟩
theorem c_N_readOnce {E2 : (Nat → Nat) → State → Heap → Prop} (hE : ai_XH E2) : ai_S E2 i_N_readOnce f_N_readOnce := snd_M (by decide) rfl (by decide) a_N_readOnce kc_N_ok (by rfl) (by decide) (fun a i h => match a, h with
    | 0, h => by cases h; exact ⟨c_N_reading hE, w_N_reading⟩
    | 1, h => by cases h; exact ⟨c_N_wrong hE, w_N_wrong⟩
    | 2, h => by cases h; exact ⟨c_N_goOn hE, w_N_goOn⟩
    | 3, h => by cases h; exact ⟨c_N_numeral hE, w_N_numeral⟩
    | _ + 4, h => by simp [cal_N_readOnce, ai_nth] at h)
def k_N_readLine : ai_C := [
  [(0, .aload_n 0, 1, 0, 0, 0, 0, 0, []), (1, .iconst 0, 1, 0, 0, 0, 0, 0, []), (2, .invokevirtual 231, 3, 0, 2, 93, 0, 0, [(0, 12)]), (5, .ifCond .eq 10, 3, 15, 0, 0, 0, 0, []), (8, .aload_n 0, 1, 0, 0, 0, 0, 0, []), (9, .invokevirtual 234, 3, 1, 1, 94, 9, 0, [(0, 12)]), (12, .goto 102, 3, 114, 0, 0, 0, 0, []), (15, .aload_n 0, 1, 0, 0, 0, 0, 0, [])],
  [(16, .iconst 1, 1, 0, 0, 0, 0, 1, []), (17, .invokevirtual 231, 3, 0, 2, 93, 0, 0, [(0, 12)]), (20, .ifCond .eq 10, 3, 30, 0, 0, 0, 0, []), (23, .aload_n 0, 1, 0, 0, 0, 0, 0, []), (24, .invokevirtual 237, 3, 2, 1, 95, 9, 0, [(0, 12)]), (27, .goto 87, 3, 114, 0, 0, 0, 0, []), (30, .aload_n 0, 1, 0, 0, 0, 0, 0, []), (31, .iconst 2, 1, 0, 0, 0, 0, 2, [])],
  [(32, .invokevirtual 231, 3, 0, 2, 93, 0, 0, [(0, 12)]), (35, .ifCond .eq 10, 3, 45, 0, 0, 0, 0, []), (38, .aload_n 0, 1, 0, 0, 0, 0, 0, []), (39, .invokevirtual 240, 3, 3, 1, 96, 9, 0, [(0, 12)]), (42, .goto 72, 3, 114, 0, 0, 0, 0, []), (45, .aload_n 0, 1, 0, 0, 0, 0, 0, []), (46, .iconst 3, 1, 0, 0, 0, 0, 3, []), (47, .invokevirtual 231, 3, 0, 2, 93, 0, 0, [(0, 12)])],
  [(50, .ifCond .ne 11, 3, 61, 0, 0, 0, 0, []), (53, .aload_n 0, 1, 0, 0, 0, 0, 0, []), (54, .iconst 4, 1, 0, 0, 0, 0, 4, []), (55, .invokevirtual 231, 3, 0, 2, 93, 0, 0, [(0, 12)]), (58, .ifCond .eq 15, 3, 73, 0, 0, 0, 0, []), (61, .aload_n 0, 1, 0, 0, 0, 0, 0, []), (62, .aload_n 0, 1, 0, 0, 0, 0, 0, []), (63, .iconst 4, 1, 0, 0, 0, 0, 4, [])],
  [(64, .invokevirtual 231, 3, 0, 2, 93, 0, 0, [(0, 12)]), (67, .invokevirtual 243, 3, 4, 2, 97, 9, 0, [(0, 12)]), (70, .goto 44, 3, 114, 0, 0, 0, 0, []), (73, .aload_n 0, 1, 0, 0, 0, 0, 0, []), (74, .iconst 5, 1, 0, 0, 0, 0, 5, []), (75, .invokevirtual 231, 3, 0, 2, 93, 0, 0, [(0, 12)]), (78, .ifCond .eq 12, 3, 90, 0, 0, 0, 0, [])],
  [(81, .aload_n 0, 1, 0, 0, 0, 0, 0, []), (82, .iconst 3, 1, 0, 0, 0, 0, 3, []), (83, .iconst 2, 1, 0, 0, 0, 0, 2, []), (84, .invokevirtual 247, 3, 5, 3, 98, 9, 0, [(0, 12)]), (87, .goto 27, 3, 114, 0, 0, 0, 0, []), (90, .aload_n 0, 1, 0, 0, 0, 0, 0, []), (91, .bipush 6, 2, 0, 0, 0, 0, 6, []), (93, .invokevirtual 231, 3, 0, 2, 93, 0, 0, [(0, 12)])],
  [(96, .ifCond .eq 13, 3, 109, 0, 0, 0, 0, []), (99, .aload_n 0, 1, 0, 0, 0, 0, 0, []), (100, .iconst 4, 1, 0, 0, 0, 0, 4, []), (101, .ldc 183, 2, 0, 0, 81, 0, 99999, []), (103, .invokevirtual 247, 3, 5, 3, 98, 9, 0, [(0, 12)]), (106, .goto 8, 3, 114, 0, 0, 0, 0, []), (109, .aload_n 0, 1, 0, 0, 0, 0, 0, []), (110, .iconst 1, 1, 0, 0, 0, 0, 1, []), (111, .invokevirtual 204, 3, 6, 2, 86, 9, 0, [(0, 12)])],
  [(114, .aload_n 0, 1, 0, 0, 0, 0, 0, []), (115, .getfield 195, 3, 12, 16, 82, 0, 16, []), (118, .ifCond .ne 16, 3, 134, 0, 0, 0, 0, []), (121, .aload_n 0, 1, 0, 0, 0, 0, 0, []), (122, .getfield 164, 3, 12, 14, 76, 0, 14, []), (125, .iconst 3, 1, 0, 0, 0, 0, 3, []), (126, .if_icmp .eq 8, 3, 134, 0, 0, 0, 0, [])],
  [(129, .aload_n 0, 1, 0, 0, 0, 0, 0, []), (130, .iconst 1, 1, 0, 0, 0, 0, 1, []), (131, .invokevirtual 204, 3, 6, 2, 86, 9, 0, [(0, 12)]), (134, .aload_n 0, 1, 0, 0, 0, 0, 0, []), (135, .invokevirtual 208, 3, 7, 1, 89, 9, 0, [(0, 12)]), (138, .aload_n 0, 1, 0, 0, 0, 0, 0, []), (139, .dup, 1, 0, 0, 0, 0, 0, []), (140, .getfield 251, 3, 12, 10, 99, 0, 10, []), (143, .iconst 1, 1, 0, 0, 0, 0, 1, [])],
  [(144, .iadd, 1, 0, 0, 0, 0, 0, []), (145, .putfield 251, 3, 12, 10, 99, 0, 10, []), (148, .return_, 1, 0, 0, 0, 0, 0, [])]]
def i_N_readLine : ai_I := ((⟨"SuiteBenchModel", "readLine", "()V"⟩, prog_14_method_24_code, 1, none, 9, 12, 334, 0, 0, 0, 12) : ai_I)
def o_N_readLine (a : Nat) : SP := match a with
  | 0 => f_N_isWord
  | 1 => f_N_readState
  | 2 => f_N_readInput
  | 3 => f_N_readMore
  | 4 => f_N_readArc
  | 5 => f_N_readOnce
  | 6 => f_N_wrong
  | 7 => f_N_goOn
  | _ => fun _ _ _ _ _ => False
theorem mo_N_readLine : ∀ a, ai_mono (o_N_readLine a)
  | 0 => mf_N_isWord
  | 1 => mf_N_readState
  | 2 => mf_N_readInput
  | 3 => mf_N_readMore
  | 4 => mf_N_readArc
  | 5 => mf_N_readOnce
  | 6 => mf_N_wrong
  | 7 => mf_N_goOn
  | _ + 8 => fun _ _ _ _ _ _ _ h => h
def f_N_readLine : SP := ai_M o_N_readLine 0 1 k_N_readLine
theorem mf_N_readLine : ai_mono f_N_readLine := M_mono mo_N_readLine
abbrev cal_N_readLine : List ai_I := [i_N_isWord, i_N_readState, i_N_readInput, i_N_readMore, i_N_readArc, i_N_readOnce, i_N_wrong, i_N_goOn]
theorem a_N_readLine : ai_all "SuiteBenchModel" prog_14_method_24_code 1 kc_N cal_N_readLine 12 334 false none k_N_readLine = true := by decide +kernel
theorem w_N_readLine : ai_CW i_N_readLine := ⟨(tk_mem (l := [((Jvm.Cond.code ({ cls := "SuiteBenchModel", name := "readLine", desc := "()V" } : Jvm.MethodName) prog_14_method_24_code (1 : Nat) (Option.none : Option Jvm.ClassFile.FieldType)), 8, 153)]) (by decide +kernel) _ (List.mem_singleton.mpr rfl)), (tk_mem (l := [((Jvm.Cond.initialized "SuiteBenchModel"), 1, 15)]) (by decide +kernel) _ (List.mem_singleton.mpr rfl)), ⟨by decide +kernel, by decide +kernel, by decide +kernel⟩, ⟨(tk_mem (l := [((Jvm.Cond.instanceMethod ({ cls := "SuiteBenchModel", name := "readLine", desc := "()V" } : Jvm.MethodName)), 8, 152)]) (by decide +kernel) _ (List.mem_singleton.mpr rfl)), gw_sel 82 (by decide +kernel), .inl ⟨_, _, rfl⟩⟩⟩
theorem c_N_readLine {E2 : (Nat → Nat) → State → Heap → Prop} (hE : ai_XH E2) : ai_S E2 i_N_readLine f_N_readLine := snd_M (by decide) rfl (by decide) a_N_readLine kc_N_ok (by rfl) (by decide) (fun a i h => match a, h with
    | 0, h => by cases h; exact ⟨c_N_isWord hE, w_N_isWord⟩
    | 1, h => by cases h; exact ⟨c_N_readState hE, w_N_readState⟩
    | 2, h => by cases h; exact ⟨c_N_readInput hE, w_N_readInput⟩
    | 3, h => by cases h; exact ⟨c_N_readMore hE, w_N_readMore⟩
    | 4, h => by cases h; exact ⟨c_N_readArc hE, w_N_readArc⟩
    | 5, h => by cases h; exact ⟨c_N_readOnce hE, w_N_readOnce⟩
    | 6, h => by cases h; exact ⟨c_N_wrong hE, w_N_wrong⟩
    | 7, h => by cases h; exact ⟨c_N_goOn hE, w_N_goOn⟩
    | _ + 8, h => by simp [cal_N_readLine, ai_nth] at h)
def k_N_readText : ai_C := [
  [(0, .aload_n 0, 1, 0, 0, 0, 0, 0, []), (1, .iload_n 1, 1, 1, 0, 0, 0, 0, []), (2, .putfield 154, 3, 12, 11, 70, 0, 11, []), (5, .aload_n 0, 1, 0, 0, 0, 0, 0, []), (6, .iconst 0, 1, 0, 0, 0, 0, 0, []), (7, .putfield 151, 3, 12, 12, 69, 0, 12, []), (10, .aload_n 0, 1, 0, 0, 0, 0, 0, []), (11, .iconst 0, 1, 0, 0, 0, 0, 0, []), (12, .putfield 195, 3, 12, 16, 82, 0, 16, []), (15, .aload_n 0, 1, 0, 0, 0, 0, 0, [])],
  [(16, .iconst 0, 1, 0, 0, 0, 0, 0, []), (17, .putfield 251, 3, 12, 10, 99, 0, 10, []), (20, .iconst 0, 1, 0, 0, 0, 0, 0, []), (21, .istore_n 2, 1, 2, 0, 0, 0, 0, []), (22, .iload_n 2, 1, 2, 0, 0, 0, 0, []), (23, .iconst 5, 1, 0, 0, 0, 0, 5, []), (24, .if_icmp .ge 18, 3, 42, 0, 0, 0, 0, []), (27, .aload_n 0, 1, 0, 0, 0, 0, 0, []), (28, .getfield 13, 3, 12, 3, 0, 2, 3, []), (31, .iconst 5, 1, 0, 0, 0, 0, 5, [])],
  [(32, .iload_n 2, 1, 2, 0, 0, 0, 0, []), (33, .iadd, 1, 0, 0, 0, 0, 0, []), (34, .iconst 0, 1, 0, 0, 0, 0, 0, []), (35, .iastore, 1, 0, 0, 0, 0, 0, []), (36, .iinc 2 1, 3, 2, 0, 0, 0, 1, []), (39, .goto (-17), 3, 22, 0, 0, 0, 0, []), (42, .iconst 0, 1, 0, 0, 0, 0, 0, []), (43, .istore_n 2, 1, 2, 0, 0, 0, 0, []), (44, .iload_n 2, 1, 2, 0, 0, 0, 0, []), (45, .bipush 18, 2, 0, 0, 0, 0, 18, []), (47, .if_icmp .ge 19, 3, 66, 0, 0, 0, 0, [])],
  [(50, .aload_n 0, 1, 0, 0, 0, 0, 0, []), (51, .getfield 22, 3, 12, 6, 28, 2, 6, []), (54, .bipush 18, 2, 0, 0, 0, 0, 18, []), (56, .iload_n 2, 1, 2, 0, 0, 0, 0, []), (57, .iadd, 1, 0, 0, 0, 0, 0, []), (58, .iconst 0, 1, 0, 0, 0, 0, 0, []), (59, .iastore, 1, 0, 0, 0, 0, 0, []), (60, .iinc 2 1, 3, 2, 0, 0, 0, 1, []), (63, .goto (-19), 3, 44, 0, 0, 0, 0, [])],
  [(66, .iconst 0, 1, 0, 0, 0, 0, 0, []), (67, .istore_n 2, 1, 2, 0, 0, 0, 0, []), (68, .iload_n 2, 1, 2, 0, 0, 0, 0, []), (69, .bipush 24, 2, 0, 0, 0, 0, 24, []), (71, .if_icmp .ge 19, 3, 90, 0, 0, 0, 0, []), (74, .aload_n 0, 1, 0, 0, 0, 0, 0, []), (75, .getfield 28, 3, 12, 8, 30, 2, 8, []), (78, .bipush 24, 2, 0, 0, 0, 0, 24, [])],
  [(80, .iload_n 2, 1, 2, 0, 0, 0, 0, []), (81, .iadd, 1, 0, 0, 0, 0, 0, []), (82, .iconst 0, 1, 0, 0, 0, 0, 0, []), (83, .iastore, 1, 0, 0, 0, 0, 0, []), (84, .iinc 2 1, 3, 2, 0, 0, 0, 1, []), (87, .goto (-19), 3, 68, 0, 0, 0, 0, []), (90, .aload_n 0, 1, 0, 0, 0, 0, 0, []), (91, .invokevirtual 201, 3, 0, 1, 84, 9, 0, [(0, 12)]), (94, .aload_n 0, 1, 0, 0, 0, 0, 0, []), (95, .getfield 195, 3, 12, 16, 82, 0, 16, [])],
  [(98, .ifCond .ne 18, 3, 116, 0, 0, 0, 0, []), (101, .aload_n 0, 1, 0, 0, 0, 0, 0, []), (102, .getfield 164, 3, 12, 14, 76, 0, 14, []), (105, .iconst 4, 1, 0, 0, 0, 0, 4, []), (106, .if_icmp .eq 10, 3, 116, 0, 0, 0, 0, []), (109, .aload_n 0, 1, 0, 0, 0, 0, 0, []), (110, .invokevirtual 254, 3, 1, 1, 100, 9, 0, [(0, 12)])],
  [(113, .goto (-19), 3, 94, 0, 0, 0, 0, []), (116, .return_, 1, 0, 0, 0, 0, 0, [])]]
def i_N_readText : ai_I := ((⟨"SuiteBenchModel", "readText", "(I)V"⟩, prog_14_method_25_code, 3, none, 9, 13, 354, 0, 1, 0, 12) : ai_I)
def o_N_readText (a : Nat) : SP := match a with
  | 0 => f_N_token
  | 1 => f_N_readLine
  | _ => fun _ _ _ _ _ => False
theorem mo_N_readText : ∀ a, ai_mono (o_N_readText a)
  | 0 => mf_N_token
  | 1 => mf_N_readLine
  | _ + 2 => fun _ _ _ _ _ _ _ h => h
def f_N_readText : SP := ai_M o_N_readText 0 3 k_N_readText
theorem mf_N_readText : ai_mono f_N_readText := M_mono mo_N_readText
abbrev cal_N_readText : List ai_I := [i_N_token, i_N_readLine]
theorem a_N_readText : ai_all "SuiteBenchModel" prog_14_method_25_code 3 kc_N cal_N_readText 13 354 false none k_N_readText = true := by decide +kernel
theorem w_N_readText : ai_CW i_N_readText := ⟨(tk_mem (l := [((Jvm.Cond.code ({ cls := "SuiteBenchModel", name := "readText", desc := "(I)V" } : Jvm.MethodName) prog_14_method_25_code (3 : Nat) (Option.none : Option Jvm.ClassFile.FieldType)), 8, 77)]) (by decide +kernel) _ (List.mem_singleton.mpr rfl)), (tk_mem (l := [((Jvm.Cond.initialized "SuiteBenchModel"), 1, 15)]) (by decide +kernel) _ (List.mem_singleton.mpr rfl)), ⟨by decide +kernel, by decide +kernel, by decide +kernel⟩, ⟨(tk_mem (l := [((Jvm.Cond.instanceMethod ({ cls := "SuiteBenchModel", name := "readText", desc := "(I)V" } : Jvm.MethodName)), 8, 76)]) (by decide +kernel) _ (List.mem_singleton.mpr rfl)), gw_sel 77 (by decide +kernel), .inl ⟨_, _, rfl⟩⟩⟩
theorem c_N_readText {E2 : (Nat → Nat) → State → Heap → Prop} (hE : ai_XH E2) : ai_S E2 i_N_readText f_N_readText := snd_M (by decide) rfl (by decide) a_N_readText kc_N_ok (by rfl) (by decide) (fun a i h => match a, h with
    | 0, h => by cases h; exact ⟨c_N_token hE, w_N_token⟩
    | 1, h => by cases h; exact ⟨c_N_readLine hE, w_N_readLine⟩
    | _ + 2, h => by simp [cal_N_readText, ai_nth] at h)
def k_N_takeText : ai_C := [
  [(0, .iconst 0, 1, 0, 0, 0, 0, 0, []), (1, .istore_n 1, 1, 1, 0, 0, 0, 0, []), (2, .iload_n 1, 1, 1, 0, 0, 0, 0, []), (3, .iconst 5, 1, 0, 0, 0, 0, 5, []), (4, .if_icmp .ge 20, 3, 24, 0, 0, 0, 0, []), (7, .aload_n 0, 1, 0, 0, 0, 0, 0, []), (8, .getfield 13, 3, 12, 3, 0, 2, 3, []), (11, .iload_n 1, 1, 1, 0, 0, 0, 0, []), (12, .aload_n 0, 1, 0, 0, 0, 0, 0, []), (13, .iload_n 1, 1, 1, 0, 0, 0, 0, []), (14, .invokevirtual 211, 3, 0, 2, 85, 0, 0, [(0, 12)])],
  [(17, .iastore, 1, 0, 0, 0, 0, 0, []), (18, .iinc 1 1, 3, 1, 0, 0, 0, 1, []), (21, .goto (-19), 3, 2, 0, 0, 0, 0, []), (24, .iconst 0, 1, 0, 0, 0, 0, 0, []), (25, .istore_n 1, 1, 1, 0, 0, 0, 0, []), (26, .iload_n 1, 1, 1, 0, 0, 0, 0, []), (27, .bipush 8, 2, 0, 0, 0, 0, 8, []), (29, .if_icmp .ge 24, 3, 53, 0, 0, 0, 0, [])],
  [(32, .aload_n 0, 1, 0, 0, 0, 0, 0, []), (33, .getfield 16, 3, 12, 4, 42, 2, 4, []), (36, .iload_n 1, 1, 1, 0, 0, 0, 0, []), (37, .aload_n 0, 1, 0, 0, 0, 0, 0, []), (38, .getfield 16, 3, 12, 4, 42, 2, 4, []), (41, .bipush 8, 2, 0, 0, 0, 0, 8, []), (43, .iload_n 1, 1, 1, 0, 0, 0, 0, []), (44, .iadd, 1, 0, 0, 0, 0, 0, []), (45, .iaload, 1, 0, 0, 0, 0, 0, []), (46, .iastore, 1, 0, 0, 0, 0, 0, []), (47, .iinc 1 1, 3, 1, 0, 0, 0, 1, [])],
  [(50, .goto (-24), 3, 26, 0, 0, 0, 0, []), (53, .iconst 0, 1, 0, 0, 0, 0, 0, []), (54, .istore_n 1, 1, 1, 0, 0, 0, 0, []), (55, .iload_n 1, 1, 1, 0, 0, 0, 0, []), (56, .iconst 3, 1, 0, 0, 0, 0, 3, []), (57, .if_icmp .ge 23, 3, 80, 0, 0, 0, 0, []), (60, .aload_n 0, 1, 0, 0, 0, 0, 0, []), (61, .getfield 19, 3, 12, 5, 43, 2, 5, [])],
  [(64, .iload_n 1, 1, 1, 0, 0, 0, 0, []), (65, .aload_n 0, 1, 0, 0, 0, 0, 0, []), (66, .getfield 19, 3, 12, 5, 43, 2, 5, []), (69, .iconst 3, 1, 0, 0, 0, 0, 3, []), (70, .iload_n 1, 1, 1, 0, 0, 0, 0, []), (71, .iadd, 1, 0, 0, 0, 0, 0, []), (72, .iaload, 1, 0, 0, 0, 0, 0, []), (73, .iastore, 1, 0, 0, 0, 0, 0, []), (74, .iinc 1 1, 3, 1, 0, 0, 0, 1, []), (77, .goto (-22), 3, 55, 0, 0, 0, 0, [])],
  [(80, .iconst 0, 1, 0, 0, 0, 0, 0, []), (81, .istore_n 1, 1, 1, 0, 0, 0, 0, []), (82, .iload_n 1, 1, 1, 0, 0, 0, 0, []), (83, .bipush 18, 2, 0, 0, 0, 0, 18, []), (85, .if_icmp .ge 39, 3, 124, 0, 0, 0, 0, []), (88, .aload_n 0, 1, 0, 0, 0, 0, 0, []), (89, .getfield 22, 3, 12, 6, 28, 2, 6, []), (92, .iload_n 1, 1, 1, 0, 0, 0, 0, []), (93, .aload_n 0, 1, 0, 0, 0, 0, 0, []), (94, .getfield 22, 3, 12, 6, 28, 2, 6, [])],
  [(97, .bipush 18, 2, 0, 0, 0, 0, 18, []), (99, .iload_n 1, 1, 1, 0, 0, 0, 0, []), (100, .iadd, 1, 0, 0, 0, 0, 0, []), (101, .iaload, 1, 0, 0, 0, 0, 0, []), (102, .iastore, 1, 0, 0, 0, 0, 0, []), (103, .aload_n 0, 1, 0, 0, 0, 0, 0, []), (104, .getfield 25, 3, 12, 7, 29, 2, 7, []), (107, .iload_n 1, 1, 1, 0, 0, 0, 0, []), (108, .aload_n 0, 1, 0, 0, 0, 0, 0, []), (109, .getfield 25, 3, 12, 7, 29, 2, 7, [])],
  [(112, .bipush 18, 2, 0, 0, 0, 0, 18, []), (114, .iload_n 1, 1, 1, 0, 0, 0, 0, []), (115, .iadd, 1, 0, 0, 0, 0, 0, []), (116, .iaload, 1, 0, 0, 0, 0, 0, []), (117, .iastore, 1, 0, 0, 0, 0, 0, []), (118, .iinc 1 1, 3, 1, 0, 0, 0, 1, []), (121, .goto (-39), 3, 82, 0, 0, 0, 0, []), (124, .iconst 0, 1, 0, 0, 0, 0, 0, []), (125, .istore_n 1, 1, 1, 0, 0, 0, 0, []), (126, .iload_n 1, 1, 1, 0, 0, 0, 0, []), (127, .bipush 24, 2, 0, 0, 0, 0, 24, [])],
  [(129, .if_icmp .ge 39, 3, 168, 0, 0, 0, 0, []), (132, .aload_n 0, 1, 0, 0, 0, 0, 0, []), (133, .getfield 28, 3, 12, 8, 30, 2, 8, []), (136, .iload_n 1, 1, 1, 0, 0, 0, 0, []), (137, .aload_n 0, 1, 0, 0, 0, 0, 0, []), (138, .getfield 28, 3, 12, 8, 30, 2, 8, []), (141, .bipush 24, 2, 0, 0, 0, 0, 24, []), (143, .iload_n 1, 1, 1, 0, 0, 0, 0, [])],
  [(144, .iadd, 1, 0, 0, 0, 0, 0, []), (145, .iaload, 1, 0, 0, 0, 0, 0, []), (146, .iastore, 1, 0, 0, 0, 0, 0, []), (147, .aload_n 0, 1, 0, 0, 0, 0, 0, []), (148, .getfield 31, 3, 12, 9, 31, 2, 9, []), (151, .iload_n 1, 1, 1, 0, 0, 0, 0, []), (152, .aload_n 0, 1, 0, 0, 0, 0, 0, []), (153, .getfield 31, 3, 12, 9, 31, 2, 9, []), (156, .bipush 24, 2, 0, 0, 0, 0, 24, []), (158, .iload_n 1, 1, 1, 0, 0, 0, 0, []), (159, .iadd, 1, 0, 0, 0, 0, 0, [])],
  [(160, .iaload, 1, 0, 0, 0, 0, 0, []), (161, .iastore, 1, 0, 0, 0, 0, 0, []), (162, .iinc 1 1, 3, 1, 0, 0, 0, 1, []), (165, .goto (-39), 3, 126, 0, 0, 0, 0, []), (168, .return_, 1, 0, 0, 0, 0, 0, [])]]
def i_N_takeText : ai_I := ((⟨"SuiteBenchModel", "takeText", "()V"⟩, prog_14_method_26_code, 2, none, 9, 1, 21, 0, 0, 0, 12) : ai_I)
def o_N_takeText (a : Nat) : SP := match a with
  | 0 => f_N_reading
  | _ => fun _ _ _ _ _ => False
theorem mo_N_takeText : ∀ a, ai_mono (o_N_takeText a)
  | 0 => mf_N_reading
  | _ + 1 => fun _ _ _ _ _ _ _ h => h
def f_N_takeText : SP := ai_M o_N_takeText 0 2 k_N_takeText
theorem mf_N_takeText : ai_mono f_N_takeText := M_mono mo_N_takeText
abbrev cal_N_takeText : List ai_I := [i_N_reading]
theorem a_N_takeText : ai_all "SuiteBenchModel" prog_14_method_26_code 2 kc_N cal_N_takeText 1 21 false none k_N_takeText = true := by decide +kernel
theorem w_N_takeText : ai_CW i_N_takeText := ⟨(tk_mem (l := [((Jvm.Cond.code ({ cls := "SuiteBenchModel", name := "takeText", desc := "()V" } : Jvm.MethodName) prog_14_method_26_code (2 : Nat) (Option.none : Option Jvm.ClassFile.FieldType)), 8, 212)]) (by decide +kernel) _ (List.mem_singleton.mpr rfl)), (tk_mem (l := [((Jvm.Cond.initialized "SuiteBenchModel"), 1, 15)]) (by decide +kernel) _ (List.mem_singleton.mpr rfl)), ⟨by decide +kernel, by decide +kernel, by decide +kernel⟩, ⟨(tk_mem (l := [((Jvm.Cond.instanceMethod ({ cls := "SuiteBenchModel", name := "takeText", desc := "()V" } : Jvm.MethodName)), 8, 211)]) (by decide +kernel) _ (List.mem_singleton.mpr rfl)), gw_sel 96 (by decide +kernel), .inl ⟨_, _, rfl⟩⟩⟩
theorem c_N_takeText {E2 : (Nat → Nat) → State → Heap → Prop} (hE : ai_XH E2) : ai_S E2 i_N_takeText f_N_takeText := snd_M (by decide) rfl (by decide) a_N_takeText kc_N_ok (by rfl) (by decide) (fun a i h => match a, h with
    | 0, h => by cases h; exact ⟨c_N_reading hE, w_N_reading⟩
    | _ + 1, h => by simp [cal_N_takeText, ai_nth] at h)
def k_N_text : ai_C := [
  [(0, .aload_n 0, 1, 0, 0, 0, 0, 0, []), (1, .iconst 0, 1, 0, 0, 0, 0, 0, []), (2, .putfield 145, 3, 12, 0, 67, 0, 0, []), (5, .iload_n 1, 1, 1, 0, 0, 0, 0, []), (6, .ifCond .lt 11, 3, 17, 0, 0, 0, 0, []), (9, .iload_n 1, 1, 1, 0, 0, 0, 0, []), (10, .aload_n 0, 1, 0, 0, 0, 0, 0, []), (11, .getfield 148, 3, 12, 2, 68, 0, 2, []), (14, .if_icmp .le 6, 3, 20, 0, 0, 0, 0, [])],
  [(17, .bipush (-2), 2, 0, 0, 0, 0, (-2), []), (19, .ireturn, 1, 0, 0, 0, 0, 0, []), (20, .aload_n 0, 1, 0, 0, 0, 0, 0, []), (21, .iload_n 1, 1, 1, 0, 0, 0, 0, []), (22, .invokevirtual 257, 3, 0, 2, 101, 9, 0, [(0, 12)]), (25, .aload_n 0, 1, 0, 0, 0, 0, 0, []), (26, .iconst 0, 1, 0, 0, 0, 0, 0, []), (27, .putfield 148, 3, 12, 2, 68, 0, 2, []), (30, .aload_n 0, 1, 0, 0, 0, 0, 0, []), (31, .aload_n 0, 1, 0, 0, 0, 0, 0, [])],
  [(32, .getfield 195, 3, 12, 16, 82, 0, 16, []), (35, .putfield 260, 3, 12, 18, 102, 0, 18, []), (38, .aload_n 0, 1, 0, 0, 0, 0, 0, []), (39, .aload_n 0, 1, 0, 0, 0, 0, 0, []), (40, .getfield 195, 3, 12, 16, 82, 0, 16, []), (43, .ifCond .ne 7, 3, 50, 0, 0, 0, 0, []), (46, .iconst (-1), 1, 0, 0, 0, 0, (-1), []), (47, .goto 7, 3, 54, 0, 0, 0, 0, [])],
  [(50, .aload_n 0, 1, 0, 0, 0, 0, 0, []), (51, .getfield 198, 3, 12, 17, 83, 0, 17, []), (54, .putfield 34, 3, 12, 19, 44, 0, 19, []), (57, .aload_n 0, 1, 0, 0, 0, 0, 0, []), (58, .getfield 195, 3, 12, 16, 82, 0, 16, []), (61, .ifCond .eq 5, 3, 66, 0, 0, 0, 0, [])],
  [(64, .iconst (-1), 1, 0, 0, 0, 0, (-1), []), (65, .ireturn, 1, 0, 0, 0, 0, 0, []), (66, .aload_n 0, 1, 0, 0, 0, 0, 0, []), (67, .invokevirtual 263, 3, 1, 1, 103, 9, 0, [(0, 12)]), (70, .aload_n 0, 1, 0, 0, 0, 0, 0, []), (71, .invokevirtual 142, 3, 2, 1, 66, 9, 0, [(0, 12)]), (74, .aload_n 0, 1, 0, 0, 0, 0, 0, []), (75, .getfield 251, 3, 12, 10, 99, 0, 10, []), (78, .ireturn, 1, 0, 0, 0, 0, 0, [])]]
def i_N_text : ai_I := ((⟨"SuiteBenchModel", "text", "(I)I"⟩, prog_14_method_27_code, 2, (some .int), 0, 14, 376, 0, 1, 0, 12) : ai_I)
def o_N_text (a : Nat) : SP := match a with
  | 0 => f_N_readText
  | 1 => f_N_takeText
  | 2 => f_N_lays
  | _ => fun _ _ _ _ _ => False
theorem mo_N_text : ∀ a, ai_mono (o_N_text a)
  | 0 => mf_N_readText
  | 1 => mf_N_takeText
  | 2 => mf_N_lays
  | _ + 3 => fun _ _ _ _ _ _ _ h => h
def f_N_text : SP := ai_M o_N_text 0 2 k_N_text
theorem mf_N_text : ai_mono f_N_text := M_mono mo_N_text
abbrev cal_N_text : List ai_I := [i_N_readText, i_N_takeText, i_N_lays]
theorem a_N_text : ai_all "SuiteBenchModel" prog_14_method_27_code 2 kc_N cal_N_text 14 376 false (some .int) k_N_text = true := by decide +kernel
theorem w_N_text : ai_CW i_N_text := ⟨(tk_mem (l := [((Jvm.Cond.code ({ cls := "SuiteBenchModel", name := "text", desc := "(I)I" } : Jvm.MethodName) prog_14_method_27_code (2 : Nat) (Option.some Jvm.ClassFile.FieldType.int)), 8, 73)]) (by decide +kernel) _ (List.mem_singleton.mpr rfl)), (tk_mem (l := [((Jvm.Cond.initialized "SuiteBenchModel"), 1, 15)]) (by decide +kernel) _ (List.mem_singleton.mpr rfl)), ⟨by decide +kernel, by decide +kernel, by decide +kernel⟩, ⟨(tk_mem (l := [((Jvm.Cond.instanceMethod ({ cls := "SuiteBenchModel", name := "text", desc := "(I)I" } : Jvm.MethodName)), 8, 71)]) (by decide +kernel) _ (List.mem_singleton.mpr rfl)), (tk_mem (l := [((Jvm.Cond.selects "SuiteBenchModel" ({ cls := "SuiteBenchModel", name := "text", desc := "(I)I" } : Jvm.MethodName) ({ cls := "SuiteBenchModel", name := "text", desc := "(I)I" } : Jvm.MethodName)), 8, 72)]) (by decide +kernel) _ (List.mem_singleton.mpr rfl)), .inl ⟨_, _, rfl⟩⟩⟩
theorem c_N_text {E2 : (Nat → Nat) → State → Heap → Prop} (hE : ai_XH E2) : ai_S E2 i_N_text f_N_text := snd_M (by decide) rfl (by decide) a_N_text kc_N_ok (by rfl) (by decide) (fun a i h => match a, h with
    | 0, h => by cases h; exact ⟨c_N_readText hE, w_N_readText⟩
    | 1, h => by cases h; exact ⟨c_N_takeText hE, w_N_takeText⟩
    | 2, h => by cases h; exact ⟨c_N_lays hE, w_N_lays⟩
    | _ + 3, h => by simp [cal_N_text, ai_nth] at h)
def k_B_fault : ai_C := [
  [(0, .iload_n 1, 1, 1, 0, 0, 0, 0, []), (1, .ifCond .ne 11, 3, 12, 0, 0, 0, 0, []), (4, .aload_n 0, 1, 0, 0, 0, 0, 0, []), (5, .getfield 10, 3, 11, 0, 31, 2, 0, []), (8, .getfield 114, 3, 4, 3, 74, 0, 3, []), (11, .ireturn, 1, 0, 0, 0, 0, 0, []), (12, .iload_n 1, 1, 1, 0, 0, 0, 0, []), (13, .iconst 1, 1, 0, 0, 0, 0, 1, []), (14, .if_icmp .ne 13, 3, 27, 0, 0, 0, 0, [])],
  [(17, .aload_n 0, 1, 0, 0, 0, 0, 0, []), (18, .getfield 10, 3, 11, 0, 31, 2, 0, []), (21, .getfield 117, 3, 4, 4, 75, 0, 4, []), (24, .goto 4, 3, 28, 0, 0, 0, 0, []), (27, .iconst (-1), 1, 0, 0, 0, 0, (-1), []), (28, .ireturn, 1, 0, 0, 0, 0, 0, [])]]
def i_B_fault : ai_I := ((⟨"SuiteBench", "fault", "(I)I"⟩, prog_1_method_4_code, 2, (some .int), 0, 0, 0, 0, 1, 0, 11) : ai_I)
def o_B_fault (_ : Nat) : SP := fun _ _ _ _ _ => False
theorem mo_B_fault : ∀ a, ai_mono (o_B_fault a) := fun _ _ _ _ _ _ _ _ h => h
def f_B_fault : SP := ai_M o_B_fault 0 2 k_B_fault
theorem mf_B_fault : ai_mono f_B_fault := M_mono mo_B_fault
abbrev cal_B_fault : List ai_I := []
theorem a_B_fault : ai_all "SuiteBench" prog_1_method_4_code 2 kc_B cal_B_fault 0 0 false (some .int) k_B_fault = true := by decide +kernel
theorem w_B_fault : ai_CW i_B_fault := ⟨(tk_mem (l := [((Jvm.Cond.code ({ cls := "SuiteBench", name := "fault", desc := "(I)I" } : Jvm.MethodName) prog_1_method_4_code (2 : Nat) (Option.some Jvm.ClassFile.FieldType.int)), 4, 99)]) (by decide +kernel) _ (List.mem_singleton.mpr rfl)), (tk_mem (l := [((Jvm.Cond.initialized "SuiteBench"), 1, 1)]) (by decide +kernel) _ (List.mem_singleton.mpr rfl)), ⟨by decide +kernel, by decide +kernel, by decide +kernel⟩, ⟨(tk_mem (l := [((Jvm.Cond.instanceMethod ({ cls := "SuiteBench", name := "fault", desc := "(I)I" } : Jvm.MethodName)), 4, 97)]) (by decide +kernel) _ (List.mem_singleton.mpr rfl)), (tk_mem (l := [((Jvm.Cond.selects "SuiteBench" ({ cls := "SuiteBench", name := "fault", desc := "(I)I" } : Jvm.MethodName) ({ cls := "SuiteBench", name := "fault", desc := "(I)I" } : Jvm.MethodName)), 4, 98)]) (by decide +kernel) _ (List.mem_singleton.mpr rfl)), .inl ⟨_, _, rfl⟩⟩⟩
theorem c_B_fault {E2 : (Nat → Nat) → State → Heap → Prop} (hE : ai_XH E2) : ai_S E2 i_B_fault f_B_fault := snd_M (by decide) rfl (by decide) a_B_fault kc_B_ok (by rfl) (by decide) (fun a i h => by simp [cal_B_fault, ai_nth] at h)
def k_N_fault : ai_C := [
  [(0, .aload_n 0, 1, 0, 0, 0, 0, 0, []), (1, .iconst 0, 1, 0, 0, 0, 0, 0, []), (2, .putfield 145, 3, 12, 0, 67, 0, 0, []), (5, .iload_n 1, 1, 1, 0, 0, 0, 0, []), (6, .ifCond .ne 10, 3, 16, 0, 0, 0, 0, []), (9, .aload_n 0, 1, 0, 0, 0, 0, 0, []), (10, .getfield 260, 3, 12, 18, 102, 0, 18, []), (13, .goto 16, 3, 29, 0, 0, 0, 0, [])],
  [(16, .iload_n 1, 1, 1, 0, 0, 0, 0, []), (17, .iconst 1, 1, 0, 0, 0, 0, 1, []), (18, .if_icmp .ne 10, 3, 28, 0, 0, 0, 0, []), (21, .aload_n 0, 1, 0, 0, 0, 0, 0, []), (22, .getfield 34, 3, 12, 19, 44, 0, 19, []), (25, .goto 4, 3, 29, 0, 0, 0, 0, []), (28, .iconst (-1), 1, 0, 0, 0, 0, (-1), []), (29, .ireturn, 1, 0, 0, 0, 0, 0, [])]]
def i_N_fault : ai_I := ((⟨"SuiteBenchModel", "fault", "(I)I"⟩, prog_14_method_28_code, 2, (some .int), 0, 0, 0, 0, 1, 0, 12) : ai_I)
def o_N_fault (_ : Nat) : SP := fun _ _ _ _ _ => False
theorem mo_N_fault : ∀ a, ai_mono (o_N_fault a) := fun _ _ _ _ _ _ _ _ h => h
def f_N_fault : SP := ai_M o_N_fault 0 2 k_N_fault
theorem mf_N_fault : ai_mono f_N_fault := M_mono mo_N_fault
abbrev cal_N_fault : List ai_I := []
theorem a_N_fault : ai_all "SuiteBenchModel" prog_14_method_28_code 2 kc_N cal_N_fault 0 0 false (some .int) k_N_fault = true := by decide +kernel
theorem w_N_fault : ai_CW i_N_fault := ⟨(tk_mem (l := [((Jvm.Cond.code ({ cls := "SuiteBenchModel", name := "fault", desc := "(I)I" } : Jvm.MethodName) prog_14_method_28_code (2 : Nat) (Option.some Jvm.ClassFile.FieldType.int)), 8, 216)]) (by decide +kernel) _ (List.mem_singleton.mpr rfl)), (tk_mem (l := [((Jvm.Cond.initialized "SuiteBenchModel"), 1, 15)]) (by decide +kernel) _ (List.mem_singleton.mpr rfl)), ⟨by decide +kernel, by decide +kernel, by decide +kernel⟩, ⟨(tk_mem (l := [((Jvm.Cond.instanceMethod ({ cls := "SuiteBenchModel", name := "fault", desc := "(I)I" } : Jvm.MethodName)), 8, 214)]) (by decide +kernel) _ (List.mem_singleton.mpr rfl)), (tk_mem (l := [((Jvm.Cond.selects "SuiteBenchModel" ({ cls := "SuiteBenchModel", name := "fault", desc := "(I)I" } : Jvm.MethodName) ({ cls := "SuiteBenchModel", name := "fault", desc := "(I)I" } : Jvm.MethodName)), 8, 215)]) (by decide +kernel) _ (List.mem_singleton.mpr rfl)), .inl ⟨_, _, rfl⟩⟩⟩
theorem c_N_fault {E2 : (Nat → Nat) → State → Heap → Prop} (hE : ai_XH E2) : ai_S E2 i_N_fault f_N_fault := snd_M (by decide) rfl (by decide) a_N_fault kc_N_ok (by rfl) (by decide) (fun a i h => by simp [cal_N_fault, ai_nth] at h)
def k_B_named : ai_C := [
  [(0, .aload_n 0, 1, 0, 0, 0, 0, 0, []), (1, .getfield 19, 3, 11, 12, 1, 2, 12, []), (4, .iload_n 1, 1, 1, 0, 0, 0, 0, []), (5, .invokevirtual 120, 3, 0, 2, 76, 0, 0, [(0, 3)]), (8, .istore_n 2, 1, 2, 0, 0, 0, 0, []), (9, .iload_n 2, 1, 2, 0, 0, 0, 0, []), (10, .ifCond .lt 5, 3, 15, 0, 0, 0, 0, []), (13, .iload_n 2, 1, 2, 0, 0, 0, 0, []), (14, .ireturn, 1, 0, 0, 0, 0, 0, []), (15, .aload_n 0, 1, 0, 0, 0, 0, 0, [])],
  [(16, .getfield 19, 3, 11, 12, 1, 2, 12, []), (19, .iload_n 1, 1, 1, 0, 0, 0, 0, []), (20, .invokevirtual 124, 3, 1, 2, 77, 0, 0, [(0, 3)]), (23, .istore_n 3, 1, 3, 0, 0, 0, 0, []), (24, .iload_n 3, 1, 3, 0, 0, 0, 0, []), (25, .ifCond .lt 10, 3, 35, 0, 0, 0, 0, []), (28, .bipush 100, 2, 0, 0, 0, 0, 100, []), (30, .iload_n 3, 1, 3, 0, 0, 0, 0, []), (31, .iadd, 1, 0, 0, 0, 0, 0, [])],
  [(32, .goto 4, 3, 36, 0, 0, 0, 0, []), (35, .iconst (-1), 1, 0, 0, 0, 0, (-1), []), (36, .ireturn, 1, 0, 0, 0, 0, 0, [])]]
def i_B_named : ai_I := ((⟨"SuiteBench", "named", "(I)I"⟩, prog_1_method_5_code, 4, (some .int), 0, 1, 22, 0, 1, 0, 11) : ai_I)
def o_B_named (a : Nat) : SP := match a with
  | 0 => f_P_placeNamed
  | 1 => f_P_inputNamed
  | _ => fun _ _ _ _ _ => False
theorem mo_B_named : ∀ a, ai_mono (o_B_named a)
  | 0 => mf_P_placeNamed
  | 1 => mf_P_inputNamed
  | _ + 2 => fun _ _ _ _ _ _ _ h => h
def f_B_named : SP := ai_M o_B_named 0 4 k_B_named
theorem mf_B_named : ai_mono f_B_named := M_mono mo_B_named
abbrev cal_B_named : List ai_I := [i_P_placeNamed, i_P_inputNamed]
theorem a_B_named : ai_all "SuiteBench" prog_1_method_5_code 4 kc_B cal_B_named 1 22 false (some .int) k_B_named = true := by decide +kernel
theorem w_B_named : ai_CW i_B_named := ⟨(tk_mem (l := [((Jvm.Cond.code ({ cls := "SuiteBench", name := "named", desc := "(I)I" } : Jvm.MethodName) prog_1_method_5_code (4 : Nat) (Option.some Jvm.ClassFile.FieldType.int)), 4, 103)]) (by decide +kernel) _ (List.mem_singleton.mpr rfl)), (tk_mem (l := [((Jvm.Cond.initialized "SuiteBench"), 1, 1)]) (by decide +kernel) _ (List.mem_singleton.mpr rfl)), ⟨by decide +kernel, by decide +kernel, by decide +kernel⟩, ⟨(tk_mem (l := [((Jvm.Cond.instanceMethod ({ cls := "SuiteBench", name := "named", desc := "(I)I" } : Jvm.MethodName)), 4, 101)]) (by decide +kernel) _ (List.mem_singleton.mpr rfl)), (tk_mem (l := [((Jvm.Cond.selects "SuiteBench" ({ cls := "SuiteBench", name := "named", desc := "(I)I" } : Jvm.MethodName) ({ cls := "SuiteBench", name := "named", desc := "(I)I" } : Jvm.MethodName)), 4, 102)]) (by decide +kernel) _ (List.mem_singleton.mpr rfl)), .inl ⟨_, _, rfl⟩⟩⟩
theorem c_B_named {E2 : (Nat → Nat) → State → Heap → Prop} (hE : ai_XH E2) : ai_S E2 i_B_named f_B_named := snd_M (by decide) rfl (by decide) a_B_named kc_B_ok (by rfl) (by decide) (fun a i h => match a, h with
    | 0, h => by cases h; exact ⟨c_P_placeNamed hE, w_P_placeNamed⟩
    | 1, h => by cases h; exact ⟨c_P_inputNamed hE, w_P_inputNamed⟩
    | _ + 2, h => by simp [cal_B_named, ai_nth] at h)
def k_N_places : ai_C := [
  [(0, .aload_n 0, 1, 0, 0, 0, 0, 0, []), (1, .getfield 13, 3, 12, 3, 0, 2, 3, []), (4, .iconst 0, 1, 0, 0, 0, 0, 0, []), (5, .iaload, 1, 0, 0, 0, 0, 0, []), (6, .aload_n 0, 1, 0, 0, 0, 0, 0, []), (7, .getfield 13, 3, 12, 3, 0, 2, 3, []), (10, .iconst 2, 1, 0, 0, 0, 0, 2, []), (11, .iaload, 1, 0, 0, 0, 0, 0, []), (12, .iadd, 1, 0, 0, 0, 0, 0, []), (13, .ireturn, 1, 0, 0, 0, 0, 0, [])]]
def i_N_places : ai_I := ((⟨"SuiteBenchModel", "places", "()I"⟩, prog_14_method_31_code, 1, (some .int), 0, 0, 0, 0, 0, 0, 12) : ai_I)
def o_N_places (_ : Nat) : SP := fun _ _ _ _ _ => False
theorem mo_N_places : ∀ a, ai_mono (o_N_places a) := fun _ _ _ _ _ _ _ _ h => h
def f_N_places : SP := ai_M o_N_places 0 1 k_N_places
theorem mf_N_places : ai_mono f_N_places := M_mono mo_N_places
abbrev cal_N_places : List ai_I := []
theorem a_N_places : ai_all "SuiteBenchModel" prog_14_method_31_code 1 kc_N cal_N_places 0 0 false (some .int) k_N_places = true := by decide +kernel
theorem w_N_places : ai_CW i_N_places := ⟨(tk_mem (l := [((Jvm.Cond.code ({ cls := "SuiteBenchModel", name := "places", desc := "()I" } : Jvm.MethodName) prog_14_method_31_code (1 : Nat) (Option.some Jvm.ClassFile.FieldType.int)), 8, 224)]) (by decide +kernel) _ (List.mem_singleton.mpr rfl)), (tk_mem (l := [((Jvm.Cond.initialized "SuiteBenchModel"), 1, 15)]) (by decide +kernel) _ (List.mem_singleton.mpr rfl)), ⟨by decide +kernel, by decide +kernel, by decide +kernel⟩, ⟨(tk_mem (l := [((Jvm.Cond.instanceMethod ({ cls := "SuiteBenchModel", name := "places", desc := "()I" } : Jvm.MethodName)), 8, 223)]) (by decide +kernel) _ (List.mem_singleton.mpr rfl)), gw_sel 97 (by decide +kernel), .inl ⟨_, _, rfl⟩⟩⟩
theorem c_N_places {E2 : (Nat → Nat) → State → Heap → Prop} (hE : ai_XH E2) : ai_S E2 i_N_places f_N_places := snd_M (by decide) rfl (by decide) a_N_places kc_N_ok (by rfl) (by decide) (fun a i h => by simp [cal_N_places, ai_nth] at h)
def k_N_named : ai_C := [
  [(0, .aload_n 0, 1, 0, 0, 0, 0, 0, []), (1, .iconst 0, 1, 0, 0, 0, 0, 0, []), (2, .putfield 145, 3, 12, 0, 67, 0, 0, []), (5, .aload_n 0, 1, 0, 0, 0, 0, 0, []), (6, .getfield 16, 3, 12, 4, 42, 2, 4, []), (9, .iconst 0, 1, 0, 0, 0, 0, 0, []), (10, .aload_n 0, 1, 0, 0, 0, 0, 0, []), (11, .invokevirtual 266, 3, 0, 1, 104, 0, 0, [(0, 12)]), (14, .iload_n 1, 1, 1, 0, 0, 0, 0, []), (15, .invokestatic 218, 3, 1, 4, 88, 0, 0, [(0, 12)])],
  [(18, .istore_n 2, 1, 2, 0, 0, 0, 0, []), (19, .aload_n 0, 1, 0, 0, 0, 0, 0, []), (20, .getfield 19, 3, 12, 5, 43, 2, 5, []), (23, .iconst 0, 1, 0, 0, 0, 0, 0, []), (24, .aload_n 0, 1, 0, 0, 0, 0, 0, []), (25, .invokevirtual 269, 3, 2, 1, 3, 0, 0, [(0, 12)]), (28, .iload_n 1, 1, 1, 0, 0, 0, 0, []), (29, .invokestatic 218, 3, 1, 4, 88, 0, 0, [(0, 12)])],
  [(32, .istore_n 3, 1, 3, 0, 0, 0, 0, []), (33, .iload_n 2, 1, 2, 0, 0, 0, 0, []), (34, .iconst (-1), 1, 0, 0, 0, 0, (-1), []), (35, .if_icmp .eq 7, 3, 42, 0, 0, 0, 0, []), (38, .iload_n 2, 1, 2, 0, 0, 0, 0, []), (39, .goto 16, 3, 55, 0, 0, 0, 0, []), (42, .iload_n 3, 1, 3, 0, 0, 0, 0, []), (43, .iconst (-1), 1, 0, 0, 0, 0, (-1), []), (44, .if_icmp .eq 10, 3, 54, 0, 0, 0, 0, []), (47, .bipush 100, 2, 0, 0, 0, 0, 100, [])],
  [(49, .iload_n 3, 1, 3, 0, 0, 0, 0, []), (50, .iadd, 1, 0, 0, 0, 0, 0, []), (51, .goto 4, 3, 55, 0, 0, 0, 0, []), (54, .iconst (-1), 1, 0, 0, 0, 0, (-1), []), (55, .ireturn, 1, 0, 0, 0, 0, 0, [])]]
def i_N_named : ai_I := ((⟨"SuiteBenchModel", "named", "(I)I"⟩, prog_14_method_33_code, 4, (some .int), 0, 1, 24, 0, 1, 0, 12) : ai_I)
def o_N_named (a : Nat) : SP := match a with
  | 0 => f_N_places
  | 1 => f_N_found
  | 2 => f_N_inputs
  | _ => fun _ _ _ _ _ => False
theorem mo_N_named : ∀ a, ai_mono (o_N_named a)
  | 0 => mf_N_places
  | 1 => mf_N_found
  | 2 => mf_N_inputs
  | _ + 3 => fun _ _ _ _ _ _ _ h => h
def f_N_named : SP := ai_M o_N_named 0 4 k_N_named
theorem mf_N_named : ai_mono f_N_named := M_mono mo_N_named
abbrev cal_N_named : List ai_I := [i_N_places, i_N_found, i_N_inputs]
theorem a_N_named : ai_all "SuiteBenchModel" prog_14_method_33_code 4 kc_N cal_N_named 1 24 false (some .int) k_N_named = true := by decide +kernel
theorem w_N_named : ai_CW i_N_named := ⟨(tk_mem (l := [((Jvm.Cond.code ({ cls := "SuiteBenchModel", name := "named", desc := "(I)I" } : Jvm.MethodName) prog_14_method_33_code (4 : Nat) (Option.some Jvm.ClassFile.FieldType.int)), 8, 220)]) (by decide +kernel) _ (List.mem_singleton.mpr rfl)), (tk_mem (l := [((Jvm.Cond.initialized "SuiteBenchModel"), 1, 15)]) (by decide +kernel) _ (List.mem_singleton.mpr rfl)), ⟨by decide +kernel, by decide +kernel, by decide +kernel⟩, ⟨(tk_mem (l := [((Jvm.Cond.instanceMethod ({ cls := "SuiteBenchModel", name := "named", desc := "(I)I" } : Jvm.MethodName)), 8, 218)]) (by decide +kernel) _ (List.mem_singleton.mpr rfl)), (tk_mem (l := [((Jvm.Cond.selects "SuiteBenchModel" ({ cls := "SuiteBenchModel", name := "named", desc := "(I)I" } : Jvm.MethodName) ({ cls := "SuiteBenchModel", name := "named", desc := "(I)I" } : Jvm.MethodName)), 8, 219)]) (by decide +kernel) _ (List.mem_singleton.mpr rfl)), .inl ⟨_, _, rfl⟩⟩⟩
theorem c_N_named {E2 : (Nat → Nat) → State → Heap → Prop} (hE : ai_XH E2) : ai_S E2 i_N_named f_N_named := snd_M (by decide) rfl (by decide) a_N_named kc_N_ok (by rfl) (by decide) (fun a i h => match a, h with
    | 0, h => by cases h; exact ⟨c_N_places hE, w_N_places⟩
    | 1, h => by cases h; exact ⟨c_N_found hE, w_N_found⟩
    | 2, h => by cases h; exact ⟨c_N_inputs hE, w_N_inputs⟩
    | _ + 3, h => by simp [cal_N_named, ai_nth] at h)
def k_N_isState : ai_C := [
  [(0, .iload_n 1, 1, 1, 0, 0, 0, 0, []), (1, .ifCond .lt 15, 3, 16, 0, 0, 0, 0, []), (4, .iload_n 1, 1, 1, 0, 0, 0, 0, []), (5, .aload_n 0, 1, 0, 0, 0, 0, 0, []), (6, .invokevirtual 272, 3, 0, 1, 2, 0, 0, [(0, 12)]), (9, .if_icmp .ge 7, 3, 16, 0, 0, 0, 0, []), (12, .iconst 1, 1, 0, 0, 0, 0, 1, []), (13, .goto 4, 3, 17, 0, 0, 0, 0, [])],
  [(16, .iconst 0, 1, 0, 0, 0, 0, 0, []), (17, .ireturn, 1, 0, 0, 0, 3, 0, [])]]
def i_N_isState : ai_I := ((⟨"SuiteBenchModel", "isState", "(I)Z"⟩, prog_14_method_40_code, 2, (some .boolean), 3, 1, 20, 0, 1, 0, 12) : ai_I)
def o_N_isState (a : Nat) : SP := match a with
  | 0 => f_N_states
  | _ => fun _ _ _ _ _ => False
theorem mo_N_isState : ∀ a, ai_mono (o_N_isState a)
  | 0 => mf_N_states
  | _ + 1 => fun _ _ _ _ _ _ _ h => h
def f_N_isState : SP := ai_M o_N_isState 0 2 k_N_isState
theorem mf_N_isState : ai_mono f_N_isState := M_mono mo_N_isState
abbrev cal_N_isState : List ai_I := [i_N_states]
theorem a_N_isState : ai_all "SuiteBenchModel" prog_14_method_40_code 2 kc_N cal_N_isState 1 20 false (some .boolean) k_N_isState = true := by decide +kernel
theorem w_N_isState : ai_CW i_N_isState := ⟨(tk_mem (l := [((Jvm.Cond.code ({ cls := "SuiteBenchModel", name := "isState", desc := "(I)Z" } : Jvm.MethodName) prog_14_method_40_code (2 : Nat) (Option.some Jvm.ClassFile.FieldType.boolean)), 8, 232)]) (by decide +kernel) _ (List.mem_singleton.mpr rfl)), (tk_mem (l := [((Jvm.Cond.initialized "SuiteBenchModel"), 1, 15)]) (by decide +kernel) _ (List.mem_singleton.mpr rfl)), ⟨by decide +kernel, by decide +kernel, by decide +kernel⟩, ⟨(tk_mem (l := [((Jvm.Cond.instanceMethod ({ cls := "SuiteBenchModel", name := "isState", desc := "(I)Z" } : Jvm.MethodName)), 8, 231)]) (by decide +kernel) _ (List.mem_singleton.mpr rfl)), gw_sel 98 (by decide +kernel), .inl ⟨_, _, rfl⟩⟩⟩
theorem c_N_isState {E2 : (Nat → Nat) → State → Heap → Prop} (hE : ai_XH E2) : ai_S E2 i_N_isState f_N_isState := snd_M (by decide) rfl (by decide) a_N_isState kc_N_ok (by rfl) (by decide) (fun a i h => match a, h with
    | 0, h => by cases h; exact ⟨c_N_states hE, w_N_states⟩
    | _ + 1, h => by simp [cal_N_isState, ai_nth] at h)
def k_N_isInput : ai_C := [
  [(0, .iload_n 1, 1, 1, 0, 0, 0, 0, []), (1, .ifCond .lt 15, 3, 16, 0, 0, 0, 0, []), (4, .iload_n 1, 1, 1, 0, 0, 0, 0, []), (5, .aload_n 0, 1, 0, 0, 0, 0, 0, []), (6, .invokevirtual 269, 3, 0, 1, 3, 0, 0, [(0, 12)]), (9, .if_icmp .ge 7, 3, 16, 0, 0, 0, 0, []), (12, .iconst 1, 1, 0, 0, 0, 0, 1, []), (13, .goto 4, 3, 17, 0, 0, 0, 0, [])],
  [(16, .iconst 0, 1, 0, 0, 0, 0, 0, []), (17, .ireturn, 1, 0, 0, 0, 3, 0, [])]]
def i_N_isInput : ai_I := ((⟨"SuiteBenchModel", "isInput", "(I)Z"⟩, prog_14_method_42_code, 2, (some .boolean), 3, 1, 20, 0, 1, 0, 12) : ai_I)
def o_N_isInput (a : Nat) : SP := match a with
  | 0 => f_N_inputs
  | _ => fun _ _ _ _ _ => False
theorem mo_N_isInput : ∀ a, ai_mono (o_N_isInput a)
  | 0 => mf_N_inputs
  | _ + 1 => fun _ _ _ _ _ _ _ h => h
def f_N_isInput : SP := ai_M o_N_isInput 0 2 k_N_isInput
theorem mf_N_isInput : ai_mono f_N_isInput := M_mono mo_N_isInput
abbrev cal_N_isInput : List ai_I := [i_N_inputs]
theorem a_N_isInput : ai_all "SuiteBenchModel" prog_14_method_42_code 2 kc_N cal_N_isInput 1 20 false (some .boolean) k_N_isInput = true := by decide +kernel
theorem w_N_isInput : ai_CW i_N_isInput := ⟨(tk_mem (l := [((Jvm.Cond.code ({ cls := "SuiteBenchModel", name := "isInput", desc := "(I)Z" } : Jvm.MethodName) prog_14_method_42_code (2 : Nat) (Option.some Jvm.ClassFile.FieldType.boolean)), 8, 236)]) (by decide +kernel) _ (List.mem_singleton.mpr rfl)), (tk_mem (l := [((Jvm.Cond.initialized "SuiteBenchModel"), 1, 15)]) (by decide +kernel) _ (List.mem_singleton.mpr rfl)), ⟨by decide +kernel, by decide +kernel, by decide +kernel⟩, ⟨(tk_mem (l := [((Jvm.Cond.instanceMethod ({ cls := "SuiteBenchModel", name := "isInput", desc := "(I)Z" } : Jvm.MethodName)), 8, 235)]) (by decide +kernel) _ (List.mem_singleton.mpr rfl)), gw_sel 99 (by decide +kernel), .inl ⟨_, _, rfl⟩⟩⟩
theorem c_N_isInput {E2 : (Nat → Nat) → State → Heap → Prop} (hE : ai_XH E2) : ai_S E2 i_N_isInput f_N_isInput := snd_M (by decide) rfl (by decide) a_N_isInput kc_N_ok (by rfl) (by decide) (fun a i h => match a, h with
    | 0, h => by cases h; exact ⟨c_N_inputs hE, w_N_inputs⟩
    | _ + 1, h => by simp [cal_N_isInput, ai_nth] at h)
def k_N_arc : ai_C := [
  [(0, .aload_n 0, 1, 0, 0, 0, 0, 0, []), (1, .iconst 0, 1, 0, 0, 0, 0, 0, []), (2, .putfield 145, 3, 12, 0, 67, 0, 0, []), (5, .aload_n 0, 1, 0, 0, 0, 0, 0, []), (6, .iload_n 1, 1, 1, 0, 0, 0, 0, []), (7, .invokevirtual 307, 3, 0, 2, 105, 0, 0, [(0, 12)]), (10, .ifCond .eq 11, 3, 21, 0, 0, 0, 0, []), (13, .aload_n 0, 1, 0, 0, 0, 0, 0, []), (14, .iload_n 2, 1, 2, 0, 0, 0, 0, []), (15, .invokevirtual 310, 3, 1, 2, 106, 0, 0, [(0, 12)])],
  [(18, .ifCond .ne 10, 3, 28, 0, 0, 0, 0, []), (21, .aload_n 0, 1, 0, 0, 0, 0, 0, []), (22, .iconst 1, 1, 0, 0, 0, 0, 1, []), (23, .putfield 145, 3, 12, 0, 67, 0, 0, []), (26, .iconst 0, 1, 0, 0, 0, 0, 0, []), (27, .ireturn, 1, 0, 0, 0, 0, 0, []), (28, .iload_n 3, 1, 3, 0, 0, 0, 0, []), (29, .ifCond .lt 8, 3, 37, 0, 0, 0, 0, [])],
  [(32, .iload_n 3, 1, 3, 0, 0, 0, 0, []), (33, .iconst 1, 1, 0, 0, 0, 0, 1, []), (34, .if_icmp .le 10, 3, 44, 0, 0, 0, 0, []), (37, .aload_n 0, 1, 0, 0, 0, 0, 0, []), (38, .iconst 2, 1, 0, 0, 0, 0, 2, []), (39, .putfield 145, 3, 12, 0, 67, 0, 0, []), (42, .iconst 0, 1, 0, 0, 0, 0, 0, []), (43, .ireturn, 1, 0, 0, 0, 0, 0, []), (44, .iconst 0, 1, 0, 0, 0, 0, 0, []), (45, .iconst 3, 1, 0, 0, 0, 0, 3, []), (46, .iload_n 1, 1, 1, 0, 0, 0, 0, []), (47, .imul, 1, 0, 0, 0, 0, 0, [])],
  [(48, .iadd, 1, 0, 0, 0, 0, 0, []), (49, .iload_n 2, 1, 2, 0, 0, 0, 0, []), (50, .iadd, 1, 0, 0, 0, 0, 0, []), (51, .istore 4, 2, 4, 0, 0, 0, 0, []), (53, .iload_n 3, 1, 3, 0, 0, 0, 0, []), (54, .ifCond .ne 13, 3, 67, 0, 0, 0, 0, []), (57, .aload_n 0, 1, 0, 0, 0, 0, 0, []), (58, .getfield 38, 3, 12, 20, 4, 2, 20, []), (61, .iload 4, 2, 4, 0, 0, 0, 0, []), (63, .iaload, 1, 0, 0, 0, 0, 0, [])],
  [(64, .goto 10, 3, 74, 0, 0, 0, 0, []), (67, .aload_n 0, 1, 0, 0, 0, 0, 0, []), (68, .getfield 41, 3, 12, 21, 10, 2, 21, []), (71, .iload 4, 2, 4, 0, 0, 0, 0, []), (73, .iaload, 1, 0, 0, 0, 0, 0, []), (74, .ireturn, 1, 0, 0, 0, 0, 0, [])]]
def i_N_arc : ai_I := ((⟨"SuiteBenchModel", "arc", "(III)I"⟩, prog_14_method_43_code, 5, (some .int), 0, 2, 41, 0, 3, 0, 12) : ai_I)
def o_N_arc (a : Nat) : SP := match a with
  | 0 => f_N_isState
  | 1 => f_N_isInput
  | _ => fun _ _ _ _ _ => False
theorem mo_N_arc : ∀ a, ai_mono (o_N_arc a)
  | 0 => mf_N_isState
  | 1 => mf_N_isInput
  | _ + 2 => fun _ _ _ _ _ _ _ h => h
def f_N_arc : SP := ai_M o_N_arc 0 5 k_N_arc
theorem mf_N_arc : ai_mono f_N_arc := M_mono mo_N_arc
abbrev cal_N_arc : List ai_I := [i_N_isState, i_N_isInput]
theorem a_N_arc : ai_all "SuiteBenchModel" prog_14_method_43_code 5 kc_N cal_N_arc 2 41 false (some .int) k_N_arc = true := by decide +kernel
theorem w_N_arc : ai_CW i_N_arc := ⟨(tk_mem (l := [((Jvm.Cond.code ({ cls := "SuiteBenchModel", name := "arc", desc := "(III)I" } : Jvm.MethodName) prog_14_method_43_code (5 : Nat) (Option.some Jvm.ClassFile.FieldType.int)), 8, 228)]) (by decide +kernel) _ (List.mem_singleton.mpr rfl)), (tk_mem (l := [((Jvm.Cond.initialized "SuiteBenchModel"), 1, 15)]) (by decide +kernel) _ (List.mem_singleton.mpr rfl)), ⟨by decide +kernel, by decide +kernel, by decide +kernel⟩, ⟨(tk_mem (l := [((Jvm.Cond.instanceMethod ({ cls := "SuiteBenchModel", name := "arc", desc := "(III)I" } : Jvm.MethodName)), 8, 226)]) (by decide +kernel) _ (List.mem_singleton.mpr rfl)), (tk_mem (l := [((Jvm.Cond.selects "SuiteBenchModel" ({ cls := "SuiteBenchModel", name := "arc", desc := "(III)I" } : Jvm.MethodName) ({ cls := "SuiteBenchModel", name := "arc", desc := "(III)I" } : Jvm.MethodName)), 8, 227)]) (by decide +kernel) _ (List.mem_singleton.mpr rfl)), .inl ⟨_, _, rfl⟩⟩⟩
theorem c_N_arc {E2 : (Nat → Nat) → State → Heap → Prop} (hE : ai_XH E2) : ai_S E2 i_N_arc f_N_arc := snd_M (by decide) rfl (by decide) a_N_arc kc_N_ok (by rfl) (by decide) (fun a i h => match a, h with
    | 0, h => by cases h; exact ⟨c_N_isState hE, w_N_isState⟩
    | 1, h => by cases h; exact ⟨c_N_isInput hE, w_N_isInput⟩
    | _ + 2, h => by simp [cal_N_arc, ai_nth] at h)
def k_N_thrown : ai_C := [
  [(0, .aload_n 0, 1, 0, 0, 0, 0, 0, []), (1, .getfield 145, 3, 12, 0, 67, 0, 0, []), (4, .ireturn, 1, 0, 0, 0, 0, 0, [])]]
def i_N_thrown : ai_I := ((⟨"SuiteBenchModel", "thrown", "()I"⟩, prog_14_method_2_code, 1, (some .int), 0, 0, 0, 0, 0, 0, 12) : ai_I)
def o_N_thrown (_ : Nat) : SP := fun _ _ _ _ _ => False
theorem mo_N_thrown : ∀ a, ai_mono (o_N_thrown a) := fun _ _ _ _ _ _ _ _ h => h
def f_N_thrown : SP := ai_M o_N_thrown 0 1 k_N_thrown
theorem mf_N_thrown : ai_mono f_N_thrown := M_mono mo_N_thrown
abbrev cal_N_thrown : List ai_I := []
theorem a_N_thrown : ai_all "SuiteBenchModel" prog_14_method_2_code 1 kc_N cal_N_thrown 0 0 false (some .int) k_N_thrown = true := by decide +kernel
theorem w_N_thrown : ai_CW i_N_thrown := ⟨(tk_mem (l := [((Jvm.Cond.code ({ cls := "SuiteBenchModel", name := "thrown", desc := "()I" } : Jvm.MethodName) prog_14_method_2_code (1 : Nat) (Option.some Jvm.ClassFile.FieldType.int)), 8, 65)]) (by decide +kernel) _ (List.mem_singleton.mpr rfl)), (tk_mem (l := [((Jvm.Cond.initialized "SuiteBenchModel"), 1, 15)]) (by decide +kernel) _ (List.mem_singleton.mpr rfl)), ⟨by decide +kernel, by decide +kernel, by decide +kernel⟩, ⟨(tk_mem (l := [((Jvm.Cond.instanceMethod ({ cls := "SuiteBenchModel", name := "thrown", desc := "()I" } : Jvm.MethodName)), 8, 63)]) (by decide +kernel) _ (List.mem_singleton.mpr rfl)), (tk_mem (l := [((Jvm.Cond.selects "SuiteBenchModel" ({ cls := "SuiteBenchModel", name := "thrown", desc := "()I" } : Jvm.MethodName) ({ cls := "SuiteBenchModel", name := "thrown", desc := "()I" } : Jvm.MethodName)), 8, 64)]) (by decide +kernel) _ (List.mem_singleton.mpr rfl)), .inl ⟨_, _, rfl⟩⟩⟩
theorem c_N_thrown {E2 : (Nat → Nat) → State → Heap → Prop} (hE : ai_XH E2) : ai_S E2 i_N_thrown f_N_thrown := snd_M (by decide) rfl (by decide) a_N_thrown kc_N_ok (by rfl) (by decide) (fun a i h => by simp [cal_N_thrown, ai_nth] at h)
def k_M_has : ai_C := [
  [(0, .iload_n 1, 1, 1, 0, 0, 0, 0, []), (1, .ifCond .lt 27, 3, 28, 0, 0, 0, 0, []), (4, .iload_n 1, 1, 1, 0, 0, 0, 0, []), (5, .aload_n 0, 1, 0, 0, 0, 0, 0, []), (6, .getfield 18, 3, 1, 2, 4, 0, 2, []), (9, .if_icmp .ge 19, 3, 28, 0, 0, 0, 0, []), (12, .iload_n 2, 1, 2, 0, 0, 0, 0, []), (13, .ifCond .lt 15, 3, 28, 0, 0, 0, 0, [])],
  [(16, .iload_n 2, 1, 2, 0, 0, 0, 0, []), (17, .aload_n 0, 1, 0, 0, 0, 0, 0, []), (18, .getfield 22, 3, 1, 3, 5, 0, 3, []), (21, .if_icmp .ge 7, 3, 28, 0, 0, 0, 0, []), (24, .iconst 1, 1, 0, 0, 0, 0, 1, []), (25, .goto 4, 3, 29, 0, 0, 0, 0, []), (28, .iconst 0, 1, 0, 0, 0, 0, 0, []), (29, .ireturn, 1, 0, 0, 0, 3, 0, [])]]
def i_M_has : ai_I := ((⟨"SuiteBench$Machine", "has", "(II)Z"⟩, prog_3_method_4_code, 3, (some .boolean), 3, 0, 0, 0, 2, 0, 1) : ai_I)
def o_M_has (_ : Nat) : SP := fun _ _ _ _ _ => False
theorem mo_M_has : ∀ a, ai_mono (o_M_has a) := fun _ _ _ _ _ _ _ _ h => h
def f_M_has : SP := ai_M o_M_has 0 3 k_M_has
theorem mf_M_has : ai_mono f_M_has := M_mono mo_M_has
abbrev cal_M_has : List ai_I := []
theorem a_M_has : ai_all "SuiteBench$Machine" prog_3_method_4_code 3 kc_M cal_M_has 0 0 false (some .boolean) k_M_has = true := by decide +kernel
theorem w_M_has : ai_CW i_M_has := ⟨(tk_mem (l := [((Jvm.Cond.code ({ cls := "SuiteBench$Machine", name := "has", desc := "(II)Z" } : Jvm.MethodName) prog_3_method_4_code (3 : Nat) (Option.some Jvm.ClassFile.FieldType.boolean)), 4, 113)]) (by decide +kernel) _ (List.mem_singleton.mpr rfl)), (tk_mem (l := [((Jvm.Cond.initialized "SuiteBench$Machine"), 1, 5)]) (by decide +kernel) _ (List.mem_singleton.mpr rfl)), ⟨by decide +kernel, by decide +kernel, by decide +kernel⟩, ⟨(tk_mem (l := [((Jvm.Cond.instanceMethod ({ cls := "SuiteBench$Machine", name := "has", desc := "(II)Z" } : Jvm.MethodName)), 4, 111)]) (by decide +kernel) _ (List.mem_singleton.mpr rfl)), (tk_mem (l := [((Jvm.Cond.selects "SuiteBench$Machine" ({ cls := "SuiteBench$Machine", name := "has", desc := "(II)Z" } : Jvm.MethodName) ({ cls := "SuiteBench$Machine", name := "has", desc := "(II)Z" } : Jvm.MethodName)), 4, 112)]) (by decide +kernel) _ (List.mem_singleton.mpr rfl)), .inl ⟨_, _, rfl⟩⟩⟩
theorem c_M_has {E2 : (Nat → Nat) → State → Heap → Prop} (hE : ai_XH E2) : ai_S E2 i_M_has f_M_has := snd_M (by decide) rfl (by decide) a_M_has kc_M_ok (by rfl) (by decide) (fun a i h => by simp [cal_M_has, ai_nth] at h)
