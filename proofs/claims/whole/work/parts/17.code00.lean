/-! the code of the methods, by program; what it rests on, looked at; the contracts -/
theorem gw_sel (i : Nat) {w : Jvm.Cond} (h : (decide (ai_nth (k2_sels lw_privs) i = some w) && ai_gd w) = true) : w ∈ ai_gw := by
  simp only [Bool.and_eq_true, decide_eq_true_eq] at h
  rw [nth_eq] at h
  exact gw_mem (List.mem_append_left _ (List.mem_of_getElem? h.1)) h.2
/-- what is owed of what lies outside: the two members of String that the model calls on its one text -/
def ai_txt : List Int := [115, 116, 97, 116, 101, 32, 105, 110, 112, 117, 116, 32, 109, 111, 114, 101, 32, 97, 114, 99, 32, 116, 119, 105, 115, 116, 32, 101, 120, 116, 114, 97, 32, 115, 101, 101, 100, 32]
def f_J_length : SP := fun A n hr h Q => A = [(5, 0)] ∧ Q (0, 38) n hr h
theorem mf_J_length : ai_mono f_J_length := fun _ _ _ _ _ _ hQ h => ⟨h.1, hQ _ _ _ _ h.2⟩
def i_J_length : ai_I := ((⟨"java/lang/String", "length", "()I"⟩, prog_23_method_54_code, 1, (some .int), 0, 3, 100, 0, 0, 0, 98) : ai_I)
def f_J_charAt : SP := fun A n hr h Q => ∃ i : Nat, A = [(5, 0), (0, (i : Int))] ∧ i < 38 ∧ Q (0, ai_txt.getD i 0) n hr h
theorem mf_J_charAt : ai_mono f_J_charAt := fun _ _ _ _ _ _ hQ h => by
  obtain ⟨i, h1, h2, h3⟩ := h
  exact ⟨i, h1, h2, hQ _ _ _ _ h3⟩
def i_J_charAt : ai_I := ((⟨"java/lang/String", "charAt", "(I)C"⟩, prog_23_method_56_code, 2, (some .char), 0, 6, 200, 0, 1, 0, 98) : ai_I)
def ai_XH (E2 : (Nat → Nat) → State → Heap → Prop) : Prop := (ai_S E2 i_J_length f_J_length ∧ ai_CW i_J_length) ∧ ai_S E2 i_J_charAt f_J_charAt ∧ ai_CW i_J_charAt
def k_J_fill : ai_C := [
  [(0, .iconst 0, 1, 0, 0, 0, 0, 0, []), (1, .istore_n 2, 1, 2, 0, 0, 0, 0, []), (2, .aload_n 0, 1, 0, 0, 0, 0, 0, []), (3, .arraylength, 1, 0, 0, 0, 50, 0, []), (4, .istore_n 3, 1, 3, 0, 0, 0, 0, []), (5, .iload_n 2, 1, 2, 0, 0, 0, 0, []), (6, .iload_n 3, 1, 3, 0, 0, 0, 0, []), (7, .if_icmp .ge 13, 3, 20, 0, 0, 0, 0, []), (10, .aload_n 0, 1, 0, 0, 0, 0, 0, []), (11, .iload_n 2, 1, 2, 0, 0, 0, 0, []), (12, .iload_n 1, 1, 1, 0, 0, 0, 0, []), (13, .iastore, 1, 0, 0, 0, 0, 0, []), (14, .iinc 2 1, 3, 2, 0, 0, 0, 1, [])],
  [(17, .goto (-12), 3, 5, 0, 0, 0, 0, []), (20, .return_, 1, 0, 0, 0, 0, 0, [])]]
def i_J_fill : ai_I := ((⟨"java/util/Arrays", "fill", "([II)V"⟩, prog_30_method_103_code, 4, none, 9, 0, 0, 0, 2, 1, 99) : ai_I)
def o_J_fill (_ : Nat) : SP := fun _ _ _ _ _ => False
theorem mo_J_fill : ∀ a, ai_mono (o_J_fill a) := fun _ _ _ _ _ _ _ _ h => h
def f_J_fill : SP := ai_M o_J_fill 0 4 k_J_fill
theorem mf_J_fill : ai_mono f_J_fill := M_mono mo_J_fill
abbrev cal_J_fill : List ai_I := []
theorem a_J_fill : ai_all "java/util/Arrays" prog_30_method_103_code 4 [] cal_J_fill 0 0 false none k_J_fill = true := by decide +kernel
theorem w_J_fill : ai_CW i_J_fill := ⟨(tk_mem (l := [((Jvm.Cond.code ({ cls := "java/util/Arrays", name := "fill", desc := "([II)V" } : Jvm.MethodName) prog_30_method_103_code (4 : Nat) (Option.none : Option Jvm.ClassFile.FieldType)), 1, 53)]) (by decide +kernel) _ (List.mem_singleton.mpr rfl)), (tk_mem (l := [((Jvm.Cond.initialized "java/util/Arrays"), 1, 4)]) (by decide +kernel) _ (List.mem_singleton.mpr rfl)), ⟨by decide +kernel, by decide +kernel, by decide +kernel⟩, (tk_mem (l := [((Jvm.Cond.static ({ cls := "java/util/Arrays", name := "fill", desc := "([II)V" } : Jvm.MethodName)), 1, 52)]) (by decide +kernel) _ (List.mem_singleton.mpr rfl))⟩
theorem c_J_fill {E2 : (Nat → Nat) → State → Heap → Prop} (hE : ai_XH E2) : ai_S E2 i_J_fill f_J_fill := snd_M (by decide) rfl (by decide) a_J_fill (fun _ h => by cases h) (by rfl) (by decide) (fun a i h => by simp [cal_J_fill, ai_nth] at h)
def k_P_clear : ai_C := [
  [(0, .aload_n 0, 1, 0, 0, 0, 0, 0, []), (1, .getfield 18, 3, 3, 2, 0, 2, 2, []), (4, .iconst (-1), 1, 0, 0, 0, 0, (-1), []), (5, .invokestatic 27, 3, 0, 2, 1, 9, 0, [(0, 99)]), (8, .aload_n 0, 1, 0, 0, 0, 0, 0, []), (9, .getfield 21, 3, 3, 3, 2, 2, 3, []), (12, .iconst (-1), 1, 0, 0, 0, 0, (-1), []), (13, .invokestatic 27, 3, 0, 2, 1, 9, 0, [(0, 99)])],
  [(16, .aload_n 0, 1, 0, 0, 0, 0, 0, []), (17, .iconst 0, 1, 0, 0, 0, 0, 0, []), (18, .putfield 33, 3, 3, 4, 3, 0, 4, []), (21, .aload_n 0, 1, 0, 0, 0, 0, 0, []), (22, .iconst 0, 1, 0, 0, 0, 0, 0, []), (23, .putfield 37, 3, 3, 5, 4, 0, 5, []), (26, .aload_n 0, 1, 0, 0, 0, 0, 0, []), (27, .iconst 0, 1, 0, 0, 0, 0, 0, []), (28, .putfield 40, 3, 3, 6, 5, 0, 6, []), (31, .aload_n 0, 1, 0, 0, 0, 0, 0, [])],
  [(32, .iconst 0, 1, 0, 0, 0, 0, 0, []), (33, .putfield 43, 3, 3, 7, 6, 0, 7, []), (36, .aload_n 0, 1, 0, 0, 0, 0, 0, []), (37, .iconst 0, 1, 0, 0, 0, 0, 0, []), (38, .putfield 46, 3, 3, 8, 7, 0, 8, []), (41, .aload_n 0, 1, 0, 0, 0, 0, 0, []), (42, .iconst 0, 1, 0, 0, 0, 0, 0, []), (43, .putfield 49, 3, 3, 9, 8, 0, 9, []), (46, .aload_n 0, 1, 0, 0, 0, 0, 0, []), (47, .iconst 0, 1, 0, 0, 0, 0, 0, [])],
  [(48, .putfield 52, 3, 3, 10, 9, 3, 10, []), (51, .aload_n 0, 1, 0, 0, 0, 0, 0, []), (52, .iconst 0, 1, 0, 0, 0, 0, 0, []), (53, .putfield 56, 3, 3, 11, 10, 3, 11, []), (56, .return_, 1, 0, 0, 0, 0, 0, [])]]
def i_P_clear : ai_I := ((⟨"SuiteBench$Plan", "clear", "()V"⟩, prog_5_method_2_code, 1, none, 9, 1, 23, 0, 0, 0, 3) : ai_I)
def o_P_clear (a : Nat) : SP := match a with
  | 0 => f_J_fill
  | _ => fun _ _ _ _ _ => False
theorem mo_P_clear : ∀ a, ai_mono (o_P_clear a)
  | 0 => mf_J_fill
  | _ + 1 => fun _ _ _ _ _ _ _ h => h
def f_P_clear : SP := ai_M o_P_clear 0 1 k_P_clear
theorem mf_P_clear : ai_mono f_P_clear := M_mono mo_P_clear
abbrev cal_P_clear : List ai_I := [i_J_fill]
theorem a_P_clear : ai_all "SuiteBench$Plan" prog_5_method_2_code 1 kc_P cal_P_clear 1 23 false none k_P_clear = true := by decide +kernel
theorem w_P_clear : ai_CW i_P_clear := ⟨(tk_mem (l := [((Jvm.Cond.code ({ cls := "SuiteBench$Plan", name := "clear", desc := "()V" } : Jvm.MethodName) prog_5_method_2_code (1 : Nat) (Option.none : Option Jvm.ClassFile.FieldType)), 1, 50)]) (by decide +kernel) _ (List.mem_singleton.mpr rfl)), (tk_mem (l := [((Jvm.Cond.initialized "SuiteBench$Plan"), 1, 3)]) (by decide +kernel) _ (List.mem_singleton.mpr rfl)), ⟨by decide +kernel, by decide +kernel, by decide +kernel⟩, ⟨(tk_mem (l := [((Jvm.Cond.instanceMethod ({ cls := "SuiteBench$Plan", name := "clear", desc := "()V" } : Jvm.MethodName)), 1, 48)]) (by decide +kernel) _ (List.mem_singleton.mpr rfl)), (tk_mem (l := [((Jvm.Cond.selects "SuiteBench$Plan" ({ cls := "SuiteBench$Plan", name := "clear", desc := "()V" } : Jvm.MethodName) ({ cls := "SuiteBench$Plan", name := "clear", desc := "()V" } : Jvm.MethodName)), 1, 49)]) (by decide +kernel) _ (List.mem_singleton.mpr rfl)), .inl ⟨_, _, rfl⟩⟩⟩
theorem c_P_clear {E2 : (Nat → Nat) → State → Heap → Prop} (hE : ai_XH E2) : ai_S E2 i_P_clear f_P_clear := snd_M (by decide) rfl (by decide) a_P_clear kc_P_ok (by rfl) (by decide) (fun a i h => match a, h with
    | 0, h => by cases h; exact ⟨c_J_fill hE, w_J_fill⟩
    | _ + 1, h => by simp [cal_P_clear, ai_nth] at h)
def k_P_init : ai_C := [
  [(0, .aload_n 0, 1, 0, 0, 0, 0, 0, []), (1, .invokespecial 3, 3, 0, 0, 11, 30, 0, []), (4, .aload_n 0, 1, 0, 0, 0, 0, 0, []), (5, .bipush 8, 2, 0, 0, 0, 0, 8, []), (7, .newarray .int, 2, 0, 0, 12, 50, 0, []), (9, .putfield 9, 3, 3, 0, 13, 2, 0, []), (12, .aload_n 0, 1, 0, 0, 0, 0, 0, []), (13, .iconst 3, 1, 0, 0, 0, 0, 3, []), (14, .newarray .int, 2, 0, 0, 12, 50, 0, [])],
  [(16, .putfield 15, 3, 3, 1, 14, 2, 1, []), (19, .aload_n 0, 1, 0, 0, 0, 0, 0, []), (20, .bipush 24, 2, 0, 0, 0, 0, 24, []), (22, .newarray .int, 2, 0, 0, 12, 50, 0, []), (24, .putfield 18, 3, 3, 2, 0, 2, 2, []), (27, .aload_n 0, 1, 0, 0, 0, 0, 0, []), (28, .bipush 24, 2, 0, 0, 0, 0, 24, []), (30, .newarray .int, 2, 0, 0, 12, 50, 0, [])],
  [(32, .putfield 21, 3, 3, 3, 2, 2, 3, []), (35, .aload_n 0, 1, 0, 0, 0, 0, 0, []), (36, .invokevirtual 24, 3, 0, 1, 15, 9, 0, [(0, 3)]), (39, .return_, 1, 0, 0, 0, 0, 0, [])]]
def i_P_init : ai_I := ((⟨"SuiteBench$Plan", "<init>", "()V"⟩, prog_5_method_1_code, 1, none, 9, 2, 43, 4, 0, 2, 3) : ai_I)
def o_P_init (a : Nat) : SP := match a with
  | 0 => f_P_clear
  | _ => fun _ _ _ _ _ => False
theorem mo_P_init : ∀ a, ai_mono (o_P_init a)
  | 0 => mf_P_clear
  | _ + 1 => fun _ _ _ _ _ _ _ h => h
def f_P_init : SP := ai_M o_P_init 4 1 k_P_init
theorem mf_P_init : ai_mono f_P_init := M_mono mo_P_init
abbrev cal_P_init : List ai_I := [i_P_clear]
theorem a_P_init : ai_all "SuiteBench$Plan" prog_5_method_1_code 1 kc_P cal_P_init 2 43 true none k_P_init = true := by decide +kernel
theorem w_P_init : ai_CW i_P_init := ⟨(tk_mem (l := [((Jvm.Cond.code ({ cls := "SuiteBench$Plan", name := "<init>", desc := "()V" } : Jvm.MethodName) prog_5_method_1_code (1 : Nat) (Option.none : Option Jvm.ClassFile.FieldType)), 1, 45)]) (by decide +kernel) _ (List.mem_singleton.mpr rfl)), (tk_mem (l := [((Jvm.Cond.initialized "SuiteBench$Plan"), 1, 3)]) (by decide +kernel) _ (List.mem_singleton.mpr rfl)), ⟨by decide +kernel, by decide +kernel, by decide +kernel⟩, ⟨(tk_mem (l := [((Jvm.Cond.instanceMethod ({ cls := "SuiteBench$Plan", name := "<init>", desc := "()V" } : Jvm.MethodName)), 1, 44)]) (by decide +kernel) _ (List.mem_singleton.mpr rfl)), rfl, rfl⟩⟩
theorem c_P_init {E2 : (Nat → Nat) → State → Heap → Prop} (hE : ai_XH E2) : ai_S E2 i_P_init f_P_init := snd_M (by decide) rfl (by decide) a_P_init kc_P_ok (by rfl) (by decide) (fun a i h => match a, h with
    | 0, h => by cases h; exact ⟨c_P_clear hE, w_P_clear⟩
    | _ + 1, h => by simp [cal_P_init, ai_nth] at h)
def k_R_init : ai_C := [
  [(0, .aload_n 0, 1, 0, 0, 0, 0, 0, []), (1, .invokespecial 3, 3, 0, 0, 0, 30, 0, []), (4, .aload_n 0, 1, 0, 0, 0, 0, 0, []), (5, .sipush 700, 3, 0, 0, 0, 0, 700, []), (8, .newarray .byte, 2, 0, 0, 1, 53, 0, []), (10, .putfield 9, 3, 4, 0, 2, 2, 0, []), (13, .aload_n 0, 1, 0, 0, 0, 0, 0, []), (14, .new 15, 3, 3, 4, 3, 5, 0, [])],
  [(17, .dup, 1, 0, 0, 0, 0, 0, []), (18, .invokespecial 17, 3, 0, 1, 6, 9, 4, [(0, 3)]), (21, .putfield 18, 3, 4, 1, 7, 2, 1, []), (24, .aload_n 0, 1, 0, 0, 0, 0, 0, []), (25, .iconst (-1), 1, 0, 0, 0, 0, (-1), []), (26, .putfield 22, 3, 4, 4, 8, 0, 4, []), (29, .return_, 1, 0, 0, 0, 0, 0, [])]]
def i_R_init : ai_I := ((⟨"SuiteBench$Reader", "<init>", "()V"⟩, prog_6_method_1_code, 1, none, 9, 3, 63, 6, 0, 2, 4) : ai_I)
def o_R_init (a : Nat) : SP := match a with
  | 0 => f_P_init
  | _ => fun _ _ _ _ _ => False
theorem mo_R_init : ∀ a, ai_mono (o_R_init a)
  | 0 => mf_P_init
  | _ + 1 => fun _ _ _ _ _ _ _ h => h
def f_R_init : SP := ai_M o_R_init 6 1 k_R_init
theorem mf_R_init : ai_mono f_R_init := M_mono mo_R_init
abbrev cal_R_init : List ai_I := [i_P_init]
theorem a_R_init : ai_all "SuiteBench$Reader" prog_6_method_1_code 1 kc_R cal_R_init 3 63 true none k_R_init = true := by decide +kernel
theorem w_R_init : ai_CW i_R_init := ⟨(tk_mem (l := [((Jvm.Cond.code ({ cls := "SuiteBench$Reader", name := "<init>", desc := "()V" } : Jvm.MethodName) prog_6_method_1_code (1 : Nat) (Option.none : Option Jvm.ClassFile.FieldType)), 1, 39)]) (by decide +kernel) _ (List.mem_singleton.mpr rfl)), (tk_mem (l := [((Jvm.Cond.initialized "SuiteBench$Reader"), 1, 2)]) (by decide +kernel) _ (List.mem_singleton.mpr rfl)), ⟨by decide +kernel, by decide +kernel, by decide +kernel⟩, ⟨(tk_mem (l := [((Jvm.Cond.instanceMethod ({ cls := "SuiteBench$Reader", name := "<init>", desc := "()V" } : Jvm.MethodName)), 1, 38)]) (by decide +kernel) _ (List.mem_singleton.mpr rfl)), rfl, rfl⟩⟩
theorem c_R_init {E2 : (Nat → Nat) → State → Heap → Prop} (hE : ai_XH E2) : ai_S E2 i_R_init f_R_init := snd_M (by decide) rfl (by decide) a_R_init kc_R_ok (by rfl) (by decide) (fun a i h => match a, h with
    | 0, h => by cases h; exact ⟨c_P_init hE, w_P_init⟩
    | _ + 1, h => by simp [cal_R_init, ai_nth] at h)
def k_M_init : ai_C := [
  [(0, .aload_n 0, 1, 0, 0, 0, 0, 0, []), (1, .invokespecial 3, 3, 0, 0, 0, 30, 0, []), (4, .aload_n 0, 1, 0, 0, 0, 0, 0, []), (5, .bipush 24, 2, 0, 0, 0, 0, 24, []), (7, .newarray .int, 2, 0, 0, 1, 50, 0, []), (9, .putfield 9, 3, 1, 0, 2, 2, 0, []), (12, .aload_n 0, 1, 0, 0, 0, 0, 0, []), (13, .bipush 24, 2, 0, 0, 0, 0, 24, []), (15, .newarray .int, 2, 0, 0, 1, 50, 0, [])],
  [(17, .putfield 15, 3, 1, 1, 3, 2, 1, []), (20, .return_, 1, 0, 0, 0, 0, 0, [])]]
def i_M_init : ai_I := ((⟨"SuiteBench$Machine", "<init>", "()V"⟩, prog_3_method_1_code, 1, none, 9, 1, 20, 2, 0, 2, 1) : ai_I)
def o_M_init (_ : Nat) : SP := fun _ _ _ _ _ => False
theorem mo_M_init : ∀ a, ai_mono (o_M_init a) := fun _ _ _ _ _ _ _ _ h => h
def f_M_init : SP := ai_M o_M_init 2 1 k_M_init
theorem mf_M_init : ai_mono f_M_init := M_mono mo_M_init
abbrev cal_M_init : List ai_I := []
theorem a_M_init : ai_all "SuiteBench$Machine" prog_3_method_1_code 1 kc_M cal_M_init 1 20 true none k_M_init = true := by decide +kernel
theorem w_M_init : ai_CW i_M_init := ⟨(tk_mem (l := [((Jvm.Cond.code ({ cls := "SuiteBench$Machine", name := "<init>", desc := "()V" } : Jvm.MethodName) prog_3_method_1_code (1 : Nat) (Option.none : Option Jvm.ClassFile.FieldType)), 1, 154)]) (by decide +kernel) _ (List.mem_singleton.mpr rfl)), (tk_mem (l := [((Jvm.Cond.initialized "SuiteBench$Machine"), 1, 5)]) (by decide +kernel) _ (List.mem_singleton.mpr rfl)), ⟨by decide +kernel, by decide +kernel, by decide +kernel⟩, ⟨(tk_mem (l := [((Jvm.Cond.instanceMethod ({ cls := "SuiteBench$Machine", name := "<init>", desc := "()V" } : Jvm.MethodName)), 1, 153)]) (by decide +kernel) _ (List.mem_singleton.mpr rfl)), rfl, rfl⟩⟩
theorem c_M_init {E2 : (Nat → Nat) → State → Heap → Prop} (hE : ai_XH E2) : ai_S E2 i_M_init f_M_init := snd_M (by decide) rfl (by decide) a_M_init kc_M_ok (by rfl) (by decide) (fun a i h => by simp [cal_M_init, ai_nth] at h)
def k_A_init : ai_C := [
  [(0, .aload_n 0, 1, 0, 0, 0, 0, 0, []), (1, .invokespecial 3, 3, 0, 0, 0, 30, 0, []), (4, .aload_n 0, 1, 0, 0, 0, 0, 0, []), (5, .bipush 6, 2, 0, 0, 0, 0, 6, []), (7, .newarray .int, 2, 0, 0, 1, 50, 0, []), (9, .putfield 9, 3, 9, 1, 2, 2, 1, []), (12, .aload_n 0, 1, 0, 0, 0, 0, 0, []), (13, .bipush 36, 2, 0, 0, 0, 0, 36, []), (15, .newarray .int, 2, 0, 0, 1, 50, 0, [])],
  [(17, .putfield 15, 3, 9, 2, 3, 2, 2, []), (20, .aload_n 0, 1, 0, 0, 0, 0, 0, []), (21, .bipush 6, 2, 0, 0, 0, 0, 6, []), (23, .newarray .int, 2, 0, 0, 1, 50, 0, []), (25, .putfield 18, 3, 9, 3, 4, 2, 3, []), (28, .aload_n 0, 1, 0, 0, 0, 0, 0, []), (29, .bipush 6, 2, 0, 0, 0, 0, 6, []), (31, .newarray .int, 2, 0, 0, 1, 50, 0, [])],
  [(33, .putfield 21, 3, 9, 4, 5, 2, 4, []), (36, .aload_n 0, 1, 0, 0, 0, 0, 0, []), (37, .bipush 36, 2, 0, 0, 0, 0, 36, []), (39, .newarray .int, 2, 0, 0, 1, 50, 0, []), (41, .putfield 24, 3, 9, 5, 6, 2, 5, []), (44, .aload_n 0, 1, 0, 0, 0, 0, 0, []), (45, .bipush 6, 2, 0, 0, 0, 0, 6, []), (47, .newarray .int, 2, 0, 0, 1, 50, 0, [])],
  [(49, .putfield 27, 3, 9, 6, 7, 2, 6, []), (52, .aload_n 0, 1, 0, 0, 0, 0, 0, []), (53, .bipush 6, 2, 0, 0, 0, 0, 6, []), (55, .newarray .int, 2, 0, 0, 1, 50, 0, []), (57, .putfield 30, 3, 9, 7, 8, 2, 7, []), (60, .aload_n 0, 1, 0, 0, 0, 0, 0, []), (61, .aload_n 1, 1, 1, 0, 0, 0, 0, []), (62, .putfield 33, 3, 9, 0, 9, 2, 0, [])],
  [(65, .return_, 1, 0, 0, 0, 0, 0, [])]]
def i_A_init : ai_I := ((⟨"SuiteBench$Traits", "<init>", "(LSuiteBench$Machine;)V"⟩, prog_11_method_1_code, 2, none, 9, 1, 20, 7, 1, 2, 9) : ai_I)
def o_A_init (_ : Nat) : SP := fun _ _ _ _ _ => False
theorem mo_A_init : ∀ a, ai_mono (o_A_init a) := fun _ _ _ _ _ _ _ _ h => h
def f_A_init : SP := ai_M o_A_init 7 2 k_A_init
theorem mf_A_init : ai_mono f_A_init := M_mono mo_A_init
abbrev cal_A_init : List ai_I := []
theorem a_A_init : ai_all "SuiteBench$Traits" prog_11_method_1_code 2 kc_A cal_A_init 1 20 true none k_A_init = true := by decide +kernel
theorem w_A_init : ai_CW i_A_init := ⟨(tk_mem (l := [((Jvm.Cond.code ({ cls := "SuiteBench$Traits", name := "<init>", desc := "(LSuiteBench$Machine;)V" } : Jvm.MethodName) prog_11_method_1_code (2 : Nat) (Option.none : Option Jvm.ClassFile.FieldType)), 1, 200)]) (by decide +kernel) _ (List.mem_singleton.mpr rfl)), (tk_mem (l := [((Jvm.Cond.initialized "SuiteBench$Traits"), 1, 6)]) (by decide +kernel) _ (List.mem_singleton.mpr rfl)), ⟨by decide +kernel, by decide +kernel, by decide +kernel⟩, ⟨(tk_mem (l := [((Jvm.Cond.instanceMethod ({ cls := "SuiteBench$Traits", name := "<init>", desc := "(LSuiteBench$Machine;)V" } : Jvm.MethodName)), 1, 199)]) (by decide +kernel) _ (List.mem_singleton.mpr rfl)), rfl, rfl⟩⟩
theorem c_A_init {E2 : (Nat → Nat) → State → Heap → Prop} (hE : ai_XH E2) : ai_S E2 i_A_init f_A_init := snd_M (by decide) rfl (by decide) a_A_init kc_A_ok (by rfl) (by decide) (fun a i h => by simp [cal_A_init, ai_nth] at h)
def k_S_init : ai_C := [
  [(0, .aload_n 0, 1, 0, 0, 0, 0, 0, []), (1, .invokespecial 5, 3, 0, 0, 0, 30, 0, []), (4, .aload_n 0, 1, 0, 0, 0, 0, 0, []), (5, .sipush 3280, 3, 0, 0, 0, 0, 3280, []), (8, .newarray .int, 2, 0, 0, 1, 50, 0, []), (10, .putfield 11, 3, 5, 2, 2, 2, 2, []), (13, .aload_n 0, 1, 0, 0, 0, 0, 0, []), (14, .sipush 3280, 3, 0, 0, 0, 0, 3280, [])],
  [(17, .newarray .int, 2, 0, 0, 1, 50, 0, []), (19, .putfield 15, 3, 5, 3, 3, 2, 3, []), (22, .aload_n 0, 1, 0, 0, 0, 0, 0, []), (23, .sipush 8192, 3, 0, 0, 0, 0, 8192, []), (26, .newarray .int, 2, 0, 0, 1, 50, 0, []), (28, .putfield 18, 3, 5, 4, 4, 2, 4, []), (31, .aload_n 0, 1, 0, 0, 0, 0, 0, [])],
  [(32, .bipush 6, 2, 0, 0, 0, 0, 6, []), (34, .newarray .int, 2, 0, 0, 1, 50, 0, []), (36, .putfield 21, 3, 5, 5, 5, 2, 5, []), (39, .aload_n 0, 1, 0, 0, 0, 0, 0, []), (40, .iconst 3, 1, 0, 0, 0, 0, 3, []), (41, .newarray .int, 2, 0, 0, 1, 50, 0, []), (43, .putfield 24, 3, 5, 6, 6, 2, 6, []), (46, .aload_n 0, 1, 0, 0, 0, 0, 0, []), (47, .bipush 64, 2, 0, 0, 0, 0, 64, [])],
  [(49, .newarray .int, 2, 0, 0, 1, 50, 0, []), (51, .putfield 27, 3, 5, 7, 7, 2, 7, []), (54, .aload_n 0, 1, 0, 0, 0, 0, 0, []), (55, .bipush 64, 2, 0, 0, 0, 0, 64, []), (57, .newarray .int, 2, 0, 0, 1, 50, 0, []), (59, .putfield 30, 3, 5, 8, 8, 2, 8, []), (62, .aload_n 0, 1, 0, 0, 0, 0, 0, []), (63, .aload_n 1, 1, 1, 0, 0, 0, 0, [])],
  [(64, .putfield 33, 3, 5, 0, 9, 2, 0, []), (67, .aload_n 0, 1, 0, 0, 0, 0, 0, []), (68, .aload_n 2, 1, 2, 0, 0, 0, 0, []), (69, .putfield 37, 3, 5, 1, 10, 2, 1, []), (72, .return_, 1, 0, 0, 0, 0, 0, [])]]
def i_S_init : ai_I := ((⟨"SuiteBench$Search", "<init>", "(LSuiteBench$Machine;LSuiteBench$Traits;)V"⟩, prog_7_method_1_code, 3, none, 9, 1, 20, 7, 2, 2, 5) : ai_I)
def o_S_init (_ : Nat) : SP := fun _ _ _ _ _ => False
theorem mo_S_init : ∀ a, ai_mono (o_S_init a) := fun _ _ _ _ _ _ _ _ h => h
def f_S_init : SP := ai_M o_S_init 7 3 k_S_init
theorem mf_S_init : ai_mono f_S_init := M_mono mo_S_init
abbrev cal_S_init : List ai_I := []
theorem a_S_init : ai_all "SuiteBench$Search" prog_7_method_1_code 3 kc_S cal_S_init 1 20 true none k_S_init = true := by decide +kernel
theorem w_S_init : ai_CW i_S_init := ⟨(tk_mem (l := [((Jvm.Cond.code ({ cls := "SuiteBench$Search", name := "<init>", desc := "(LSuiteBench$Machine;LSuiteBench$Traits;)V" } : Jvm.MethodName) prog_7_method_1_code (3 : Nat) (Option.none : Option Jvm.ClassFile.FieldType)), 2, 20)]) (by decide +kernel) _ (List.mem_singleton.mpr rfl)), (tk_mem (l := [((Jvm.Cond.initialized "SuiteBench$Search"), 1, 7)]) (by decide +kernel) _ (List.mem_singleton.mpr rfl)), ⟨by decide +kernel, by decide +kernel, by decide +kernel⟩, ⟨(tk_mem (l := [((Jvm.Cond.instanceMethod ({ cls := "SuiteBench$Search", name := "<init>", desc := "(LSuiteBench$Machine;LSuiteBench$Traits;)V" } : Jvm.MethodName)), 2, 19)]) (by decide +kernel) _ (List.mem_singleton.mpr rfl)), rfl, rfl⟩⟩
theorem c_S_init {E2 : (Nat → Nat) → State → Heap → Prop} (hE : ai_XH E2) : ai_S E2 i_S_init f_S_init := snd_M (by decide) rfl (by decide) a_S_init kc_S_ok (by rfl) (by decide) (fun a i h => by simp [cal_S_init, ai_nth] at h)
def k_W_init : ai_C := [
  [(0, .aload_n 0, 1, 0, 0, 0, 0, 0, []), (1, .invokespecial 5, 3, 0, 0, 0, 30, 0, []), (4, .aload_n 0, 1, 0, 0, 0, 0, 0, []), (5, .bipush 6, 2, 0, 0, 0, 0, 6, []), (7, .newarray .int, 2, 0, 0, 1, 50, 0, []), (9, .putfield 11, 3, 10, 2, 2, 2, 2, []), (12, .aload_n 0, 1, 0, 0, 0, 0, 0, []), (13, .bipush 6, 2, 0, 0, 0, 0, 6, []), (15, .newarray .int, 2, 0, 0, 1, 50, 0, [])],
  [(17, .putfield 15, 3, 10, 3, 3, 2, 3, []), (20, .aload_n 0, 1, 0, 0, 0, 0, 0, []), (21, .aload_n 1, 1, 1, 0, 0, 0, 0, []), (22, .putfield 18, 3, 10, 0, 4, 2, 0, []), (25, .aload_n 0, 1, 0, 0, 0, 0, 0, []), (26, .aload_n 2, 1, 2, 0, 0, 0, 0, []), (27, .putfield 22, 3, 10, 1, 5, 2, 1, []), (30, .return_, 1, 0, 0, 0, 0, 0, [])]]
def i_W_init : ai_I := ((⟨"SuiteBench$Walk", "<init>", "(LSuiteBench$Machine;LSuiteBench$Search;)V"⟩, prog_12_method_1_code, 3, none, 9, 1, 20, 2, 2, 2, 10) : ai_I)
def o_W_init (_ : Nat) : SP := fun _ _ _ _ _ => False
theorem mo_W_init : ∀ a, ai_mono (o_W_init a) := fun _ _ _ _ _ _ _ _ h => h
def f_W_init : SP := ai_M o_W_init 2 3 k_W_init
theorem mf_W_init : ai_mono f_W_init := M_mono mo_W_init
abbrev cal_W_init : List ai_I := []
theorem a_W_init : ai_all "SuiteBench$Walk" prog_12_method_1_code 3 kc_W cal_W_init 1 20 true none k_W_init = true := by decide +kernel
theorem w_W_init : ai_CW i_W_init := ⟨(tk_mem (l := [((Jvm.Cond.code ({ cls := "SuiteBench$Walk", name := "<init>", desc := "(LSuiteBench$Machine;LSuiteBench$Search;)V" } : Jvm.MethodName) prog_12_method_1_code (3 : Nat) (Option.none : Option Jvm.ClassFile.FieldType)), 2, 68)]) (by decide +kernel) _ (List.mem_singleton.mpr rfl)), (tk_mem (l := [((Jvm.Cond.initialized "SuiteBench$Walk"), 1, 9)]) (by decide +kernel) _ (List.mem_singleton.mpr rfl)), ⟨by decide +kernel, by decide +kernel, by decide +kernel⟩, ⟨(tk_mem (l := [((Jvm.Cond.instanceMethod ({ cls := "SuiteBench$Walk", name := "<init>", desc := "(LSuiteBench$Machine;LSuiteBench$Search;)V" } : Jvm.MethodName)), 2, 67)]) (by decide +kernel) _ (List.mem_singleton.mpr rfl)), rfl, rfl⟩⟩
theorem c_W_init {E2 : (Nat → Nat) → State → Heap → Prop} (hE : ai_XH E2) : ai_S E2 i_W_init f_W_init := snd_M (by decide) rfl (by decide) a_W_init kc_W_ok (by rfl) (by decide) (fun a i h => by simp [cal_W_init, ai_nth] at h)
def k_E_init : ai_C := [
  [(0, .aload_n 0, 1, 0, 0, 0, 0, 0, []), (1, .invokespecial 3, 3, 0, 0, 0, 30, 0, []), (4, .aload_n 0, 1, 0, 0, 0, 0, 0, []), (5, .iload_n 1, 1, 1, 0, 0, 0, 0, []), (6, .newarray .int, 2, 0, 0, 1, 50, 0, []), (8, .putfield 9, 3, 8, 0, 2, 2, 0, []), (11, .aload_n 0, 1, 0, 0, 0, 0, 0, []), (12, .iload_n 1, 1, 1, 0, 0, 0, 0, []), (13, .newarray .int, 2, 0, 0, 1, 50, 0, []), (15, .putfield 15, 3, 8, 1, 3, 2, 1, [])],
  [(18, .aload_n 0, 1, 0, 0, 0, 0, 0, []), (19, .iload_n 1, 1, 1, 0, 0, 0, 0, []), (20, .newarray .int, 2, 0, 0, 1, 50, 0, []), (22, .putfield 18, 3, 8, 2, 4, 2, 2, []), (25, .aload_n 0, 1, 0, 0, 0, 0, 0, []), (26, .iload_n 2, 1, 2, 0, 0, 0, 0, []), (27, .newarray .int, 2, 0, 0, 1, 50, 0, []), (29, .putfield 21, 3, 8, 3, 5, 2, 3, [])],
  [(32, .aload_n 0, 1, 0, 0, 0, 0, 0, []), (33, .iload_n 2, 1, 2, 0, 0, 0, 0, []), (34, .newarray .int, 2, 0, 0, 1, 50, 0, []), (36, .putfield 24, 3, 8, 4, 6, 2, 4, []), (39, .aload_n 0, 1, 0, 0, 0, 0, 0, []), (40, .iload_n 2, 1, 2, 0, 0, 0, 0, []), (41, .newarray .int, 2, 0, 0, 1, 50, 0, []), (43, .putfield 27, 3, 8, 5, 7, 2, 5, []), (46, .aload_n 0, 1, 0, 0, 0, 0, 0, []), (47, .aload_n 3, 1, 3, 0, 0, 0, 0, [])],
  [(48, .putfield 30, 3, 8, 6, 8, 2, 6, []), (51, .return_, 1, 0, 0, 0, 0, 0, [])]]
def i_E_init : ai_I := ((⟨"SuiteBench$Tests", "<init>", "(II[I)V"⟩, prog_10_method_1_code, 4, none, 9, 1, 20, 6, 3, 2, 8) : ai_I)
def o_E_init (_ : Nat) : SP := fun _ _ _ _ _ => False
theorem mo_E_init : ∀ a, ai_mono (o_E_init a) := fun _ _ _ _ _ _ _ _ h => h
def f_E_init : SP := ai_M o_E_init 6 4 k_E_init
theorem mf_E_init : ai_mono f_E_init := M_mono mo_E_init
abbrev cal_E_init : List ai_I := []
theorem a_E_init : ai_all "SuiteBench$Tests" prog_10_method_1_code 4 kc_E cal_E_init 1 20 true none k_E_init = true := by decide +kernel
theorem w_E_init : ai_CW i_E_init := ⟨(tk_mem (l := [((Jvm.Cond.code ({ cls := "SuiteBench$Tests", name := "<init>", desc := "(II[I)V" } : Jvm.MethodName) prog_10_method_1_code (4 : Nat) (Option.none : Option Jvm.ClassFile.FieldType)), 2, 94)]) (by decide +kernel) _ (List.mem_singleton.mpr rfl)), (tk_mem (l := [((Jvm.Cond.initialized "SuiteBench$Tests"), 1, 10)]) (by decide +kernel) _ (List.mem_singleton.mpr rfl)), ⟨by decide +kernel, by decide +kernel, by decide +kernel⟩, ⟨(tk_mem (l := [((Jvm.Cond.instanceMethod ({ cls := "SuiteBench$Tests", name := "<init>", desc := "(II[I)V" } : Jvm.MethodName)), 2, 93)]) (by decide +kernel) _ (List.mem_singleton.mpr rfl)), rfl, rfl⟩⟩
theorem c_E_init {E2 : (Nat → Nat) → State → Heap → Prop} (hE : ai_XH E2) : ai_S E2 i_E_init f_E_init := snd_M (by decide) rfl (by decide) a_E_init kc_E_ok (by rfl) (by decide) (fun a i h => by simp [cal_E_init, ai_nth] at h)
def k_T_init : ai_C := [
  [(0, .aload_n 0, 1, 0, 0, 0, 0, 0, []), (1, .invokespecial 5, 3, 0, 0, 0, 30, 0, []), (4, .aload_n 0, 1, 0, 0, 0, 0, 0, []), (5, .bipush 8, 2, 0, 0, 0, 0, 8, []), (7, .anewarray 11, 3, 0, 2, 1, 0, 0, []), (10, .putfield 13, 3, 6, 3, 3, 2, 3, []), (13, .aload_n 0, 1, 0, 0, 0, 0, 0, []), (14, .sipush 13650, 3, 0, 0, 0, 0, 13650, [])],
  [(17, .newarray .int, 2, 0, 0, 4, 50, 0, []), (19, .putfield 17, 3, 6, 4, 5, 2, 4, []), (22, .aload_n 0, 1, 0, 0, 0, 0, 0, []), (23, .sipush 4550, 3, 0, 0, 0, 0, 4550, []), (26, .newarray .int, 2, 0, 0, 4, 50, 0, []), (28, .putfield 21, 3, 6, 5, 6, 2, 5, []), (31, .aload_n 0, 1, 0, 0, 0, 0, 0, [])],
  [(32, .sipush 4550, 3, 0, 0, 0, 0, 4550, []), (35, .newarray .int, 2, 0, 0, 4, 50, 0, []), (37, .putfield 24, 3, 6, 6, 7, 2, 6, []), (40, .aload_n 0, 1, 0, 0, 0, 0, 0, []), (41, .sipush 4550, 3, 0, 0, 0, 0, 4550, []), (44, .newarray .int, 2, 0, 0, 4, 50, 0, []), (46, .putfield 27, 3, 6, 7, 8, 2, 7, [])],
  [(49, .aload_n 0, 1, 0, 0, 0, 0, 0, []), (50, .sipush 240, 3, 0, 0, 0, 0, 240, []), (53, .newarray .int, 2, 0, 0, 4, 50, 0, []), (55, .putfield 30, 3, 6, 8, 9, 2, 8, []), (58, .aload_n 0, 1, 0, 0, 0, 0, 0, []), (59, .aload_n 1, 1, 1, 0, 0, 0, 0, []), (60, .putfield 33, 3, 6, 0, 10, 2, 0, []), (63, .aload_n 0, 1, 0, 0, 0, 0, 0, [])],
  [(64, .aload_n 2, 1, 2, 0, 0, 0, 0, []), (65, .putfield 37, 3, 6, 1, 11, 2, 1, []), (68, .aload_n 0, 1, 0, 0, 0, 0, 0, []), (69, .new 41, 3, 10, 13, 12, 14, 0, []), (72, .dup, 1, 0, 0, 0, 0, 0, []), (73, .aload_n 1, 1, 1, 0, 0, 0, 0, []), (74, .aload_n 3, 1, 3, 0, 0, 0, 0, []), (75, .invokespecial 43, 3, 0, 3, 15, 9, 2, [(0, 10)]), (78, .putfield 46, 3, 6, 2, 16, 2, 2, [])],
  [(81, .sipush 4550, 3, 0, 0, 0, 0, 4550, []), (84, .newarray .int, 2, 0, 0, 4, 50, 0, []), (86, .astore 4, 2, 4, 0, 0, 0, 0, []), (88, .iconst 0, 1, 0, 0, 0, 0, 0, []), (89, .istore 5, 2, 5, 0, 0, 0, 0, []), (91, .iload 5, 2, 5, 0, 0, 0, 0, []), (93, .iconst 3, 1, 0, 0, 0, 0, 3, []), (94, .if_icmp .ge 72, 3, 166, 0, 0, 0, 0, [])],
  [(97, .getstatic 50, 3, 0, 0, 17, 0, 0, []), (100, .iload 5, 2, 5, 0, 0, 0, 0, []), (102, .iaload, 1, 0, 0, 0, 0, 0, []), (103, .bipush 26, 2, 0, 0, 0, 0, 26, []), (105, .imul, 1, 0, 0, 0, 0, 0, []), (106, .istore 6, 2, 6, 0, 0, 0, 0, []), (108, .getstatic 50, 3, 0, 0, 17, 0, 0, []), (111, .iload 5, 2, 5, 0, 0, 0, 0, [])],
  [(113, .iaload, 1, 0, 0, 0, 0, 0, []), (114, .iconst 5, 1, 0, 0, 0, 0, 5, []), (115, .imul, 1, 0, 0, 0, 0, 0, []), (116, .istore 7, 2, 7, 0, 0, 0, 0, []), (118, .aload_n 0, 1, 0, 0, 0, 0, 0, []), (119, .getfield 13, 3, 6, 3, 3, 2, 3, []), (122, .iload 5, 2, 5, 0, 0, 0, 0, []), (124, .new 11, 3, 8, 18, 1, 19, 0, []), (127, .dup, 1, 0, 0, 0, 0, 0, [])],
  [(128, .iload 6, 2, 6, 0, 0, 0, 0, []), (130, .iload 7, 2, 7, 0, 0, 0, 0, []), (132, .aload 4, 2, 4, 0, 0, 0, 0, []), (134, .invokespecial 53, 3, 1, 4, 20, 9, 6, [(0, 8)]), (137, .aastore, 1, 0, 0, 0, 0, 0, []), (138, .aload_n 0, 1, 0, 0, 0, 0, 0, []), (139, .getfield 13, 3, 6, 3, 3, 2, 3, []), (142, .iconst 3, 1, 0, 0, 0, 0, 3, []), (143, .iload 5, 2, 5, 0, 0, 0, 0, [])],
  [(145, .iadd, 1, 0, 0, 0, 0, 0, []), (146, .new 11, 3, 8, 18, 1, 19, 0, []), (149, .dup, 1, 0, 0, 0, 0, 0, []), (150, .iload 6, 2, 6, 0, 0, 0, 0, []), (152, .iload 7, 2, 7, 0, 0, 0, 0, []), (154, .aload 4, 2, 4, 0, 0, 0, 0, []), (156, .invokespecial 53, 3, 1, 4, 20, 9, 6, [(0, 8)]), (159, .aastore, 1, 0, 0, 0, 0, 0, [])],
  [(160, .iinc 5 1, 3, 5, 0, 0, 0, 1, []), (163, .goto (-72), 3, 91, 0, 0, 0, 0, []), (166, .aload_n 0, 1, 0, 0, 0, 0, 0, []), (167, .getfield 13, 3, 6, 3, 3, 2, 3, []), (170, .bipush 6, 2, 0, 0, 0, 0, 6, []), (172, .new 11, 3, 8, 18, 1, 19, 0, []), (175, .dup, 1, 0, 0, 0, 0, 0, [])],
  [(176, .sipush 253, 3, 0, 0, 0, 0, 253, []), (179, .iconst 1, 1, 0, 0, 0, 0, 1, []), (180, .aload 4, 2, 4, 0, 0, 0, 0, []), (182, .invokespecial 53, 3, 1, 4, 20, 9, 6, [(0, 8)]), (185, .aastore, 1, 0, 0, 0, 0, 0, []), (186, .aload_n 0, 1, 0, 0, 0, 0, 0, []), (187, .getfield 13, 3, 6, 3, 3, 2, 3, []), (190, .bipush 7, 2, 0, 0, 0, 0, 7, [])],
  [(192, .new 11, 3, 8, 18, 1, 19, 0, []), (195, .dup, 1, 0, 0, 0, 0, 0, []), (196, .sipush 253, 3, 0, 0, 0, 0, 253, []), (199, .iconst 1, 1, 0, 0, 0, 0, 1, []), (200, .aload 4, 2, 4, 0, 0, 0, 0, []), (202, .invokespecial 53, 3, 1, 4, 20, 9, 6, [(0, 8)]), (205, .aastore, 1, 0, 0, 0, 0, 0, []), (206, .return_, 1, 0, 0, 0, 0, 0, [])]]
def i_T_init : ai_I := ((⟨"SuiteBench$Suites", "<init>", "(LSuiteBench$Machine;LSuiteBench$Traits;LSuiteBench$Search;)V"⟩, prog_8_method_1_code, 8, none, 9, 2, 43, 66, 3, 2, 6) : ai_I)
def o_T_init (a : Nat) : SP := match a with
  | 0 => f_W_init
  | 1 => f_E_init
  | _ => fun _ _ _ _ _ => False
theorem mo_T_init : ∀ a, ai_mono (o_T_init a)
  | 0 => mf_W_init
  | 1 => mf_E_init
  | _ + 2 => fun _ _ _ _ _ _ _ h => h
def f_T_init : SP := ai_M o_T_init 66 8 k_T_init
theorem mf_T_init : ai_mono f_T_init := M_mono mo_T_init
abbrev cal_T_init : List ai_I := [i_W_init, i_E_init]
theorem a_T_init : ai_all "SuiteBench$Suites" prog_8_method_1_code 8 kc_T cal_T_init 2 43 true none k_T_init = true := by decide +kernel
theorem w_T_init : ai_CW i_T_init := ⟨(tk_mem (l := [((Jvm.Cond.code ({ cls := "SuiteBench$Suites", name := "<init>", desc := "(LSuiteBench$Machine;LSuiteBench$Traits;LSuiteBench$Search;)V" } : Jvm.MethodName) prog_8_method_1_code (8 : Nat) (Option.none : Option Jvm.ClassFile.FieldType)), 2, 60)]) (by decide +kernel) _ (List.mem_singleton.mpr rfl)), (tk_mem (l := [((Jvm.Cond.initialized "SuiteBench$Suites"), 1, 8)]) (by decide +kernel) _ (List.mem_singleton.mpr rfl)), ⟨by decide +kernel, by decide +kernel, by decide +kernel⟩, ⟨(tk_mem (l := [((Jvm.Cond.instanceMethod ({ cls := "SuiteBench$Suites", name := "<init>", desc := "(LSuiteBench$Machine;LSuiteBench$Traits;LSuiteBench$Search;)V" } : Jvm.MethodName)), 2, 59)]) (by decide +kernel) _ (List.mem_singleton.mpr rfl)), rfl, rfl⟩⟩
theorem c_T_init {E2 : (Nat → Nat) → State → Heap → Prop} (hE : ai_XH E2) : ai_S E2 i_T_init f_T_init := snd_M (by decide) rfl (by decide) a_T_init kc_T_ok (by rfl) (by decide) (fun a i h => match a, h with
    | 0, h => by cases h; exact ⟨c_W_init hE, w_W_init⟩
    | 1, h => by cases h; exact ⟨c_E_init hE, w_E_init⟩
    | _ + 2, h => by simp [cal_T_init, ai_nth] at h)
def k_U_init : ai_C := [
  [(0, .aload_n 0, 1, 0, 0, 0, 0, 0, []), (1, .invokespecial 3, 3, 0, 0, 0, 30, 0, []), (4, .aload_n 0, 1, 0, 0, 0, 0, 0, []), (5, .new 9, 3, 1, 2, 1, 3, 0, []), (8, .dup, 1, 0, 0, 0, 0, 0, []), (9, .invokespecial 11, 3, 0, 1, 4, 9, 2, [(0, 1)]), (12, .putfield 12, 3, 2, 3, 5, 2, 3, []), (15, .aload_n 0, 1, 0, 0, 0, 0, 0, [])],
  [(16, .new 9, 3, 1, 2, 1, 3, 0, []), (19, .dup, 1, 0, 0, 0, 0, 0, []), (20, .invokespecial 11, 3, 0, 1, 4, 9, 2, [(0, 1)]), (23, .putfield 18, 3, 2, 4, 6, 2, 4, []), (26, .aload_n 0, 1, 0, 0, 0, 0, 0, []), (27, .sipush 252, 3, 0, 0, 0, 0, 252, []), (30, .newarray .int, 2, 0, 0, 7, 50, 0, [])],
  [(32, .putfield 21, 3, 2, 5, 8, 2, 5, []), (35, .aload_n 0, 1, 0, 0, 0, 0, 0, []), (36, .sipush 252, 3, 0, 0, 0, 0, 252, []), (39, .newarray .boolean, 2, 0, 0, 9, 52, 0, []), (41, .putfield 25, 3, 2, 6, 10, 2, 6, []), (44, .aload_n 0, 1, 0, 0, 0, 0, 0, []), (45, .iconst 4, 1, 0, 0, 0, 0, 4, []), (46, .newarray .int, 2, 0, 0, 7, 50, 0, [])],
  [(48, .putfield 29, 3, 2, 7, 11, 2, 7, []), (51, .aload_n 0, 1, 0, 0, 0, 0, 0, []), (52, .iconst 4, 1, 0, 0, 0, 0, 4, []), (53, .newarray .int, 2, 0, 0, 7, 50, 0, []), (55, .putfield 32, 3, 2, 8, 12, 2, 8, []), (58, .aload_n 0, 1, 0, 0, 0, 0, 0, []), (59, .iconst 2, 1, 0, 0, 0, 0, 2, []), (60, .newarray .int, 2, 0, 0, 7, 50, 0, []), (62, .putfield 35, 3, 2, 9, 13, 2, 9, [])],
  [(65, .aload_n 0, 1, 0, 0, 0, 0, 0, []), (66, .iconst 4, 1, 0, 0, 0, 0, 4, []), (67, .newarray .int, 2, 0, 0, 7, 50, 0, []), (69, .putfield 38, 3, 2, 10, 14, 2, 10, []), (72, .aload_n 0, 1, 0, 0, 0, 0, 0, []), (73, .iconst 4, 1, 0, 0, 0, 0, 4, []), (74, .newarray .int, 2, 0, 0, 7, 50, 0, []), (76, .putfield 41, 3, 2, 11, 15, 2, 11, []), (79, .aload_n 0, 1, 0, 0, 0, 0, 0, [])],
  [(80, .sipush 7000, 3, 0, 0, 0, 0, 7000, []), (83, .newarray .int, 2, 0, 0, 7, 50, 0, []), (85, .putfield 44, 3, 2, 12, 16, 2, 12, []), (88, .aload_n 0, 1, 0, 0, 0, 0, 0, []), (89, .bipush 8, 2, 0, 0, 0, 0, 8, []), (91, .newarray .int, 2, 0, 0, 7, 50, 0, []), (93, .putfield 47, 3, 2, 13, 17, 2, 13, [])],
  [(96, .aload_n 0, 1, 0, 0, 0, 0, 0, []), (97, .aload_n 1, 1, 1, 0, 0, 0, 0, []), (98, .putfield 50, 3, 2, 0, 18, 2, 0, []), (101, .aload_n 0, 1, 0, 0, 0, 0, 0, []), (102, .aload_n 2, 1, 2, 0, 0, 0, 0, []), (103, .putfield 53, 3, 2, 1, 19, 2, 1, []), (106, .aload_n 0, 1, 0, 0, 0, 0, 0, []), (107, .aload_n 3, 1, 3, 0, 0, 0, 0, []), (108, .putfield 57, 3, 2, 2, 20, 2, 2, []), (111, .return_, 1, 0, 0, 0, 0, 0, [])]]
def i_U_init : ai_I := ((⟨"SuiteBench$Mutants", "<init>", "(LSuiteBench$Machine;LSuiteBench$Traits;LSuiteBench$Search;)V"⟩, prog_4_method_1_code, 4, none, 9, 2, 40, 15, 3, 2, 2) : ai_I)
def o_U_init (a : Nat) : SP := match a with
  | 0 => f_M_init
  | _ => fun _ _ _ _ _ => False
theorem mo_U_init : ∀ a, ai_mono (o_U_init a)
  | 0 => mf_M_init
  | _ + 1 => fun _ _ _ _ _ _ _ h => h
def f_U_init : SP := ai_M o_U_init 15 4 k_U_init
theorem mf_U_init : ai_mono f_U_init := M_mono mo_U_init
abbrev cal_U_init : List ai_I := [i_M_init]
theorem a_U_init : ai_all "SuiteBench$Mutants" prog_4_method_1_code 4 kc_U cal_U_init 2 40 true none k_U_init = true := by decide +kernel
theorem w_U_init : ai_CW i_U_init := ⟨(tk_mem (l := [((Jvm.Cond.code ({ cls := "SuiteBench$Mutants", name := "<init>", desc := "(LSuiteBench$Machine;LSuiteBench$Traits;LSuiteBench$Search;)V" } : Jvm.MethodName) prog_4_method_1_code (4 : Nat) (Option.none : Option Jvm.ClassFile.FieldType)), 2, 178)]) (by decide +kernel) _ (List.mem_singleton.mpr rfl)), (tk_mem (l := [((Jvm.Cond.initialized "SuiteBench$Mutants"), 1, 11)]) (by decide +kernel) _ (List.mem_singleton.mpr rfl)), ⟨by decide +kernel, by decide +kernel, by decide +kernel⟩, ⟨(tk_mem (l := [((Jvm.Cond.instanceMethod ({ cls := "SuiteBench$Mutants", name := "<init>", desc := "(LSuiteBench$Machine;LSuiteBench$Traits;LSuiteBench$Search;)V" } : Jvm.MethodName)), 2, 177)]) (by decide +kernel) _ (List.mem_singleton.mpr rfl)), rfl, rfl⟩⟩
theorem c_U_init {E2 : (Nat → Nat) → State → Heap → Prop} (hE : ai_XH E2) : ai_S E2 i_U_init f_U_init := snd_M (by decide) rfl (by decide) a_U_init kc_U_ok (by rfl) (by decide) (fun a i h => match a, h with
    | 0, h => by cases h; exact ⟨c_M_init hE, w_M_init⟩
    | _ + 1, h => by simp [cal_U_init, ai_nth] at h)
def k_L_init : ai_C := [
  [(0, .aload_n 0, 1, 0, 0, 0, 0, 0, []), (1, .invokespecial 3, 3, 0, 0, 0, 30, 0, []), (4, .aload_n 0, 1, 0, 0, 0, 0, 0, []), (5, .bipush 20, 2, 0, 0, 0, 0, 20, []), (7, .newarray .int, 2, 0, 0, 1, 50, 0, []), (9, .putfield 9, 3, 0, 0, 2, 2, 0, []), (12, .aload_n 0, 1, 0, 0, 0, 0, 0, []), (13, .bipush 20, 2, 0, 0, 0, 0, 20, []), (15, .newarray .long, 2, 0, 0, 3, 51, 0, [])],
  [(17, .putfield 15, 3, 0, 1, 4, 2, 1, []), (20, .return_, 1, 0, 0, 0, 0, 0, [])]]
def i_L_init : ai_I := ((⟨"SuiteBench$Log", "<init>", "()V"⟩, prog_2_method_1_code, 1, none, 9, 1, 20, 2, 0, 2, 0) : ai_I)
def o_L_init (_ : Nat) : SP := fun _ _ _ _ _ => False
theorem mo_L_init : ∀ a, ai_mono (o_L_init a) := fun _ _ _ _ _ _ _ _ h => h
def f_L_init : SP := ai_M o_L_init 2 1 k_L_init
theorem mf_L_init : ai_mono f_L_init := M_mono mo_L_init
abbrev cal_L_init : List ai_I := []
theorem a_L_init : ai_all "SuiteBench$Log" prog_2_method_1_code 1 kc_L cal_L_init 1 20 true none k_L_init = true := by decide +kernel
theorem w_L_init : ai_CW i_L_init := ⟨(tk_mem (l := [((Jvm.Cond.code ({ cls := "SuiteBench$Log", name := "<init>", desc := "()V" } : Jvm.MethodName) prog_2_method_1_code (1 : Nat) (Option.none : Option Jvm.ClassFile.FieldType)), 2, 238)]) (by decide +kernel) _ (List.mem_singleton.mpr rfl)), (tk_mem (l := [((Jvm.Cond.initialized "SuiteBench$Log"), 1, 12)]) (by decide +kernel) _ (List.mem_singleton.mpr rfl)), ⟨by decide +kernel, by decide +kernel, by decide +kernel⟩, ⟨(tk_mem (l := [((Jvm.Cond.instanceMethod ({ cls := "SuiteBench$Log", name := "<init>", desc := "()V" } : Jvm.MethodName)), 2, 237)]) (by decide +kernel) _ (List.mem_singleton.mpr rfl)), rfl, rfl⟩⟩
theorem c_L_init {E2 : (Nat → Nat) → State → Heap → Prop} (hE : ai_XH E2) : ai_S E2 i_L_init f_L_init := snd_M (by decide) rfl (by decide) a_L_init kc_L_ok (by rfl) (by decide) (fun a i h => by simp [cal_L_init, ai_nth] at h)
def k_X_init : ai_C := [
  [(0, .aload_n 0, 1, 0, 0, 0, 0, 0, []), (1, .invokespecial 3, 3, 0, 0, 0, 30, 0, []), (4, .aload_n 0, 1, 0, 0, 0, 0, 0, []), (5, .new 9, 3, 1, 2, 1, 3, 0, []), (8, .dup, 1, 0, 0, 0, 0, 0, []), (9, .invokespecial 11, 3, 0, 1, 4, 9, 2, [(0, 1)]), (12, .putfield 12, 3, 7, 3, 5, 2, 3, []), (15, .aload_n 0, 1, 0, 0, 0, 0, 0, [])],
  [(16, .sipush 253, 3, 0, 0, 0, 0, 253, []), (19, .newarray .int, 2, 0, 0, 6, 50, 0, []), (21, .putfield 18, 3, 7, 4, 7, 2, 4, []), (24, .aload_n 0, 1, 0, 0, 0, 0, 0, []), (25, .bipush 40, 2, 0, 0, 0, 0, 40, []), (27, .newarray .int, 2, 0, 0, 6, 50, 0, []), (29, .putfield 22, 3, 7, 5, 8, 2, 5, [])],
  [(32, .aload_n 0, 1, 0, 0, 0, 0, 0, []), (33, .bipush 16, 2, 0, 0, 0, 0, 16, []), (35, .newarray .int, 2, 0, 0, 6, 50, 0, []), (37, .putfield 25, 3, 7, 6, 9, 2, 6, []), (40, .aload_n 0, 1, 0, 0, 0, 0, 0, []), (41, .sipush 640, 3, 0, 0, 0, 0, 640, []), (44, .newarray .int, 2, 0, 0, 6, 50, 0, []), (46, .putfield 28, 3, 7, 7, 10, 2, 7, [])],
  [(49, .aload_n 0, 1, 0, 0, 0, 0, 0, []), (50, .sipush 640, 3, 0, 0, 0, 0, 640, []), (53, .newarray .int, 2, 0, 0, 6, 50, 0, []), (55, .putfield 31, 3, 7, 8, 11, 2, 8, []), (58, .aload_n 0, 1, 0, 0, 0, 0, 0, []), (59, .sipush 400, 3, 0, 0, 0, 0, 400, []), (62, .newarray .int, 2, 0, 0, 6, 50, 0, [])],
  [(64, .putfield 34, 3, 7, 9, 12, 2, 9, []), (67, .aload_n 0, 1, 0, 0, 0, 0, 0, []), (68, .sipush 400, 3, 0, 0, 0, 0, 400, []), (71, .newarray .int, 2, 0, 0, 6, 50, 0, []), (73, .putfield 37, 3, 7, 10, 13, 2, 10, []), (76, .aload_n 0, 1, 0, 0, 0, 0, 0, []), (77, .bipush 40, 2, 0, 0, 0, 0, 40, []), (79, .newarray .int, 2, 0, 0, 6, 50, 0, [])],
  [(81, .putfield 40, 3, 7, 11, 14, 2, 11, []), (84, .aload_n 0, 1, 0, 0, 0, 0, 0, []), (85, .aload_n 1, 1, 1, 0, 0, 0, 0, []), (86, .putfield 43, 3, 7, 0, 15, 2, 0, []), (89, .aload_n 0, 1, 0, 0, 0, 0, 0, []), (90, .aload_n 2, 1, 2, 0, 0, 0, 0, []), (91, .putfield 46, 3, 7, 1, 16, 2, 1, []), (94, .aload_n 0, 1, 0, 0, 0, 0, 0, []), (95, .aload_n 3, 1, 3, 0, 0, 0, 0, [])],
  [(96, .putfield 50, 3, 7, 2, 17, 2, 2, []), (99, .return_, 1, 0, 0, 0, 0, 0, [])]]
def i_X_init : ai_I := ((⟨"SuiteBench$Suspects", "<init>", "(LSuiteBench$Machine;LSuiteBench$Mutants;LSuiteBench$Log;)V"⟩, prog_9_method_1_code, 4, none, 9, 2, 40, 11, 3, 2, 7) : ai_I)
def o_X_init (a : Nat) : SP := match a with
  | 0 => f_M_init
  | _ => fun _ _ _ _ _ => False
theorem mo_X_init : ∀ a, ai_mono (o_X_init a)
  | 0 => mf_M_init
  | _ + 1 => fun _ _ _ _ _ _ _ h => h
def f_X_init : SP := ai_M o_X_init 11 4 k_X_init
theorem mf_X_init : ai_mono f_X_init := M_mono mo_X_init
abbrev cal_X_init : List ai_I := [i_M_init]
theorem a_X_init : ai_all "SuiteBench$Suspects" prog_9_method_1_code 4 kc_X cal_X_init 2 40 true none k_X_init = true := by decide +kernel
theorem w_X_init : ai_CW i_X_init := ⟨(tk_mem (l := [((Jvm.Cond.code ({ cls := "SuiteBench$Suspects", name := "<init>", desc := "(LSuiteBench$Machine;LSuiteBench$Mutants;LSuiteBench$Log;)V" } : Jvm.MethodName) prog_9_method_1_code (4 : Nat) (Option.none : Option Jvm.ClassFile.FieldType)), 3, 16)]) (by decide +kernel) _ (List.mem_singleton.mpr rfl)), (tk_mem (l := [((Jvm.Cond.initialized "SuiteBench$Suspects"), 1, 13)]) (by decide +kernel) _ (List.mem_singleton.mpr rfl)), ⟨by decide +kernel, by decide +kernel, by decide +kernel⟩, ⟨(tk_mem (l := [((Jvm.Cond.instanceMethod ({ cls := "SuiteBench$Suspects", name := "<init>", desc := "(LSuiteBench$Machine;LSuiteBench$Mutants;LSuiteBench$Log;)V" } : Jvm.MethodName)), 3, 15)]) (by decide +kernel) _ (List.mem_singleton.mpr rfl)), rfl, rfl⟩⟩
theorem c_X_init {E2 : (Nat → Nat) → State → Heap → Prop} (hE : ai_XH E2) : ai_S E2 i_X_init f_X_init := snd_M (by decide) rfl (by decide) a_X_init kc_X_ok (by rfl) (by decide) (fun a i h => match a, h with
    | 0, h => by cases h; exact ⟨c_M_init hE, w_M_init⟩
    | _ + 1, h => by simp [cal_X_init, ai_nth] at h)
def k_M_still : ai_C := [
  [(0, .aload_n 0, 1, 0, 0, 0, 0, 0, []), (1, .iload_n 1, 1, 1, 0, 0, 0, 0, []), (2, .putfield 18, 3, 1, 2, 4, 0, 2, []), (5, .aload_n 0, 1, 0, 0, 0, 0, 0, []), (6, .iload_n 2, 1, 2, 0, 0, 0, 0, []), (7, .putfield 22, 3, 1, 3, 5, 0, 3, []), (10, .iconst 0, 1, 0, 0, 0, 0, 0, []), (11, .istore_n 3, 1, 3, 0, 0, 0, 0, []), (12, .iload_n 3, 1, 3, 0, 0, 0, 0, []), (13, .bipush 24, 2, 0, 0, 0, 0, 24, []), (15, .if_icmp .ge 25, 3, 40, 0, 0, 0, 0, [])],
  [(18, .aload_n 0, 1, 0, 0, 0, 0, 0, []), (19, .getfield 9, 3, 1, 0, 2, 2, 0, []), (22, .iload_n 3, 1, 3, 0, 0, 0, 0, []), (23, .iload_n 3, 1, 3, 0, 0, 0, 0, []), (24, .iconst 3, 1, 0, 0, 0, 0, 3, []), (25, .idiv, 1, 0, 0, 0, 0, 0, []), (26, .iastore, 1, 0, 0, 0, 0, 0, []), (27, .aload_n 0, 1, 0, 0, 0, 0, 0, []), (28, .getfield 15, 3, 1, 1, 3, 2, 1, []), (31, .iload_n 3, 1, 3, 0, 0, 0, 0, [])],
  [(32, .iconst 0, 1, 0, 0, 0, 0, 0, []), (33, .iastore, 1, 0, 0, 0, 0, 0, []), (34, .iinc 3 1, 3, 3, 0, 0, 0, 1, []), (37, .goto (-25), 3, 12, 0, 0, 0, 0, []), (40, .return_, 1, 0, 0, 0, 0, 0, [])]]
def i_M_still : ai_I := ((⟨"SuiteBench$Machine", "still", "(II)V"⟩, prog_3_method_2_code, 4, none, 9, 0, 0, 0, 2, 0, 1) : ai_I)
def o_M_still (_ : Nat) : SP := fun _ _ _ _ _ => False
theorem mo_M_still : ∀ a, ai_mono (o_M_still a) := fun _ _ _ _ _ _ _ _ h => h
def f_M_still : SP := ai_M o_M_still 0 4 k_M_still
theorem mf_M_still : ai_mono f_M_still := M_mono mo_M_still
abbrev cal_M_still : List ai_I := []
theorem a_M_still : ai_all "SuiteBench$Machine" prog_3_method_2_code 4 kc_M cal_M_still 0 0 false none k_M_still = true := by decide +kernel
theorem w_M_still : ai_CW i_M_still := ⟨(tk_mem (l := [((Jvm.Cond.code ({ cls := "SuiteBench$Machine", name := "still", desc := "(II)V" } : Jvm.MethodName) prog_3_method_2_code (4 : Nat) (Option.none : Option Jvm.ClassFile.FieldType)), 3, 82)]) (by decide +kernel) _ (List.mem_singleton.mpr rfl)), (tk_mem (l := [((Jvm.Cond.initialized "SuiteBench$Machine"), 1, 5)]) (by decide +kernel) _ (List.mem_singleton.mpr rfl)), ⟨by decide +kernel, by decide +kernel, by decide +kernel⟩, ⟨(tk_mem (l := [((Jvm.Cond.instanceMethod ({ cls := "SuiteBench$Machine", name := "still", desc := "(II)V" } : Jvm.MethodName)), 3, 80)]) (by decide +kernel) _ (List.mem_singleton.mpr rfl)), (tk_mem (l := [((Jvm.Cond.selects "SuiteBench$Machine" ({ cls := "SuiteBench$Machine", name := "still", desc := "(II)V" } : Jvm.MethodName) ({ cls := "SuiteBench$Machine", name := "still", desc := "(II)V" } : Jvm.MethodName)), 3, 81)]) (by decide +kernel) _ (List.mem_singleton.mpr rfl)), .inl ⟨_, _, rfl⟩⟩⟩
theorem c_M_still {E2 : (Nat → Nat) → State → Heap → Prop} (hE : ai_XH E2) : ai_S E2 i_M_still f_M_still := snd_M (by decide) rfl (by decide) a_M_still kc_M_ok (by rfl) (by decide) (fun a i h => by simp [cal_M_still, ai_nth] at h)
def k_M_tellArcs : ai_C := [
  [(0, .iconst 0, 1, 0, 0, 0, 0, 0, []), (1, .istore_n 2, 1, 2, 0, 0, 0, 0, []), (2, .iload_n 2, 1, 2, 0, 0, 0, 0, []), (3, .bipush 24, 2, 0, 0, 0, 0, 24, []), (5, .if_icmp .ge 45, 3, 50, 0, 0, 0, 0, []), (8, .iload_n 2, 1, 2, 0, 0, 0, 0, []), (9, .aload_n 1, 1, 1, 0, 0, 0, 0, []), (10, .arraylength, 1, 0, 0, 0, 50, 0, []), (11, .if_icmp .ge 39, 3, 50, 0, 0, 0, 0, []), (14, .aload_n 1, 1, 1, 0, 0, 0, 0, []), (15, .iload_n 2, 1, 2, 0, 0, 0, 0, [])],
  [(16, .iaload, 1, 0, 0, 0, 0, 0, []), (17, .iconst (-1), 1, 0, 0, 0, 0, (-1), []), (18, .if_icmp .eq 26, 3, 44, 0, 0, 0, 0, []), (21, .aload_n 0, 1, 0, 0, 0, 0, 0, []), (22, .getfield 9, 3, 1, 0, 2, 2, 0, []), (25, .iload_n 2, 1, 2, 0, 0, 0, 0, []), (26, .aload_n 1, 1, 1, 0, 0, 0, 0, []), (27, .iload_n 2, 1, 2, 0, 0, 0, 0, []), (28, .iaload, 1, 0, 0, 0, 0, 0, []), (29, .iconst 4, 1, 0, 0, 0, 0, 4, []), (30, .ishr, 1, 0, 0, 0, 0, 0, []), (31, .iastore, 1, 0, 0, 0, 0, 0, [])],
  [(32, .aload_n 0, 1, 0, 0, 0, 0, 0, []), (33, .getfield 15, 3, 1, 1, 3, 2, 1, []), (36, .iload_n 2, 1, 2, 0, 0, 0, 0, []), (37, .aload_n 1, 1, 1, 0, 0, 0, 0, []), (38, .iload_n 2, 1, 2, 0, 0, 0, 0, []), (39, .iaload, 1, 0, 0, 0, 0, 0, []), (40, .bipush 15, 2, 0, 0, 0, 0, 15, []), (42, .iand, 1, 0, 0, 0, 0, 0, []), (43, .iastore, 1, 0, 0, 0, 0, 0, []), (44, .iinc 2 1, 3, 2, 0, 0, 0, 1, []), (47, .goto (-45), 3, 2, 0, 0, 0, 0, [])],
  [(50, .return_, 1, 0, 0, 0, 0, 0, [])]]
def i_M_tellArcs : ai_I := ((⟨"SuiteBench$Machine", "tellArcs", "([I)V"⟩, prog_3_method_3_code, 3, none, 9, 0, 0, 0, 1, 0, 1) : ai_I)
def o_M_tellArcs (_ : Nat) : SP := fun _ _ _ _ _ => False
theorem mo_M_tellArcs : ∀ a, ai_mono (o_M_tellArcs a) := fun _ _ _ _ _ _ _ _ h => h
def f_M_tellArcs : SP := ai_M o_M_tellArcs 0 3 k_M_tellArcs
theorem mf_M_tellArcs : ai_mono f_M_tellArcs := M_mono mo_M_tellArcs
abbrev cal_M_tellArcs : List ai_I := []
theorem a_M_tellArcs : ai_all "SuiteBench$Machine" prog_3_method_3_code 3 kc_M cal_M_tellArcs 0 0 false none k_M_tellArcs = true := by decide +kernel
theorem w_M_tellArcs : ai_CW i_M_tellArcs := ⟨(tk_mem (l := [((Jvm.Cond.code ({ cls := "SuiteBench$Machine", name := "tellArcs", desc := "([I)V" } : Jvm.MethodName) prog_3_method_3_code (3 : Nat) (Option.none : Option Jvm.ClassFile.FieldType)), 3, 86)]) (by decide +kernel) _ (List.mem_singleton.mpr rfl)), (tk_mem (l := [((Jvm.Cond.initialized "SuiteBench$Machine"), 1, 5)]) (by decide +kernel) _ (List.mem_singleton.mpr rfl)), ⟨by decide +kernel, by decide +kernel, by decide +kernel⟩, ⟨(tk_mem (l := [((Jvm.Cond.instanceMethod ({ cls := "SuiteBench$Machine", name := "tellArcs", desc := "([I)V" } : Jvm.MethodName)), 3, 84)]) (by decide +kernel) _ (List.mem_singleton.mpr rfl)), (tk_mem (l := [((Jvm.Cond.selects "SuiteBench$Machine" ({ cls := "SuiteBench$Machine", name := "tellArcs", desc := "([I)V" } : Jvm.MethodName) ({ cls := "SuiteBench$Machine", name := "tellArcs", desc := "([I)V" } : Jvm.MethodName)), 3, 85)]) (by decide +kernel) _ (List.mem_singleton.mpr rfl)), .inl ⟨_, _, rfl⟩⟩⟩
theorem c_M_tellArcs {E2 : (Nat → Nat) → State → Heap → Prop} (hE : ai_XH E2) : ai_S E2 i_M_tellArcs f_M_tellArcs := snd_M (by decide) rfl (by decide) a_M_tellArcs kc_M_ok (by rfl) (by decide) (fun a i h => by simp [cal_M_tellArcs, ai_nth] at h)
def k_A_learnTop : ai_C := [
  [(0, .aload_n 0, 1, 0, 0, 0, 0, 0, []), (1, .iconst 1, 1, 0, 0, 0, 0, 1, []), (2, .putfield 65, 3, 9, 11, 10, 0, 11, []), (5, .iconst 0, 1, 0, 0, 0, 0, 0, []), (6, .istore_n 1, 1, 1, 0, 0, 0, 0, []), (7, .iload_n 1, 1, 1, 0, 0, 0, 0, []), (8, .bipush 24, 2, 0, 0, 0, 0, 24, []), (10, .if_icmp .ge 29, 3, 39, 0, 0, 0, 0, []), (13, .aload_n 0, 1, 0, 0, 0, 0, 0, []), (14, .aload_n 0, 1, 0, 0, 0, 0, 0, []), (15, .getfield 65, 3, 9, 11, 10, 0, 11, [])],
  [(18, .aload_n 0, 1, 0, 0, 0, 0, 0, []), (19, .getfield 33, 3, 9, 0, 9, 2, 0, []), (22, .getfield 68, 3, 1, 1, 11, 2, 1, []), (25, .iload_n 1, 1, 1, 0, 0, 0, 0, []), (26, .iaload, 1, 0, 0, 0, 0, 0, []), (27, .invokestatic 71, 3, 0, 0, 12, 22, 0, []), (30, .putfield 65, 3, 9, 11, 10, 0, 11, [])],
  [(33, .iinc 1 1, 3, 1, 0, 0, 0, 1, []), (36, .goto (-29), 3, 7, 0, 0, 0, 0, []), (39, .return_, 1, 0, 0, 0, 0, 0, [])]]
def i_A_learnTop : ai_I := ((⟨"SuiteBench$Traits", "learnTop", "()V"⟩, prog_11_method_5_code, 2, none, 9, 1, 21, 0, 0, 0, 9) : ai_I)
def o_A_learnTop (_ : Nat) : SP := fun _ _ _ _ _ => False
theorem mo_A_learnTop : ∀ a, ai_mono (o_A_learnTop a) := fun _ _ _ _ _ _ _ _ h => h
def f_A_learnTop : SP := ai_M o_A_learnTop 0 2 k_A_learnTop
theorem mf_A_learnTop : ai_mono f_A_learnTop := M_mono mo_A_learnTop
abbrev cal_A_learnTop : List ai_I := []
theorem a_A_learnTop : ai_all "SuiteBench$Traits" prog_11_method_5_code 2 kc_A cal_A_learnTop 1 21 false none k_A_learnTop = true := by decide +kernel
theorem w_A_learnTop : ai_CW i_A_learnTop := ⟨(tk_mem (l := [((Jvm.Cond.code ({ cls := "SuiteBench$Traits", name := "learnTop", desc := "()V" } : Jvm.MethodName) prog_11_method_5_code (2 : Nat) (Option.none : Option Jvm.ClassFile.FieldType)), 3, 94)]) (by decide +kernel) _ (List.mem_singleton.mpr rfl)), (tk_mem (l := [((Jvm.Cond.initialized "SuiteBench$Traits"), 1, 6)]) (by decide +kernel) _ (List.mem_singleton.mpr rfl)), ⟨by decide +kernel, by decide +kernel, by decide +kernel⟩, ⟨(tk_mem (l := [((Jvm.Cond.instanceMethod ({ cls := "SuiteBench$Traits", name := "learnTop", desc := "()V" } : Jvm.MethodName)), 3, 93)]) (by decide +kernel) _ (List.mem_singleton.mpr rfl)), gw_sel 1 (by decide +kernel), .inl ⟨_, _, rfl⟩⟩⟩
theorem c_A_learnTop {E2 : (Nat → Nat) → State → Heap → Prop} (hE : ai_XH E2) : ai_S E2 i_A_learnTop f_A_learnTop := snd_M (by decide) rfl (by decide) a_A_learnTop kc_A_ok (by rfl) (by decide) (fun a i h => by simp [cal_A_learnTop, ai_nth] at h)
def k_A_isReached : ai_C := [
  [(0, .aload_n 0, 1, 0, 0, 0, 0, 0, []), (1, .getfield 62, 3, 9, 8, 13, 0, 8, []), (4, .iload_n 1, 1, 1, 0, 0, 0, 0, []), (5, .ishr, 1, 0, 0, 0, 0, 0, []), (6, .iconst 1, 1, 0, 0, 0, 0, 1, []), (7, .iand, 1, 0, 0, 0, 0, 0, []), (8, .iconst 1, 1, 0, 0, 0, 0, 1, []), (9, .if_icmp .ne 7, 3, 16, 0, 0, 0, 0, []), (12, .iconst 1, 1, 0, 0, 0, 0, 1, []), (13, .goto 4, 3, 17, 0, 0, 0, 0, [])],
  [(16, .iconst 0, 1, 0, 0, 0, 0, 0, []), (17, .ireturn, 1, 0, 0, 0, 3, 0, [])]]
def i_A_isReached : ai_I := ((⟨"SuiteBench$Traits", "isReached", "(I)Z"⟩, prog_11_method_3_code, 2, (some .boolean), 3, 0, 0, 0, 1, 0, 9) : ai_I)
def o_A_isReached (_ : Nat) : SP := fun _ _ _ _ _ => False
theorem mo_A_isReached : ∀ a, ai_mono (o_A_isReached a) := fun _ _ _ _ _ _ _ _ h => h
def f_A_isReached : SP := ai_M o_A_isReached 0 2 k_A_isReached
theorem mf_A_isReached : ai_mono f_A_isReached := M_mono mo_A_isReached
abbrev cal_A_isReached : List ai_I := []
theorem a_A_isReached : ai_all "SuiteBench$Traits" prog_11_method_3_code 2 kc_A cal_A_isReached 0 0 false (some .boolean) k_A_isReached = true := by decide +kernel
theorem w_A_isReached : ai_CW i_A_isReached := ⟨(tk_mem (l := [((Jvm.Cond.code ({ cls := "SuiteBench$Traits", name := "isReached", desc := "(I)Z" } : Jvm.MethodName) prog_11_method_3_code (2 : Nat) (Option.some Jvm.ClassFile.FieldType.boolean)), 3, 106)]) (by decide +kernel) _ (List.mem_singleton.mpr rfl)), (tk_mem (l := [((Jvm.Cond.initialized "SuiteBench$Traits"), 1, 6)]) (by decide +kernel) _ (List.mem_singleton.mpr rfl)), ⟨by decide +kernel, by decide +kernel, by decide +kernel⟩, ⟨(tk_mem (l := [((Jvm.Cond.instanceMethod ({ cls := "SuiteBench$Traits", name := "isReached", desc := "(I)Z" } : Jvm.MethodName)), 3, 104)]) (by decide +kernel) _ (List.mem_singleton.mpr rfl)), (tk_mem (l := [((Jvm.Cond.selects "SuiteBench$Traits" ({ cls := "SuiteBench$Traits", name := "isReached", desc := "(I)Z" } : Jvm.MethodName) ({ cls := "SuiteBench$Traits", name := "isReached", desc := "(I)Z" } : Jvm.MethodName)), 3, 105)]) (by decide +kernel) _ (List.mem_singleton.mpr rfl)), .inl ⟨_, _, rfl⟩⟩⟩
theorem c_A_isReached {E2 : (Nat → Nat) → State → Heap → Prop} (hE : ai_XH E2) : ai_S E2 i_A_isReached f_A_isReached := snd_M (by decide) rfl (by decide) a_A_isReached kc_A_ok (by rfl) (by decide) (fun a i h => by simp [cal_A_isReached, ai_nth] at h)
def k_A_learnAccess : ai_C := [
  [(0, .aload_n 0, 1, 0, 0, 0, 0, 0, []), (1, .getfield 9, 3, 9, 1, 2, 2, 1, []), (4, .bipush (-2), 2, 0, 0, 0, 0, (-2), []), (6, .invokestatic 77, 3, 0, 2, 14, 9, 0, [(0, 99)]), (9, .aload_n 0, 1, 0, 0, 0, 0, 0, []), (10, .iconst 0, 1, 0, 0, 0, 0, 0, []), (11, .putfield 62, 3, 9, 8, 13, 0, 8, []), (14, .iconst 0, 1, 0, 0, 0, 0, 0, []), (15, .istore_n 1, 1, 1, 0, 0, 0, 0, [])],
  [(16, .aload_n 0, 1, 0, 0, 0, 0, 0, []), (17, .getfield 33, 3, 9, 0, 9, 2, 0, []), (20, .getfield 52, 3, 1, 2, 15, 0, 2, []), (23, .ifCond .le 24, 3, 47, 0, 0, 0, 0, []), (26, .aload_n 0, 1, 0, 0, 0, 0, 0, []), (27, .getfield 9, 3, 9, 1, 2, 2, 1, []), (30, .iconst 0, 1, 0, 0, 0, 0, 0, []), (31, .iconst 0, 1, 0, 0, 0, 0, 0, [])],
  [(32, .iastore, 1, 0, 0, 0, 0, 0, []), (33, .aload_n 0, 1, 0, 0, 0, 0, 0, []), (34, .iconst 1, 1, 0, 0, 0, 0, 1, []), (35, .putfield 62, 3, 9, 8, 13, 0, 8, []), (38, .aload_n 0, 1, 0, 0, 0, 0, 0, []), (39, .getfield 30, 3, 9, 7, 8, 2, 7, []), (42, .iconst 0, 1, 0, 0, 0, 0, 0, []), (43, .iconst 0, 1, 0, 0, 0, 0, 0, []), (44, .iastore, 1, 0, 0, 0, 0, 0, []), (45, .iconst 1, 1, 0, 0, 0, 0, 1, []), (46, .istore_n 1, 1, 1, 0, 0, 0, 0, []), (47, .iconst 0, 1, 0, 0, 0, 0, 0, [])],
  [(48, .istore_n 2, 1, 2, 0, 0, 0, 0, []), (49, .iload_n 2, 1, 2, 0, 0, 0, 0, []), (50, .iload_n 1, 1, 1, 0, 0, 0, 0, []), (51, .if_icmp .ge 118, 3, 169, 0, 0, 0, 0, []), (54, .iload_n 2, 1, 2, 0, 0, 0, 0, []), (55, .bipush 6, 2, 0, 0, 0, 0, 6, []), (57, .if_icmp .ge 112, 3, 169, 0, 0, 0, 0, []), (60, .aload_n 0, 1, 0, 0, 0, 0, 0, []), (61, .getfield 30, 3, 9, 7, 8, 2, 7, [])],
  [(64, .iload_n 2, 1, 2, 0, 0, 0, 0, []), (65, .iaload, 1, 0, 0, 0, 0, 0, []), (66, .istore_n 3, 1, 3, 0, 0, 0, 0, []), (67, .iconst 0, 1, 0, 0, 0, 0, 0, []), (68, .istore 4, 2, 4, 0, 0, 0, 0, []), (70, .iload 4, 2, 4, 0, 0, 0, 0, []), (72, .aload_n 0, 1, 0, 0, 0, 0, 0, []), (73, .getfield 33, 3, 9, 0, 9, 2, 0, []), (76, .getfield 83, 3, 1, 3, 16, 0, 3, []), (79, .if_icmp .ge 84, 3, 163, 0, 0, 0, 0, [])],
  [(82, .aload_n 0, 1, 0, 0, 0, 0, 0, []), (83, .getfield 33, 3, 9, 0, 9, 2, 0, []), (86, .getfield 86, 3, 1, 0, 17, 2, 0, []), (89, .iload_n 3, 1, 3, 0, 0, 0, 0, []), (90, .iconst 3, 1, 0, 0, 0, 0, 3, []), (91, .imul, 1, 0, 0, 0, 0, 0, []), (92, .iload 4, 2, 4, 0, 0, 0, 0, []), (94, .iadd, 1, 0, 0, 0, 0, 0, []), (95, .iaload, 1, 0, 0, 0, 0, 0, [])],
  [(96, .istore 5, 2, 5, 0, 0, 0, 0, []), (98, .aload_n 0, 1, 0, 0, 0, 0, 0, []), (99, .iload 5, 2, 5, 0, 0, 0, 0, []), (101, .invokevirtual 89, 3, 1, 2, 18, 0, 0, [(0, 9)]), (104, .ifCond .ne 53, 3, 157, 0, 0, 0, 0, []), (107, .iload_n 1, 1, 1, 0, 0, 0, 0, []), (108, .bipush 6, 2, 0, 0, 0, 0, 6, []), (110, .if_icmp .ge 47, 3, 157, 0, 0, 0, 0, [])],
  [(113, .aload_n 0, 1, 0, 0, 0, 0, 0, []), (114, .dup, 1, 0, 0, 0, 0, 0, []), (115, .getfield 62, 3, 9, 8, 13, 0, 8, []), (118, .iconst 1, 1, 0, 0, 0, 0, 1, []), (119, .iload 5, 2, 5, 0, 0, 0, 0, []), (121, .ishl, 1, 0, 0, 0, 0, 0, []), (122, .ior, 1, 0, 0, 0, 0, 0, []), (123, .putfield 62, 3, 9, 8, 13, 0, 8, []), (126, .aload_n 0, 1, 0, 0, 0, 0, 0, []), (127, .getfield 9, 3, 9, 1, 2, 2, 1, [])],
  [(130, .iload 5, 2, 5, 0, 0, 0, 0, []), (132, .aload_n 0, 1, 0, 0, 0, 0, 0, []), (133, .getfield 9, 3, 9, 1, 2, 2, 1, []), (136, .iload_n 3, 1, 3, 0, 0, 0, 0, []), (137, .iaload, 1, 0, 0, 0, 0, 0, []), (138, .iconst 4, 1, 0, 0, 0, 0, 4, []), (139, .imul, 1, 0, 0, 0, 0, 0, []), (140, .iload 4, 2, 4, 0, 0, 0, 0, []), (142, .iadd, 1, 0, 0, 0, 0, 0, []), (143, .iconst 1, 1, 0, 0, 0, 0, 1, [])],
  [(144, .iadd, 1, 0, 0, 0, 0, 0, []), (145, .iastore, 1, 0, 0, 0, 0, 0, []), (146, .aload_n 0, 1, 0, 0, 0, 0, 0, []), (147, .getfield 30, 3, 9, 7, 8, 2, 7, []), (150, .iload_n 1, 1, 1, 0, 0, 0, 0, []), (151, .iload 5, 2, 5, 0, 0, 0, 0, []), (153, .iastore, 1, 0, 0, 0, 0, 0, []), (154, .iinc 1 1, 3, 1, 0, 0, 0, 1, []), (157, .iinc 4 1, 3, 4, 0, 0, 0, 1, [])],
  [(160, .goto (-90), 3, 70, 0, 0, 0, 0, []), (163, .iinc 2 1, 3, 2, 0, 0, 0, 1, []), (166, .goto (-117), 3, 49, 0, 0, 0, 0, []), (169, .return_, 1, 0, 0, 0, 0, 0, [])]]
def i_A_learnAccess : ai_I := ((⟨"SuiteBench$Traits", "learnAccess", "()V"⟩, prog_11_method_6_code, 6, none, 9, 1, 23, 0, 0, 0, 9) : ai_I)
def o_A_learnAccess (a : Nat) : SP := match a with
  | 0 => f_J_fill
  | 1 => f_A_isReached
  | _ => fun _ _ _ _ _ => False
theorem mo_A_learnAccess : ∀ a, ai_mono (o_A_learnAccess a)
  | 0 => mf_J_fill
  | 1 => mf_A_isReached
  | _ + 2 => fun _ _ _ _ _ _ _ h => h
def f_A_learnAccess : SP := ai_M o_A_learnAccess 0 6 k_A_learnAccess
theorem mf_A_learnAccess : ai_mono f_A_learnAccess := M_mono mo_A_learnAccess
abbrev cal_A_learnAccess : List ai_I := [i_J_fill, i_A_isReached]
theorem a_A_learnAccess : ai_all "SuiteBench$Traits" prog_11_method_6_code 6 kc_A cal_A_learnAccess 1 23 false none k_A_learnAccess = true := by decide +kernel
theorem w_A_learnAccess : ai_CW i_A_learnAccess := ⟨(tk_mem (l := [((Jvm.Cond.code ({ cls := "SuiteBench$Traits", name := "learnAccess", desc := "()V" } : Jvm.MethodName) prog_11_method_6_code (6 : Nat) (Option.none : Option Jvm.ClassFile.FieldType)), 3, 101)]) (by decide +kernel) _ (List.mem_singleton.mpr rfl)), (tk_mem (l := [((Jvm.Cond.initialized "SuiteBench$Traits"), 1, 6)]) (by decide +kernel) _ (List.mem_singleton.mpr rfl)), ⟨by decide +kernel, by decide +kernel, by decide +kernel⟩, ⟨(tk_mem (l := [((Jvm.Cond.instanceMethod ({ cls := "SuiteBench$Traits", name := "learnAccess", desc := "()V" } : Jvm.MethodName)), 3, 100)]) (by decide +kernel) _ (List.mem_singleton.mpr rfl)), gw_sel 2 (by decide +kernel), .inl ⟨_, _, rfl⟩⟩⟩
theorem c_A_learnAccess {E2 : (Nat → Nat) → State → Heap → Prop} (hE : ai_XH E2) : ai_S E2 i_A_learnAccess f_A_learnAccess := snd_M (by decide) rfl (by decide) a_A_learnAccess kc_A_ok (by rfl) (by decide) (fun a i h => match a, h with
    | 0, h => by cases h; exact ⟨c_J_fill hE, w_J_fill⟩
    | 1, h => by cases h; exact ⟨c_A_isReached hE, w_A_isReached⟩
    | _ + 2, h => by simp [cal_A_learnAccess, ai_nth] at h)
def k_A_areAlike : ai_C := [
  [(0, .aload_n 0, 1, 0, 0, 0, 0, 0, []), (1, .getfield 15, 3, 9, 2, 3, 2, 2, []), (4, .iload_n 1, 1, 1, 0, 0, 0, 0, []), (5, .bipush 6, 2, 0, 0, 0, 0, 6, []), (7, .imul, 1, 0, 0, 0, 0, 0, []), (8, .iload_n 2, 1, 2, 0, 0, 0, 0, []), (9, .iadd, 1, 0, 0, 0, 0, 0, []), (10, .iaload, 1, 0, 0, 0, 0, 0, []), (11, .bipush (-2), 2, 0, 0, 0, 0, (-2), []), (13, .if_icmp .ne 7, 3, 20, 0, 0, 0, 0, [])],
  [(16, .iconst 1, 1, 0, 0, 0, 0, 1, []), (17, .goto 4, 3, 21, 0, 0, 0, 0, []), (20, .iconst 0, 1, 0, 0, 0, 0, 0, []), (21, .ireturn, 1, 0, 0, 0, 3, 0, [])]]
def i_A_areAlike : ai_I := ((⟨"SuiteBench$Traits", "areAlike", "(II)Z"⟩, prog_11_method_4_code, 3, (some .boolean), 3, 0, 0, 0, 2, 0, 9) : ai_I)
def o_A_areAlike (_ : Nat) : SP := fun _ _ _ _ _ => False
theorem mo_A_areAlike : ∀ a, ai_mono (o_A_areAlike a) := fun _ _ _ _ _ _ _ _ h => h
def f_A_areAlike : SP := ai_M o_A_areAlike 0 3 k_A_areAlike
theorem mf_A_areAlike : ai_mono f_A_areAlike := M_mono mo_A_areAlike
abbrev cal_A_areAlike : List ai_I := []
theorem a_A_areAlike : ai_all "SuiteBench$Traits" prog_11_method_4_code 3 kc_A cal_A_areAlike 0 0 false (some .boolean) k_A_areAlike = true := by decide +kernel
theorem w_A_areAlike : ai_CW i_A_areAlike := ⟨(tk_mem (l := [((Jvm.Cond.code ({ cls := "SuiteBench$Traits", name := "areAlike", desc := "(II)Z" } : Jvm.MethodName) prog_11_method_4_code (3 : Nat) (Option.some Jvm.ClassFile.FieldType.boolean)), 3, 114)]) (by decide +kernel) _ (List.mem_singleton.mpr rfl)), (tk_mem (l := [((Jvm.Cond.initialized "SuiteBench$Traits"), 1, 6)]) (by decide +kernel) _ (List.mem_singleton.mpr rfl)), ⟨by decide +kernel, by decide +kernel, by decide +kernel⟩, ⟨(tk_mem (l := [((Jvm.Cond.instanceMethod ({ cls := "SuiteBench$Traits", name := "areAlike", desc := "(II)Z" } : Jvm.MethodName)), 3, 113)]) (by decide +kernel) _ (List.mem_singleton.mpr rfl)), gw_sel 4 (by decide +kernel), .inl ⟨_, _, rfl⟩⟩⟩
theorem c_A_areAlike {E2 : (Nat → Nat) → State → Heap → Prop} (hE : ai_XH E2) : ai_S E2 i_A_areAlike f_A_areAlike := snd_M (by decide) rfl (by decide) a_A_areAlike kc_A_ok (by rfl) (by decide) (fun a i h => by simp [cal_A_areAlike, ai_nth] at h)
def k_B_lengthOf : ai_C := [
  [(0, .iconst 0, 1, 0, 0, 0, 0, 0, []), (1, .istore_n 1, 1, 1, 0, 0, 0, 0, []), (2, .iload_n 1, 1, 1, 0, 0, 0, 0, []), (3, .bipush 15, 2, 0, 0, 0, 0, 15, []), (5, .if_icmp .ge 17, 3, 22, 0, 0, 0, 0, []), (8, .iload_n 0, 1, 0, 0, 0, 0, 0, []), (9, .iconst 2, 1, 0, 0, 0, 0, 2, []), (10, .iload_n 1, 1, 1, 0, 0, 0, 0, []), (11, .imul, 1, 0, 0, 0, 0, 0, []), (12, .ishr, 1, 0, 0, 0, 0, 0, []), (13, .ifCond .eq 9, 3, 22, 0, 0, 0, 0, [])],
  [(16, .iinc 1 1, 3, 1, 0, 0, 0, 1, []), (19, .goto (-17), 3, 2, 0, 0, 0, 0, []), (22, .iload_n 1, 1, 1, 0, 0, 0, 0, []), (23, .ireturn, 1, 0, 0, 0, 0, 0, [])]]
def i_B_lengthOf : ai_I := ((⟨"SuiteBench", "lengthOf", "(I)I"⟩, prog_1_method_48_code, 2, (some .int), 0, 0, 0, 0, 1, 1, 11) : ai_I)
def o_B_lengthOf (_ : Nat) : SP := fun _ _ _ _ _ => False
theorem mo_B_lengthOf : ∀ a, ai_mono (o_B_lengthOf a) := fun _ _ _ _ _ _ _ _ h => h
def f_B_lengthOf : SP := ai_M o_B_lengthOf 0 2 k_B_lengthOf
theorem mf_B_lengthOf : ai_mono f_B_lengthOf := M_mono mo_B_lengthOf
abbrev cal_B_lengthOf : List ai_I := []
theorem a_B_lengthOf : ai_all "SuiteBench" prog_1_method_48_code 2 kc_B cal_B_lengthOf 0 0 false (some .int) k_B_lengthOf = true := by decide +kernel
theorem w_B_lengthOf : ai_CW i_B_lengthOf := ⟨(tk_mem (l := [((Jvm.Cond.code ({ cls := "SuiteBench", name := "lengthOf", desc := "(I)I" } : Jvm.MethodName) prog_1_method_48_code (2 : Nat) (Option.some Jvm.ClassFile.FieldType.int)), 3, 121)]) (by decide +kernel) _ (List.mem_singleton.mpr rfl)), (tk_mem (l := [((Jvm.Cond.initialized "SuiteBench"), 1, 1)]) (by decide +kernel) _ (List.mem_singleton.mpr rfl)), ⟨by decide +kernel, by decide +kernel, by decide +kernel⟩, (tk_mem (l := [((Jvm.Cond.static ({ cls := "SuiteBench", name := "lengthOf", desc := "(I)I" } : Jvm.MethodName)), 3, 120)]) (by decide +kernel) _ (List.mem_singleton.mpr rfl))⟩
theorem c_B_lengthOf {E2 : (Nat → Nat) → State → Heap → Prop} (hE : ai_XH E2) : ai_S E2 i_B_lengthOf f_B_lengthOf := snd_M (by decide) rfl (by decide) a_B_lengthOf kc_B_ok (by rfl) (by decide) (fun a i h => by simp [cal_B_lengthOf, ai_nth] at h)
def k_A_separatorOfLength : ai_C := [
  [(0, .iconst 0, 1, 0, 0, 0, 0, 0, []), (1, .istore 4, 2, 4, 0, 0, 0, 0, []), (3, .iload 4, 2, 4, 0, 0, 0, 0, []), (5, .aload_n 0, 1, 0, 0, 0, 0, 0, []), (6, .getfield 33, 3, 9, 0, 9, 2, 0, []), (9, .getfield 83, 3, 1, 3, 16, 0, 3, []), (12, .if_icmp .ge 114, 3, 126, 0, 0, 0, 0, []), (15, .iload_n 1, 1, 1, 0, 0, 0, 0, [])],
  [(16, .iconst 3, 1, 0, 0, 0, 0, 3, []), (17, .imul, 1, 0, 0, 0, 0, 0, []), (18, .iload 4, 2, 4, 0, 0, 0, 0, []), (20, .iadd, 1, 0, 0, 0, 0, 0, []), (21, .istore 5, 2, 5, 0, 0, 0, 0, []), (23, .iload_n 2, 1, 2, 0, 0, 0, 0, []), (24, .iconst 3, 1, 0, 0, 0, 0, 3, []), (25, .imul, 1, 0, 0, 0, 0, 0, []), (26, .iload 4, 2, 4, 0, 0, 0, 0, []), (28, .iadd, 1, 0, 0, 0, 0, 0, []), (29, .istore 6, 2, 6, 0, 0, 0, 0, []), (31, .aload_n 0, 1, 0, 0, 0, 0, 0, [])],
  [(32, .getfield 33, 3, 9, 0, 9, 2, 0, []), (35, .getfield 68, 3, 1, 1, 11, 2, 1, []), (38, .iload 5, 2, 5, 0, 0, 0, 0, []), (40, .iaload, 1, 0, 0, 0, 0, 0, []), (41, .aload_n 0, 1, 0, 0, 0, 0, 0, []), (42, .getfield 33, 3, 9, 0, 9, 2, 0, []), (45, .getfield 68, 3, 1, 1, 11, 2, 1, [])],
  [(48, .iload 6, 2, 6, 0, 0, 0, 0, []), (50, .iaload, 1, 0, 0, 0, 0, 0, []), (51, .if_icmp .eq 8, 3, 59, 0, 0, 0, 0, []), (54, .iload 4, 2, 4, 0, 0, 0, 0, []), (56, .iconst 1, 1, 0, 0, 0, 0, 1, []), (57, .iadd, 1, 0, 0, 0, 0, 0, []), (58, .ireturn, 1, 0, 0, 0, 0, 0, []), (59, .aload_n 0, 1, 0, 0, 0, 0, 0, []), (60, .getfield 15, 3, 9, 2, 3, 2, 2, []), (63, .aload_n 0, 1, 0, 0, 0, 0, 0, [])],
  [(64, .getfield 33, 3, 9, 0, 9, 2, 0, []), (67, .getfield 86, 3, 1, 0, 17, 2, 0, []), (70, .iload 5, 2, 5, 0, 0, 0, 0, []), (72, .iaload, 1, 0, 0, 0, 0, 0, []), (73, .bipush 6, 2, 0, 0, 0, 0, 6, []), (75, .imul, 1, 0, 0, 0, 0, 0, []), (76, .aload_n 0, 1, 0, 0, 0, 0, 0, []), (77, .getfield 33, 3, 9, 0, 9, 2, 0, [])],
  [(80, .getfield 86, 3, 1, 0, 17, 2, 0, []), (83, .iload 6, 2, 6, 0, 0, 0, 0, []), (85, .iaload, 1, 0, 0, 0, 0, 0, []), (86, .iadd, 1, 0, 0, 0, 0, 0, []), (87, .iaload, 1, 0, 0, 0, 0, 0, []), (88, .istore 7, 2, 7, 0, 0, 0, 0, []), (90, .iload 7, 2, 7, 0, 0, 0, 0, []), (92, .ifCond .le 28, 3, 120, 0, 0, 0, 0, []), (95, .iload 7, 2, 7, 0, 0, 0, 0, [])],
  [(97, .invokestatic 101, 3, 0, 1, 19, 0, 0, [(0, 11)]), (100, .iload_n 3, 1, 3, 0, 0, 0, 0, []), (101, .iconst 1, 1, 0, 0, 0, 0, 1, []), (102, .isub, 1, 0, 0, 0, 0, 0, []), (103, .if_icmp .ne 17, 3, 120, 0, 0, 0, 0, []), (106, .iload 4, 2, 4, 0, 0, 0, 0, []), (108, .iconst 1, 1, 0, 0, 0, 0, 1, []), (109, .iadd, 1, 0, 0, 0, 0, 0, []), (110, .iconst 2, 1, 0, 0, 0, 0, 2, []), (111, .iload_n 3, 1, 3, 0, 0, 0, 0, [])],
  [(112, .iconst 1, 1, 0, 0, 0, 0, 1, []), (113, .isub, 1, 0, 0, 0, 0, 0, []), (114, .imul, 1, 0, 0, 0, 0, 0, []), (115, .ishl, 1, 0, 0, 0, 0, 0, []), (116, .iload 7, 2, 7, 0, 0, 0, 0, []), (118, .ior, 1, 0, 0, 0, 0, 0, []), (119, .ireturn, 1, 0, 0, 0, 0, 0, []), (120, .iinc 4 1, 3, 4, 0, 0, 0, 1, []), (123, .goto (-120), 3, 3, 0, 0, 0, 0, []), (126, .bipush (-2), 2, 0, 0, 0, 0, (-2), [])],
  [(128, .ireturn, 1, 0, 0, 0, 0, 0, [])]]
def i_A_separatorOfLength : ai_I := ((⟨"SuiteBench$Traits", "separatorOfLength", "(III)I"⟩, prog_11_method_8_code, 8, (some .int), 0, 1, 21, 0, 3, 0, 9) : ai_I)
def o_A_separatorOfLength (a : Nat) : SP := match a with
  | 0 => f_B_lengthOf
  | _ => fun _ _ _ _ _ => False
theorem mo_A_separatorOfLength : ∀ a, ai_mono (o_A_separatorOfLength a)
  | 0 => mf_B_lengthOf
  | _ + 1 => fun _ _ _ _ _ _ _ h => h
def f_A_separatorOfLength : SP := ai_M o_A_separatorOfLength 0 8 k_A_separatorOfLength
theorem mf_A_separatorOfLength : ai_mono f_A_separatorOfLength := M_mono mo_A_separatorOfLength
abbrev cal_A_separatorOfLength : List ai_I := [i_B_lengthOf]
theorem a_A_separatorOfLength : ai_all "SuiteBench$Traits" prog_11_method_8_code 8 kc_A cal_A_separatorOfLength 1 21 false (some .int) k_A_separatorOfLength = true := by decide +kernel
theorem w_A_separatorOfLength : ai_CW i_A_separatorOfLength := ⟨(tk_mem (l := [((Jvm.Cond.code ({ cls := "SuiteBench$Traits", name := "separatorOfLength", desc := "(III)I" } : Jvm.MethodName) prog_11_method_8_code (8 : Nat) (Option.some Jvm.ClassFile.FieldType.int)), 3, 118)]) (by decide +kernel) _ (List.mem_singleton.mpr rfl)), (tk_mem (l := [((Jvm.Cond.initialized "SuiteBench$Traits"), 1, 6)]) (by decide +kernel) _ (List.mem_singleton.mpr rfl)), ⟨by decide +kernel, by decide +kernel, by decide +kernel⟩, ⟨(tk_mem (l := [((Jvm.Cond.instanceMethod ({ cls := "SuiteBench$Traits", name := "separatorOfLength", desc := "(III)I" } : Jvm.MethodName)), 3, 117)]) (by decide +kernel) _ (List.mem_singleton.mpr rfl)), gw_sel 5 (by decide +kernel), .inl ⟨_, _, rfl⟩⟩⟩
theorem c_A_separatorOfLength {E2 : (Nat → Nat) → State → Heap → Prop} (hE : ai_XH E2) : ai_S E2 i_A_separatorOfLength f_A_separatorOfLength := snd_M (by decide) rfl (by decide) a_A_separatorOfLength kc_A_ok (by rfl) (by decide) (fun a i h => match a, h with
    | 0, h => by cases h; exact ⟨c_B_lengthOf hE, w_B_lengthOf⟩
    | _ + 1, h => by simp [cal_A_separatorOfLength, ai_nth] at h)
def k_A_learnSeparators : ai_C := [
  [(0, .aload_n 0, 1, 0, 0, 0, 0, 0, []), (1, .getfield 15, 3, 9, 2, 3, 2, 2, []), (4, .bipush (-2), 2, 0, 0, 0, 0, (-2), []), (6, .invokestatic 77, 3, 0, 2, 14, 9, 0, [(0, 99)]), (9, .iconst 1, 1, 0, 0, 0, 0, 1, []), (10, .istore_n 1, 1, 1, 0, 0, 0, 0, []), (11, .iload_n 1, 1, 1, 0, 0, 0, 0, []), (12, .bipush 6, 2, 0, 0, 0, 0, 6, []), (14, .if_icmp .ge 93, 3, 107, 0, 0, 0, 0, [])],
  [(17, .iconst 0, 1, 0, 0, 0, 0, 0, []), (18, .istore_n 2, 1, 2, 0, 0, 0, 0, []), (19, .iload_n 2, 1, 2, 0, 0, 0, 0, []), (20, .aload_n 0, 1, 0, 0, 0, 0, 0, []), (21, .getfield 33, 3, 9, 0, 9, 2, 0, []), (24, .getfield 52, 3, 1, 2, 15, 0, 2, []), (27, .if_icmp .ge 74, 3, 101, 0, 0, 0, 0, []), (30, .iload_n 2, 1, 2, 0, 0, 0, 0, []), (31, .iconst 1, 1, 0, 0, 0, 0, 1, [])],
  [(32, .iadd, 1, 0, 0, 0, 0, 0, []), (33, .istore_n 3, 1, 3, 0, 0, 0, 0, []), (34, .iload_n 3, 1, 3, 0, 0, 0, 0, []), (35, .aload_n 0, 1, 0, 0, 0, 0, 0, []), (36, .getfield 33, 3, 9, 0, 9, 2, 0, []), (39, .getfield 52, 3, 1, 2, 15, 0, 2, []), (42, .if_icmp .ge 53, 3, 95, 0, 0, 0, 0, []), (45, .aload_n 0, 1, 0, 0, 0, 0, 0, []), (46, .iload_n 2, 1, 2, 0, 0, 0, 0, []), (47, .iload_n 3, 1, 3, 0, 0, 0, 0, [])],
  [(48, .invokevirtual 93, 3, 1, 3, 20, 0, 0, [(0, 9)]), (51, .ifCond .eq 38, 3, 89, 0, 0, 0, 0, []), (54, .aload_n 0, 1, 0, 0, 0, 0, 0, []), (55, .iload_n 2, 1, 2, 0, 0, 0, 0, []), (56, .iload_n 3, 1, 3, 0, 0, 0, 0, []), (57, .iload_n 1, 1, 1, 0, 0, 0, 0, []), (58, .invokevirtual 97, 3, 2, 4, 21, 0, 0, [(0, 9)]), (61, .istore 4, 2, 4, 0, 0, 0, 0, []), (63, .aload_n 0, 1, 0, 0, 0, 0, 0, [])],
  [(64, .getfield 15, 3, 9, 2, 3, 2, 2, []), (67, .iload_n 2, 1, 2, 0, 0, 0, 0, []), (68, .bipush 6, 2, 0, 0, 0, 0, 6, []), (70, .imul, 1, 0, 0, 0, 0, 0, []), (71, .iload_n 3, 1, 3, 0, 0, 0, 0, []), (72, .iadd, 1, 0, 0, 0, 0, 0, []), (73, .iload 4, 2, 4, 0, 0, 0, 0, []), (75, .iastore, 1, 0, 0, 0, 0, 0, []), (76, .aload_n 0, 1, 0, 0, 0, 0, 0, []), (77, .getfield 15, 3, 9, 2, 3, 2, 2, [])],
  [(80, .iload_n 3, 1, 3, 0, 0, 0, 0, []), (81, .bipush 6, 2, 0, 0, 0, 0, 6, []), (83, .imul, 1, 0, 0, 0, 0, 0, []), (84, .iload_n 2, 1, 2, 0, 0, 0, 0, []), (85, .iadd, 1, 0, 0, 0, 0, 0, []), (86, .iload 4, 2, 4, 0, 0, 0, 0, []), (88, .iastore, 1, 0, 0, 0, 0, 0, []), (89, .iinc 3 1, 3, 3, 0, 0, 0, 1, []), (92, .goto (-58), 3, 34, 0, 0, 0, 0, []), (95, .iinc 2 1, 3, 2, 0, 0, 0, 1, [])],
  [(98, .goto (-79), 3, 19, 0, 0, 0, 0, []), (101, .iinc 1 1, 3, 1, 0, 0, 0, 1, []), (104, .goto (-93), 3, 11, 0, 0, 0, 0, []), (107, .return_, 1, 0, 0, 0, 0, 0, [])]]
def i_A_learnSeparators : ai_I := ((⟨"SuiteBench$Traits", "learnSeparators", "()V"⟩, prog_11_method_7_code, 5, none, 9, 2, 48, 0, 0, 0, 9) : ai_I)
def o_A_learnSeparators (a : Nat) : SP := match a with
  | 0 => f_J_fill
  | 1 => f_A_areAlike
  | 2 => f_A_separatorOfLength
  | _ => fun _ _ _ _ _ => False
theorem mo_A_learnSeparators : ∀ a, ai_mono (o_A_learnSeparators a)
  | 0 => mf_J_fill
  | 1 => mf_A_areAlike
  | 2 => mf_A_separatorOfLength
  | _ + 3 => fun _ _ _ _ _ _ _ h => h
def f_A_learnSeparators : SP := ai_M o_A_learnSeparators 0 5 k_A_learnSeparators
theorem mf_A_learnSeparators : ai_mono f_A_learnSeparators := M_mono mo_A_learnSeparators
abbrev cal_A_learnSeparators : List ai_I := [i_J_fill, i_A_areAlike, i_A_separatorOfLength]
theorem a_A_learnSeparators : ai_all "SuiteBench$Traits" prog_11_method_7_code 5 kc_A cal_A_learnSeparators 2 48 false none k_A_learnSeparators = true := by decide +kernel
theorem w_A_learnSeparators : ai_CW i_A_learnSeparators := ⟨(tk_mem (l := [((Jvm.Cond.code ({ cls := "SuiteBench$Traits", name := "learnSeparators", desc := "()V" } : Jvm.MethodName) prog_11_method_7_code (5 : Nat) (Option.none : Option Jvm.ClassFile.FieldType)), 3, 110)]) (by decide +kernel) _ (List.mem_singleton.mpr rfl)), (tk_mem (l := [((Jvm.Cond.initialized "SuiteBench$Traits"), 1, 6)]) (by decide +kernel) _ (List.mem_singleton.mpr rfl)), ⟨by decide +kernel, by decide +kernel, by decide +kernel⟩, ⟨(tk_mem (l := [((Jvm.Cond.instanceMethod ({ cls := "SuiteBench$Traits", name := "learnSeparators", desc := "()V" } : Jvm.MethodName)), 3, 109)]) (by decide +kernel) _ (List.mem_singleton.mpr rfl)), gw_sel 3 (by decide +kernel), .inl ⟨_, _, rfl⟩⟩⟩
theorem c_A_learnSeparators {E2 : (Nat → Nat) → State → Heap → Prop} (hE : ai_XH E2) : ai_S E2 i_A_learnSeparators f_A_learnSeparators := snd_M (by decide) rfl (by decide) a_A_learnSeparators kc_A_ok (by rfl) (by decide) (fun a i h => match a, h with
    | 0, h => by cases h; exact ⟨c_J_fill hE, w_J_fill⟩
    | 1, h => by cases h; exact ⟨c_A_areAlike hE, w_A_areAlike⟩
    | 2, h => by cases h; exact ⟨c_A_separatorOfLength hE, w_A_separatorOfLength⟩
    | _ + 3, h => by simp [cal_A_learnSeparators, ai_nth] at h)
def k_A_learnKinds : ai_C := [
  [(0, .aload_n 0, 1, 0, 0, 0, 0, 0, []), (1, .iconst 0, 1, 0, 0, 0, 0, 0, []), (2, .putfield 105, 3, 9, 9, 22, 0, 9, []), (5, .iconst 0, 1, 0, 0, 0, 0, 0, []), (6, .istore_n 1, 1, 1, 0, 0, 0, 0, []), (7, .iload_n 1, 1, 1, 0, 0, 0, 0, []), (8, .aload_n 0, 1, 0, 0, 0, 0, 0, []), (9, .getfield 33, 3, 9, 0, 9, 2, 0, []), (12, .getfield 52, 3, 1, 2, 15, 0, 2, []), (15, .if_icmp .ge 84, 3, 99, 0, 0, 0, 0, [])],
  [(18, .aload_n 0, 1, 0, 0, 0, 0, 0, []), (19, .getfield 18, 3, 9, 3, 4, 2, 3, []), (22, .iload_n 1, 1, 1, 0, 0, 0, 0, []), (23, .iload_n 1, 1, 1, 0, 0, 0, 0, []), (24, .iastore, 1, 0, 0, 0, 0, 0, []), (25, .aload_n 0, 1, 0, 0, 0, 0, 0, []), (26, .iload_n 1, 1, 1, 0, 0, 0, 0, []), (27, .invokevirtual 89, 3, 0, 2, 18, 0, 0, [(0, 9)]), (30, .istore_n 2, 1, 2, 0, 0, 0, 0, []), (31, .iload_n 1, 1, 1, 0, 0, 0, 0, [])],
  [(32, .iconst 1, 1, 0, 0, 0, 0, 1, []), (33, .isub, 1, 0, 0, 0, 0, 0, []), (34, .istore_n 3, 1, 3, 0, 0, 0, 0, []), (35, .iload_n 3, 1, 3, 0, 0, 0, 0, []), (36, .ifCond .lt 43, 3, 79, 0, 0, 0, 0, []), (39, .aload_n 0, 1, 0, 0, 0, 0, 0, []), (40, .iload_n 3, 1, 3, 0, 0, 0, 0, []), (41, .iload_n 1, 1, 1, 0, 0, 0, 0, []), (42, .invokevirtual 93, 3, 1, 3, 20, 0, 0, [(0, 9)]), (45, .ifCond .eq 28, 3, 73, 0, 0, 0, 0, [])],
  [(48, .aload_n 0, 1, 0, 0, 0, 0, 0, []), (49, .getfield 18, 3, 9, 3, 4, 2, 3, []), (52, .iload_n 1, 1, 1, 0, 0, 0, 0, []), (53, .iload_n 3, 1, 3, 0, 0, 0, 0, []), (54, .iastore, 1, 0, 0, 0, 0, 0, []), (55, .iload_n 2, 1, 2, 0, 0, 0, 0, []), (56, .ifCond .eq 15, 3, 71, 0, 0, 0, 0, []), (59, .aload_n 0, 1, 0, 0, 0, 0, 0, []), (60, .iload_n 3, 1, 3, 0, 0, 0, 0, []), (61, .invokevirtual 89, 3, 0, 2, 18, 0, 0, [(0, 9)])],
  [(64, .ifCond .ne 7, 3, 71, 0, 0, 0, 0, []), (67, .iconst 1, 1, 0, 0, 0, 0, 1, []), (68, .goto 4, 3, 72, 0, 0, 0, 0, []), (71, .iconst 0, 1, 0, 0, 0, 0, 0, []), (72, .istore_n 2, 1, 2, 0, 0, 0, 0, []), (73, .iinc 3 (-1), 3, 3, 0, 0, 0, (-1), []), (76, .goto (-41), 3, 35, 0, 0, 0, 0, []), (79, .iload_n 2, 1, 2, 0, 0, 0, 0, [])],
  [(80, .ifCond .eq 13, 3, 93, 0, 0, 0, 0, []), (83, .aload_n 0, 1, 0, 0, 0, 0, 0, []), (84, .dup, 1, 0, 0, 0, 0, 0, []), (85, .getfield 105, 3, 9, 9, 22, 0, 9, []), (88, .iconst 1, 1, 0, 0, 0, 0, 1, []), (89, .iadd, 1, 0, 0, 0, 0, 0, []), (90, .putfield 105, 3, 9, 9, 22, 0, 9, []), (93, .iinc 1 1, 3, 1, 0, 0, 0, 1, [])],
  [(96, .goto (-89), 3, 7, 0, 0, 0, 0, []), (99, .return_, 1, 0, 0, 0, 0, 0, [])]]
def i_A_learnKinds : ai_I := ((⟨"SuiteBench$Traits", "learnKinds", "()V"⟩, prog_11_method_9_code, 4, none, 9, 1, 22, 0, 0, 0, 9) : ai_I)
def o_A_learnKinds (a : Nat) : SP := match a with
  | 0 => f_A_isReached
  | 1 => f_A_areAlike
  | _ => fun _ _ _ _ _ => False
theorem mo_A_learnKinds : ∀ a, ai_mono (o_A_learnKinds a)
  | 0 => mf_A_isReached
  | 1 => mf_A_areAlike
  | _ + 2 => fun _ _ _ _ _ _ _ h => h
def f_A_learnKinds : SP := ai_M o_A_learnKinds 0 4 k_A_learnKinds
theorem mf_A_learnKinds : ai_mono f_A_learnKinds := M_mono mo_A_learnKinds
abbrev cal_A_learnKinds : List ai_I := [i_A_isReached, i_A_areAlike]
theorem a_A_learnKinds : ai_all "SuiteBench$Traits" prog_11_method_9_code 4 kc_A cal_A_learnKinds 1 22 false none k_A_learnKinds = true := by decide +kernel
theorem w_A_learnKinds : ai_CW i_A_learnKinds := ⟨(tk_mem (l := [((Jvm.Cond.code ({ cls := "SuiteBench$Traits", name := "learnKinds", desc := "()V" } : Jvm.MethodName) prog_11_method_9_code (4 : Nat) (Option.none : Option Jvm.ClassFile.FieldType)), 3, 125)]) (by decide +kernel) _ (List.mem_singleton.mpr rfl)), (tk_mem (l := [((Jvm.Cond.initialized "SuiteBench$Traits"), 1, 6)]) (by decide +kernel) _ (List.mem_singleton.mpr rfl)), ⟨by decide +kernel, by decide +kernel, by decide +kernel⟩, ⟨(tk_mem (l := [((Jvm.Cond.instanceMethod ({ cls := "SuiteBench$Traits", name := "learnKinds", desc := "()V" } : Jvm.MethodName)), 3, 124)]) (by decide +kernel) _ (List.mem_singleton.mpr rfl)), gw_sel 6 (by decide +kernel), .inl ⟨_, _, rfl⟩⟩⟩
theorem c_A_learnKinds {E2 : (Nat → Nat) → State → Heap → Prop} (hE : ai_XH E2) : ai_S E2 i_A_learnKinds f_A_learnKinds := snd_M (by decide) rfl (by decide) a_A_learnKinds kc_A_ok (by rfl) (by decide) (fun a i h => match a, h with
    | 0, h => by cases h; exact ⟨c_A_isReached hE, w_A_isReached⟩
    | 1, h => by cases h; exact ⟨c_A_areAlike hE, w_A_areAlike⟩
    | _ + 2, h => by simp [cal_A_learnKinds, ai_nth] at h)
def k_B_inputAt : ai_C := [
  [(0, .iload_n 0, 1, 0, 0, 0, 0, 0, []), (1, .iconst 2, 1, 0, 0, 0, 0, 2, []), (2, .iload_n 1, 1, 1, 0, 0, 0, 0, []), (3, .imul, 1, 0, 0, 0, 0, 0, []), (4, .ishr, 1, 0, 0, 0, 0, 0, []), (5, .iconst 3, 1, 0, 0, 0, 0, 3, []), (6, .iand, 1, 0, 0, 0, 0, 0, []), (7, .iconst 1, 1, 0, 0, 0, 0, 1, []), (8, .isub, 1, 0, 0, 0, 0, 0, []), (9, .ireturn, 1, 0, 0, 0, 0, 0, [])]]
def i_B_inputAt : ai_I := ((⟨"SuiteBench", "inputAt", "(II)I"⟩, prog_1_method_49_code, 2, (some .int), 0, 0, 0, 0, 2, 1, 11) : ai_I)
def o_B_inputAt (_ : Nat) : SP := fun _ _ _ _ _ => False
theorem mo_B_inputAt : ∀ a, ai_mono (o_B_inputAt a) := fun _ _ _ _ _ _ _ _ h => h
def f_B_inputAt : SP := ai_M o_B_inputAt 0 2 k_B_inputAt
theorem mf_B_inputAt : ai_mono f_B_inputAt := M_mono mo_B_inputAt
abbrev cal_B_inputAt : List ai_I := []
theorem a_B_inputAt : ai_all "SuiteBench" prog_1_method_49_code 2 kc_B cal_B_inputAt 0 0 false (some .int) k_B_inputAt = true := by decide +kernel
theorem w_B_inputAt : ai_CW i_B_inputAt := ⟨(tk_mem (l := [((Jvm.Cond.code ({ cls := "SuiteBench", name := "inputAt", desc := "(II)I" } : Jvm.MethodName) prog_1_method_49_code (2 : Nat) (Option.some Jvm.ClassFile.FieldType.int)), 3, 141)]) (by decide +kernel) _ (List.mem_singleton.mpr rfl)), (tk_mem (l := [((Jvm.Cond.initialized "SuiteBench"), 1, 1)]) (by decide +kernel) _ (List.mem_singleton.mpr rfl)), ⟨by decide +kernel, by decide +kernel, by decide +kernel⟩, (tk_mem (l := [((Jvm.Cond.static ({ cls := "SuiteBench", name := "inputAt", desc := "(II)I" } : Jvm.MethodName)), 3, 140)]) (by decide +kernel) _ (List.mem_singleton.mpr rfl))⟩
theorem c_B_inputAt {E2 : (Nat → Nat) → State → Heap → Prop} (hE : ai_XH E2) : ai_S E2 i_B_inputAt f_B_inputAt := snd_M (by decide) rfl (by decide) a_B_inputAt kc_B_ok (by rfl) (by decide) (fun a i h => by simp [cal_B_inputAt, ai_nth] at h)
def k_M_tell : ai_C := [
  [(0, .iload_n 1, 1, 1, 0, 0, 0, 0, []), (1, .istore_n 3, 1, 3, 0, 0, 0, 0, []), (2, .lconst 0, 1, 0, 0, 0, 0, 0, []), (3, .lstore 4, 2, 4, 0, 0, 0, 0, []), (5, .iload_n 2, 1, 2, 0, 0, 0, 0, []), (6, .invokestatic 37, 3, 0, 1, 6, 0, 0, [(0, 11)]), (9, .iconst 1, 1, 0, 0, 0, 0, 1, []), (10, .isub, 1, 0, 0, 0, 0, 0, []), (11, .istore 6, 2, 6, 0, 0, 0, 0, []), (13, .iload 6, 2, 6, 0, 0, 0, 0, []), (15, .ifCond .lt 46, 3, 61, 0, 0, 0, 0, [])],
  [(18, .iload_n 3, 1, 3, 0, 0, 0, 0, []), (19, .iconst 3, 1, 0, 0, 0, 0, 3, []), (20, .imul, 1, 0, 0, 0, 0, 0, []), (21, .iload_n 2, 1, 2, 0, 0, 0, 0, []), (22, .iload 6, 2, 6, 0, 0, 0, 0, []), (24, .invokestatic 41, 3, 1, 2, 7, 0, 0, [(0, 11)]), (27, .iadd, 1, 0, 0, 0, 0, 0, []), (28, .istore 7, 2, 7, 0, 0, 0, 0, []), (30, .lload 4, 2, 4, 0, 0, 0, 0, [])],
  [(32, .ldc2_w 45, 3, 0, 0, 8, 0, 10, []), (35, .lmul, 1, 0, 0, 0, 0, 0, []), (36, .aload_n 0, 1, 0, 0, 0, 0, 0, []), (37, .getfield 15, 3, 1, 1, 3, 2, 1, []), (40, .iload 7, 2, 7, 0, 0, 0, 0, []), (42, .iaload, 1, 0, 0, 0, 0, 0, []), (43, .i2l, 1, 0, 0, 0, 0, 0, []), (44, .ladd, 1, 0, 0, 0, 0, 0, []), (45, .lstore 4, 2, 4, 0, 0, 0, 0, []), (47, .aload_n 0, 1, 0, 0, 0, 0, 0, [])],
  [(48, .getfield 9, 3, 1, 0, 2, 2, 0, []), (51, .iload 7, 2, 7, 0, 0, 0, 0, []), (53, .iaload, 1, 0, 0, 0, 0, 0, []), (54, .istore_n 3, 1, 3, 0, 0, 0, 0, []), (55, .iinc 6 (-1), 3, 6, 0, 0, 0, (-1), []), (58, .goto (-45), 3, 13, 0, 0, 0, 0, []), (61, .lload 4, 2, 4, 0, 0, 0, 0, []), (63, .lreturn, 1, 0, 0, 0, 0, 0, [])]]
def i_M_tell : ai_I := ((⟨"SuiteBench$Machine", "tell", "(II)J"⟩, prog_3_method_12_code, 8, (some .long), 1, 1, 21, 0, 2, 0, 1) : ai_I)
def o_M_tell (a : Nat) : SP := match a with
  | 0 => f_B_lengthOf
  | 1 => f_B_inputAt
  | _ => fun _ _ _ _ _ => False
theorem mo_M_tell : ∀ a, ai_mono (o_M_tell a)
  | 0 => mf_B_lengthOf
  | 1 => mf_B_inputAt
  | _ + 2 => fun _ _ _ _ _ _ _ h => h
def f_M_tell : SP := ai_M o_M_tell 0 8 k_M_tell
theorem mf_M_tell : ai_mono f_M_tell := M_mono mo_M_tell
abbrev cal_M_tell : List ai_I := [i_B_lengthOf, i_B_inputAt]
theorem a_M_tell : ai_all "SuiteBench$Machine" prog_3_method_12_code 8 kc_M cal_M_tell 1 21 false (some .long) k_M_tell = true := by decide +kernel
theorem w_M_tell : ai_CW i_M_tell := ⟨(tk_mem (l := [((Jvm.Cond.code ({ cls := "SuiteBench$Machine", name := "tell", desc := "(II)J" } : Jvm.MethodName) prog_3_method_12_code (8 : Nat) (Option.some Jvm.ClassFile.FieldType.long)), 3, 137)]) (by decide +kernel) _ (List.mem_singleton.mpr rfl)), (tk_mem (l := [((Jvm.Cond.initialized "SuiteBench$Machine"), 1, 5)]) (by decide +kernel) _ (List.mem_singleton.mpr rfl)), ⟨by decide +kernel, by decide +kernel, by decide +kernel⟩, ⟨(tk_mem (l := [((Jvm.Cond.instanceMethod ({ cls := "SuiteBench$Machine", name := "tell", desc := "(II)J" } : Jvm.MethodName)), 3, 135)]) (by decide +kernel) _ (List.mem_singleton.mpr rfl)), (tk_mem (l := [((Jvm.Cond.selects "SuiteBench$Machine" ({ cls := "SuiteBench$Machine", name := "tell", desc := "(II)J" } : Jvm.MethodName) ({ cls := "SuiteBench$Machine", name := "tell", desc := "(II)J" } : Jvm.MethodName)), 3, 136)]) (by decide +kernel) _ (List.mem_singleton.mpr rfl)), .inl ⟨_, _, rfl⟩⟩⟩
theorem c_M_tell {E2 : (Nat → Nat) → State → Heap → Prop} (hE : ai_XH E2) : ai_S E2 i_M_tell f_M_tell := snd_M (by decide) rfl (by decide) a_M_tell kc_M_ok (by rfl) (by decide) (fun a i h => match a, h with
    | 0, h => by cases h; exact ⟨c_B_lengthOf hE, w_B_lengthOf⟩
    | 1, h => by cases h; exact ⟨c_B_inputAt hE, w_B_inputAt⟩
    | _ + 2, h => by simp [cal_M_tell, ai_nth] at h)
def k_A_areSplit : ai_C := [
  [(0, .iconst 0, 1, 0, 0, 0, 0, 0, []), (1, .istore_n 3, 1, 3, 0, 0, 0, 0, []), (2, .iload_n 3, 1, 3, 0, 0, 0, 0, []), (3, .aload_n 0, 1, 0, 0, 0, 0, 0, []), (4, .getfield 108, 3, 9, 10, 23, 0, 10, []), (7, .if_icmp .ge 43, 3, 50, 0, 0, 0, 0, []), (10, .aload_n 0, 1, 0, 0, 0, 0, 0, []), (11, .getfield 33, 3, 9, 0, 9, 2, 0, []), (14, .iload_n 1, 1, 1, 0, 0, 0, 0, []), (15, .aload_n 0, 1, 0, 0, 0, 0, 0, [])],
  [(16, .getfield 21, 3, 9, 4, 5, 2, 4, []), (19, .iload_n 3, 1, 3, 0, 0, 0, 0, []), (20, .iaload, 1, 0, 0, 0, 0, 0, []), (21, .invokevirtual 114, 3, 0, 3, 24, 1, 0, [(0, 1)]), (24, .aload_n 0, 1, 0, 0, 0, 0, 0, []), (25, .getfield 33, 3, 9, 0, 9, 2, 0, []), (28, .iload_n 2, 1, 2, 0, 0, 0, 0, []), (29, .aload_n 0, 1, 0, 0, 0, 0, 0, []), (30, .getfield 21, 3, 9, 4, 5, 2, 4, [])],
  [(33, .iload_n 3, 1, 3, 0, 0, 0, 0, []), (34, .iaload, 1, 0, 0, 0, 0, 0, []), (35, .invokevirtual 114, 3, 0, 3, 24, 1, 0, [(0, 1)]), (38, .lcmp, 1, 0, 0, 0, 0, 0, []), (39, .ifCond .eq 5, 3, 44, 0, 0, 0, 0, []), (42, .iconst 1, 1, 0, 0, 0, 0, 1, []), (43, .ireturn, 1, 0, 0, 0, 3, 0, []), (44, .iinc 3 1, 3, 3, 0, 0, 0, 1, []), (47, .goto (-45), 3, 2, 0, 0, 0, 0, [])],
  [(50, .iconst 0, 1, 0, 0, 0, 0, 0, []), (51, .ireturn, 1, 0, 0, 0, 3, 0, [])]]
def i_A_areSplit : ai_I := ((⟨"SuiteBench$Traits", "areSplit", "(II)Z"⟩, prog_11_method_11_code, 4, (some .boolean), 3, 2, 48, 0, 2, 0, 9) : ai_I)
def o_A_areSplit (a : Nat) : SP := match a with
  | 0 => f_M_tell
  | _ => fun _ _ _ _ _ => False
theorem mo_A_areSplit : ∀ a, ai_mono (o_A_areSplit a)
  | 0 => mf_M_tell
  | _ + 1 => fun _ _ _ _ _ _ _ h => h
def f_A_areSplit : SP := ai_M o_A_areSplit 0 4 k_A_areSplit
theorem mf_A_areSplit : ai_mono f_A_areSplit := M_mono mo_A_areSplit
abbrev cal_A_areSplit : List ai_I := [i_M_tell]
theorem a_A_areSplit : ai_all "SuiteBench$Traits" prog_11_method_11_code 4 kc_A cal_A_areSplit 2 48 false (some .boolean) k_A_areSplit = true := by decide +kernel
theorem w_A_areSplit : ai_CW i_A_areSplit := ⟨(tk_mem (l := [((Jvm.Cond.code ({ cls := "SuiteBench$Traits", name := "areSplit", desc := "(II)Z" } : Jvm.MethodName) prog_11_method_11_code (4 : Nat) (Option.some Jvm.ClassFile.FieldType.boolean)), 3, 133)]) (by decide +kernel) _ (List.mem_singleton.mpr rfl)), (tk_mem (l := [((Jvm.Cond.initialized "SuiteBench$Traits"), 1, 6)]) (by decide +kernel) _ (List.mem_singleton.mpr rfl)), ⟨by decide +kernel, by decide +kernel, by decide +kernel⟩, ⟨(tk_mem (l := [((Jvm.Cond.instanceMethod ({ cls := "SuiteBench$Traits", name := "areSplit", desc := "(II)Z" } : Jvm.MethodName)), 3, 132)]) (by decide +kernel) _ (List.mem_singleton.mpr rfl)), gw_sel 8 (by decide +kernel), .inl ⟨_, _, rfl⟩⟩⟩
theorem c_A_areSplit {E2 : (Nat → Nat) → State → Heap → Prop} (hE : ai_XH E2) : ai_S E2 i_A_areSplit f_A_areSplit := snd_M (by decide) rfl (by decide) a_A_areSplit kc_A_ok (by rfl) (by decide) (fun a i h => match a, h with
    | 0, h => by cases h; exact ⟨c_M_tell hE, w_M_tell⟩
    | _ + 1, h => by simp [cal_A_areSplit, ai_nth] at h)
def k_A_learnSplitters : ai_C := [
  [(0, .aload_n 0, 1, 0, 0, 0, 0, 0, []), (1, .iconst 0, 1, 0, 0, 0, 0, 0, []), (2, .putfield 108, 3, 9, 10, 23, 0, 10, []), (5, .iconst 0, 1, 0, 0, 0, 0, 0, []), (6, .istore_n 1, 1, 1, 0, 0, 0, 0, []), (7, .iload_n 1, 1, 1, 0, 0, 0, 0, []), (8, .aload_n 0, 1, 0, 0, 0, 0, 0, []), (9, .getfield 33, 3, 9, 0, 9, 2, 0, []), (12, .getfield 52, 3, 1, 2, 15, 0, 2, []), (15, .if_icmp .ge 103, 3, 118, 0, 0, 0, 0, [])],
  [(18, .iload_n 1, 1, 1, 0, 0, 0, 0, []), (19, .iconst 1, 1, 0, 0, 0, 0, 1, []), (20, .iadd, 1, 0, 0, 0, 0, 0, []), (21, .istore_n 2, 1, 2, 0, 0, 0, 0, []), (22, .iload_n 2, 1, 2, 0, 0, 0, 0, []), (23, .aload_n 0, 1, 0, 0, 0, 0, 0, []), (24, .getfield 33, 3, 9, 0, 9, 2, 0, []), (27, .getfield 52, 3, 1, 2, 15, 0, 2, []), (30, .if_icmp .ge 82, 3, 112, 0, 0, 0, 0, [])],
  [(33, .aload_n 0, 1, 0, 0, 0, 0, 0, []), (34, .iload_n 1, 1, 1, 0, 0, 0, 0, []), (35, .invokevirtual 89, 3, 0, 2, 18, 0, 0, [(0, 9)]), (38, .ifCond .eq 68, 3, 106, 0, 0, 0, 0, []), (41, .aload_n 0, 1, 0, 0, 0, 0, 0, []), (42, .iload_n 2, 1, 2, 0, 0, 0, 0, []), (43, .invokevirtual 89, 3, 0, 2, 18, 0, 0, [(0, 9)]), (46, .ifCond .eq 60, 3, 106, 0, 0, 0, 0, [])],
  [(49, .aload_n 0, 1, 0, 0, 0, 0, 0, []), (50, .iload_n 1, 1, 1, 0, 0, 0, 0, []), (51, .iload_n 2, 1, 2, 0, 0, 0, 0, []), (52, .invokevirtual 93, 3, 1, 3, 20, 0, 0, [(0, 9)]), (55, .ifCond .ne 51, 3, 106, 0, 0, 0, 0, []), (58, .aload_n 0, 1, 0, 0, 0, 0, 0, []), (59, .iload_n 1, 1, 1, 0, 0, 0, 0, []), (60, .iload_n 2, 1, 2, 0, 0, 0, 0, []), (61, .invokevirtual 111, 3, 2, 3, 25, 0, 0, [(0, 9)])],
  [(64, .ifCond .ne 42, 3, 106, 0, 0, 0, 0, []), (67, .aload_n 0, 1, 0, 0, 0, 0, 0, []), (68, .getfield 108, 3, 9, 10, 23, 0, 10, []), (71, .bipush 6, 2, 0, 0, 0, 0, 6, []), (73, .if_icmp .ge 33, 3, 106, 0, 0, 0, 0, []), (76, .aload_n 0, 1, 0, 0, 0, 0, 0, []), (77, .getfield 21, 3, 9, 4, 5, 2, 4, [])],
  [(80, .aload_n 0, 1, 0, 0, 0, 0, 0, []), (81, .getfield 108, 3, 9, 10, 23, 0, 10, []), (84, .aload_n 0, 1, 0, 0, 0, 0, 0, []), (85, .getfield 15, 3, 9, 2, 3, 2, 2, []), (88, .iload_n 1, 1, 1, 0, 0, 0, 0, []), (89, .bipush 6, 2, 0, 0, 0, 0, 6, []), (91, .imul, 1, 0, 0, 0, 0, 0, []), (92, .iload_n 2, 1, 2, 0, 0, 0, 0, []), (93, .iadd, 1, 0, 0, 0, 0, 0, []), (94, .iaload, 1, 0, 0, 0, 0, 0, []), (95, .iastore, 1, 0, 0, 0, 0, 0, [])],
  [(96, .aload_n 0, 1, 0, 0, 0, 0, 0, []), (97, .dup, 1, 0, 0, 0, 0, 0, []), (98, .getfield 108, 3, 9, 10, 23, 0, 10, []), (101, .iconst 1, 1, 0, 0, 0, 0, 1, []), (102, .iadd, 1, 0, 0, 0, 0, 0, []), (103, .putfield 108, 3, 9, 10, 23, 0, 10, []), (106, .iinc 2 1, 3, 2, 0, 0, 0, 1, []), (109, .goto (-87), 3, 22, 0, 0, 0, 0, [])],
  [(112, .iinc 1 1, 3, 1, 0, 0, 0, 1, []), (115, .goto (-108), 3, 7, 0, 0, 0, 0, []), (118, .aload_n 0, 1, 0, 0, 0, 0, 0, []), (119, .getfield 108, 3, 9, 10, 23, 0, 10, []), (122, .ifCond .ne 25, 3, 147, 0, 0, 0, 0, []), (125, .aload_n 0, 1, 0, 0, 0, 0, 0, []), (126, .getfield 33, 3, 9, 0, 9, 2, 0, [])],
  [(129, .getfield 52, 3, 1, 2, 15, 0, 2, []), (132, .ifCond .le 15, 3, 147, 0, 0, 0, 0, []), (135, .aload_n 0, 1, 0, 0, 0, 0, 0, []), (136, .getfield 21, 3, 9, 4, 5, 2, 4, []), (139, .iconst 0, 1, 0, 0, 0, 0, 0, []), (140, .iconst 0, 1, 0, 0, 0, 0, 0, []), (141, .iastore, 1, 0, 0, 0, 0, 0, []), (142, .aload_n 0, 1, 0, 0, 0, 0, 0, []), (143, .iconst 1, 1, 0, 0, 0, 0, 1, [])],
  [(144, .putfield 108, 3, 9, 10, 23, 0, 10, []), (147, .return_, 1, 0, 0, 0, 0, 0, [])]]
def i_A_learnSplitters : ai_I := ((⟨"SuiteBench$Traits", "learnSplitters", "()V"⟩, prog_11_method_10_code, 3, none, 9, 3, 71, 0, 0, 0, 9) : ai_I)
def o_A_learnSplitters (a : Nat) : SP := match a with
  | 0 => f_A_isReached
  | 1 => f_A_areAlike
  | 2 => f_A_areSplit
  | _ => fun _ _ _ _ _ => False
theorem mo_A_learnSplitters : ∀ a, ai_mono (o_A_learnSplitters a)
  | 0 => mf_A_isReached
  | 1 => mf_A_areAlike
  | 2 => mf_A_areSplit
  | _ + 3 => fun _ _ _ _ _ _ _ h => h
def f_A_learnSplitters : SP := ai_M o_A_learnSplitters 0 3 k_A_learnSplitters
theorem mf_A_learnSplitters : ai_mono f_A_learnSplitters := M_mono mo_A_learnSplitters
abbrev cal_A_learnSplitters : List ai_I := [i_A_isReached, i_A_areAlike, i_A_areSplit]
theorem a_A_learnSplitters : ai_all "SuiteBench$Traits" prog_11_method_10_code 3 kc_A cal_A_learnSplitters 3 71 false none k_A_learnSplitters = true := by decide +kernel
theorem w_A_learnSplitters : ai_CW i_A_learnSplitters := ⟨(tk_mem (l := [((Jvm.Cond.code ({ cls := "SuiteBench$Traits", name := "learnSplitters", desc := "()V" } : Jvm.MethodName) prog_11_method_10_code (3 : Nat) (Option.none : Option Jvm.ClassFile.FieldType)), 3, 129)]) (by decide +kernel) _ (List.mem_singleton.mpr rfl)), (tk_mem (l := [((Jvm.Cond.initialized "SuiteBench$Traits"), 1, 6)]) (by decide +kernel) _ (List.mem_singleton.mpr rfl)), ⟨by decide +kernel, by decide +kernel, by decide +kernel⟩, ⟨(tk_mem (l := [((Jvm.Cond.instanceMethod ({ cls := "SuiteBench$Traits", name := "learnSplitters", desc := "()V" } : Jvm.MethodName)), 3, 128)]) (by decide +kernel) _ (List.mem_singleton.mpr rfl)), gw_sel 7 (by decide +kernel), .inl ⟨_, _, rfl⟩⟩⟩
theorem c_A_learnSplitters {E2 : (Nat → Nat) → State → Heap → Prop} (hE : ai_XH E2) : ai_S E2 i_A_learnSplitters f_A_learnSplitters := snd_M (by decide) rfl (by decide) a_A_learnSplitters kc_A_ok (by rfl) (by decide) (fun a i h => match a, h with
    | 0, h => by cases h; exact ⟨c_A_isReached hE, w_A_isReached⟩
    | 1, h => by cases h; exact ⟨c_A_areAlike hE, w_A_areAlike⟩
    | 2, h => by cases h; exact ⟨c_A_areSplit hE, w_A_areSplit⟩
    | _ + 3, h => by simp [cal_A_learnSplitters, ai_nth] at h)
def k_A_addMark : ai_C := [
  [(0, .iload_n 1, 1, 1, 0, 0, 0, 0, []), (1, .bipush 6, 2, 0, 0, 0, 0, 6, []), (3, .imul, 1, 0, 0, 0, 0, 0, []), (4, .istore_n 3, 1, 3, 0, 0, 0, 0, []), (5, .aload_n 0, 1, 0, 0, 0, 0, 0, []), (6, .getfield 27, 3, 9, 6, 7, 2, 6, []), (9, .iload_n 1, 1, 1, 0, 0, 0, 0, []), (10, .iaload, 1, 0, 0, 0, 0, 0, []), (11, .istore 4, 2, 4, 0, 0, 0, 0, []), (13, .iconst 0, 1, 0, 0, 0, 0, 0, []), (14, .istore 5, 2, 5, 0, 0, 0, 0, [])],
  [(16, .iload 5, 2, 5, 0, 0, 0, 0, []), (18, .iload 4, 2, 4, 0, 0, 0, 0, []), (20, .if_icmp .ge 23, 3, 43, 0, 0, 0, 0, []), (23, .aload_n 0, 1, 0, 0, 0, 0, 0, []), (24, .getfield 24, 3, 9, 5, 6, 2, 5, []), (27, .iload_n 3, 1, 3, 0, 0, 0, 0, []), (28, .iload 5, 2, 5, 0, 0, 0, 0, []), (30, .iadd, 1, 0, 0, 0, 0, 0, []), (31, .iaload, 1, 0, 0, 0, 0, 0, [])],
  [(32, .iload_n 2, 1, 2, 0, 0, 0, 0, []), (33, .if_icmp .ne 4, 3, 37, 0, 0, 0, 0, []), (36, .return_, 1, 0, 0, 0, 0, 0, []), (37, .iinc 5 1, 3, 5, 0, 0, 0, 1, []), (40, .goto (-24), 3, 16, 0, 0, 0, 0, []), (43, .iload 4, 2, 4, 0, 0, 0, 0, []), (45, .bipush 6, 2, 0, 0, 0, 0, 6, []), (47, .if_icmp .lt 4, 3, 51, 0, 0, 0, 0, [])],
  [(50, .return_, 1, 0, 0, 0, 0, 0, []), (51, .iload 4, 2, 4, 0, 0, 0, 0, []), (53, .istore 5, 2, 5, 0, 0, 0, 0, []), (55, .iload 5, 2, 5, 0, 0, 0, 0, []), (57, .ifCond .le 44, 3, 101, 0, 0, 0, 0, []), (60, .aload_n 0, 1, 0, 0, 0, 0, 0, []), (61, .getfield 24, 3, 9, 5, 6, 2, 5, [])],
  [(64, .iload_n 3, 1, 3, 0, 0, 0, 0, []), (65, .iload 5, 2, 5, 0, 0, 0, 0, []), (67, .iadd, 1, 0, 0, 0, 0, 0, []), (68, .iconst 1, 1, 0, 0, 0, 0, 1, []), (69, .isub, 1, 0, 0, 0, 0, 0, []), (70, .iaload, 1, 0, 0, 0, 0, 0, []), (71, .iload_n 2, 1, 2, 0, 0, 0, 0, []), (72, .if_icmp .le 29, 3, 101, 0, 0, 0, 0, []), (75, .aload_n 0, 1, 0, 0, 0, 0, 0, []), (76, .getfield 24, 3, 9, 5, 6, 2, 5, []), (79, .iload_n 3, 1, 3, 0, 0, 0, 0, [])],
  [(80, .iload 5, 2, 5, 0, 0, 0, 0, []), (82, .iadd, 1, 0, 0, 0, 0, 0, []), (83, .aload_n 0, 1, 0, 0, 0, 0, 0, []), (84, .getfield 24, 3, 9, 5, 6, 2, 5, []), (87, .iload_n 3, 1, 3, 0, 0, 0, 0, []), (88, .iload 5, 2, 5, 0, 0, 0, 0, []), (90, .iadd, 1, 0, 0, 0, 0, 0, []), (91, .iconst 1, 1, 0, 0, 0, 0, 1, []), (92, .isub, 1, 0, 0, 0, 0, 0, []), (93, .iaload, 1, 0, 0, 0, 0, 0, []), (94, .iastore, 1, 0, 0, 0, 0, 0, []), (95, .iinc 5 (-1), 3, 5, 0, 0, 0, (-1), [])],
  [(98, .goto (-43), 3, 55, 0, 0, 0, 0, []), (101, .aload_n 0, 1, 0, 0, 0, 0, 0, []), (102, .getfield 24, 3, 9, 5, 6, 2, 5, []), (105, .iload_n 3, 1, 3, 0, 0, 0, 0, []), (106, .iload 5, 2, 5, 0, 0, 0, 0, []), (108, .iadd, 1, 0, 0, 0, 0, 0, []), (109, .iload_n 2, 1, 2, 0, 0, 0, 0, []), (110, .iastore, 1, 0, 0, 0, 0, 0, []), (111, .aload_n 0, 1, 0, 0, 0, 0, 0, [])],
  [(112, .getfield 27, 3, 9, 6, 7, 2, 6, []), (115, .iload_n 1, 1, 1, 0, 0, 0, 0, []), (116, .iload 4, 2, 4, 0, 0, 0, 0, []), (118, .iconst 1, 1, 0, 0, 0, 0, 1, []), (119, .iadd, 1, 0, 0, 0, 0, 0, []), (120, .iastore, 1, 0, 0, 0, 0, 0, []), (121, .return_, 1, 0, 0, 0, 0, 0, [])]]
def i_A_addMark : ai_I := ((⟨"SuiteBench$Traits", "addMark", "(II)V"⟩, prog_11_method_13_code, 6, none, 9, 0, 0, 0, 2, 0, 9) : ai_I)
def o_A_addMark (_ : Nat) : SP := fun _ _ _ _ _ => False
theorem mo_A_addMark : ∀ a, ai_mono (o_A_addMark a) := fun _ _ _ _ _ _ _ _ h => h
def f_A_addMark : SP := ai_M o_A_addMark 0 6 k_A_addMark
theorem mf_A_addMark : ai_mono f_A_addMark := M_mono mo_A_addMark
abbrev cal_A_addMark : List ai_I := []
theorem a_A_addMark : ai_all "SuiteBench$Traits" prog_11_method_13_code 6 kc_A cal_A_addMark 0 0 false none k_A_addMark = true := by decide +kernel
theorem w_A_addMark : ai_CW i_A_addMark := ⟨(tk_mem (l := [((Jvm.Cond.code ({ cls := "SuiteBench$Traits", name := "addMark", desc := "(II)V" } : Jvm.MethodName) prog_11_method_13_code (6 : Nat) (Option.none : Option Jvm.ClassFile.FieldType)), 3, 150)]) (by decide +kernel) _ (List.mem_singleton.mpr rfl)), (tk_mem (l := [((Jvm.Cond.initialized "SuiteBench$Traits"), 1, 6)]) (by decide +kernel) _ (List.mem_singleton.mpr rfl)), ⟨by decide +kernel, by decide +kernel, by decide +kernel⟩, ⟨(tk_mem (l := [((Jvm.Cond.instanceMethod ({ cls := "SuiteBench$Traits", name := "addMark", desc := "(II)V" } : Jvm.MethodName)), 3, 149)]) (by decide +kernel) _ (List.mem_singleton.mpr rfl)), gw_sel 10 (by decide +kernel), .inl ⟨_, _, rfl⟩⟩⟩
theorem c_A_addMark {E2 : (Nat → Nat) → State → Heap → Prop} (hE : ai_XH E2) : ai_S E2 i_A_addMark f_A_addMark := snd_M (by decide) rfl (by decide) a_A_addMark kc_A_ok (by rfl) (by decide) (fun a i h => by simp [cal_A_addMark, ai_nth] at h)
def k_A_learnMarks : ai_C := [
  [(0, .aload_n 0, 1, 0, 0, 0, 0, 0, []), (1, .getfield 27, 3, 9, 6, 7, 2, 6, []), (4, .iload_n 1, 1, 1, 0, 0, 0, 0, []), (5, .iconst 0, 1, 0, 0, 0, 0, 0, []), (6, .iastore, 1, 0, 0, 0, 0, 0, []), (7, .iconst 0, 1, 0, 0, 0, 0, 0, []), (8, .istore_n 2, 1, 2, 0, 0, 0, 0, []), (9, .iload_n 2, 1, 2, 0, 0, 0, 0, []), (10, .aload_n 0, 1, 0, 0, 0, 0, 0, []), (11, .getfield 33, 3, 9, 0, 9, 2, 0, []), (14, .getfield 52, 3, 1, 2, 15, 0, 2, [])],
  [(17, .if_icmp .ge 42, 3, 59, 0, 0, 0, 0, []), (20, .aload_n 0, 1, 0, 0, 0, 0, 0, []), (21, .iload_n 2, 1, 2, 0, 0, 0, 0, []), (22, .invokevirtual 89, 3, 0, 2, 18, 0, 0, [(0, 9)]), (25, .ifCond .eq 28, 3, 53, 0, 0, 0, 0, []), (28, .aload_n 0, 1, 0, 0, 0, 0, 0, []), (29, .iload_n 1, 1, 1, 0, 0, 0, 0, []), (30, .iload_n 2, 1, 2, 0, 0, 0, 0, []), (31, .invokevirtual 93, 3, 1, 3, 20, 0, 0, [(0, 9)])],
  [(34, .ifCond .ne 19, 3, 53, 0, 0, 0, 0, []), (37, .aload_n 0, 1, 0, 0, 0, 0, 0, []), (38, .iload_n 1, 1, 1, 0, 0, 0, 0, []), (39, .aload_n 0, 1, 0, 0, 0, 0, 0, []), (40, .getfield 15, 3, 9, 2, 3, 2, 2, []), (43, .iload_n 1, 1, 1, 0, 0, 0, 0, []), (44, .bipush 6, 2, 0, 0, 0, 0, 6, []), (46, .imul, 1, 0, 0, 0, 0, 0, []), (47, .iload_n 2, 1, 2, 0, 0, 0, 0, [])],
  [(48, .iadd, 1, 0, 0, 0, 0, 0, []), (49, .iaload, 1, 0, 0, 0, 0, 0, []), (50, .invokevirtual 118, 3, 2, 3, 26, 9, 0, [(0, 9)]), (53, .iinc 2 1, 3, 2, 0, 0, 0, 1, []), (56, .goto (-47), 3, 9, 0, 0, 0, 0, []), (59, .aload_n 0, 1, 0, 0, 0, 0, 0, []), (60, .getfield 27, 3, 9, 6, 7, 2, 6, []), (63, .iload_n 1, 1, 1, 0, 0, 0, 0, [])],
  [(64, .iaload, 1, 0, 0, 0, 0, 0, []), (65, .ifCond .ne 9, 3, 74, 0, 0, 0, 0, []), (68, .aload_n 0, 1, 0, 0, 0, 0, 0, []), (69, .iload_n 1, 1, 1, 0, 0, 0, 0, []), (70, .iconst 0, 1, 0, 0, 0, 0, 0, []), (71, .invokevirtual 118, 3, 2, 3, 26, 9, 0, [(0, 9)]), (74, .return_, 1, 0, 0, 0, 0, 0, [])]]
def i_A_learnMarks : ai_I := ((⟨"SuiteBench$Traits", "learnMarks", "(I)V"⟩, prog_11_method_12_code, 3, none, 9, 1, 25, 0, 1, 0, 9) : ai_I)
def o_A_learnMarks (a : Nat) : SP := match a with
  | 0 => f_A_isReached
  | 1 => f_A_areAlike
  | 2 => f_A_addMark
  | _ => fun _ _ _ _ _ => False
theorem mo_A_learnMarks : ∀ a, ai_mono (o_A_learnMarks a)
  | 0 => mf_A_isReached
  | 1 => mf_A_areAlike
  | 2 => mf_A_addMark
  | _ + 3 => fun _ _ _ _ _ _ _ h => h
def f_A_learnMarks : SP := ai_M o_A_learnMarks 0 3 k_A_learnMarks
theorem mf_A_learnMarks : ai_mono f_A_learnMarks := M_mono mo_A_learnMarks
abbrev cal_A_learnMarks : List ai_I := [i_A_isReached, i_A_areAlike, i_A_addMark]
theorem a_A_learnMarks : ai_all "SuiteBench$Traits" prog_11_method_12_code 3 kc_A cal_A_learnMarks 1 25 false none k_A_learnMarks = true := by decide +kernel
theorem w_A_learnMarks : ai_CW i_A_learnMarks := ⟨(tk_mem (l := [((Jvm.Cond.code ({ cls := "SuiteBench$Traits", name := "learnMarks", desc := "(I)V" } : Jvm.MethodName) prog_11_method_12_code (3 : Nat) (Option.none : Option Jvm.ClassFile.FieldType)), 3, 146)]) (by decide +kernel) _ (List.mem_singleton.mpr rfl)), (tk_mem (l := [((Jvm.Cond.initialized "SuiteBench$Traits"), 1, 6)]) (by decide +kernel) _ (List.mem_singleton.mpr rfl)), ⟨by decide +kernel, by decide +kernel, by decide +kernel⟩, ⟨(tk_mem (l := [((Jvm.Cond.instanceMethod ({ cls := "SuiteBench$Traits", name := "learnMarks", desc := "(I)V" } : Jvm.MethodName)), 3, 145)]) (by decide +kernel) _ (List.mem_singleton.mpr rfl)), gw_sel 9 (by decide +kernel), .inl ⟨_, _, rfl⟩⟩⟩
theorem c_A_learnMarks {E2 : (Nat → Nat) → State → Heap → Prop} (hE : ai_XH E2) : ai_S E2 i_A_learnMarks f_A_learnMarks := snd_M (by decide) rfl (by decide) a_A_learnMarks kc_A_ok (by rfl) (by decide) (fun a i h => match a, h with
    | 0, h => by cases h; exact ⟨c_A_isReached hE, w_A_isReached⟩
    | 1, h => by cases h; exact ⟨c_A_areAlike hE, w_A_areAlike⟩
    | 2, h => by cases h; exact ⟨c_A_addMark hE, w_A_addMark⟩
    | _ + 3, h => by simp [cal_A_learnMarks, ai_nth] at h)
def k_A_learn : ai_C := [
  [(0, .aload_n 0, 1, 0, 0, 0, 0, 0, []), (1, .invokevirtual 37, 3, 0, 1, 27, 9, 0, [(0, 9)]), (4, .aload_n 0, 1, 0, 0, 0, 0, 0, []), (5, .invokevirtual 40, 3, 1, 1, 28, 9, 0, [(0, 9)]), (8, .aload_n 0, 1, 0, 0, 0, 0, 0, []), (9, .invokevirtual 43, 3, 2, 1, 29, 9, 0, [(0, 9)]), (12, .aload_n 0, 1, 0, 0, 0, 0, 0, []), (13, .invokevirtual 46, 3, 3, 1, 30, 9, 0, [(0, 9)])],
  [(16, .aload_n 0, 1, 0, 0, 0, 0, 0, []), (17, .invokevirtual 49, 3, 4, 1, 31, 9, 0, [(0, 9)]), (20, .iconst 0, 1, 0, 0, 0, 0, 0, []), (21, .istore_n 1, 1, 1, 0, 0, 0, 0, []), (22, .iload_n 1, 1, 1, 0, 0, 0, 0, []), (23, .aload_n 0, 1, 0, 0, 0, 0, 0, []), (24, .getfield 33, 3, 9, 0, 9, 2, 0, []), (27, .getfield 52, 3, 1, 2, 15, 0, 2, []), (30, .if_icmp .ge 14, 3, 44, 0, 0, 0, 0, [])],
  [(33, .aload_n 0, 1, 0, 0, 0, 0, 0, []), (34, .iload_n 1, 1, 1, 0, 0, 0, 0, []), (35, .invokevirtual 58, 3, 5, 2, 32, 9, 0, [(0, 9)]), (38, .iinc 1 1, 3, 1, 0, 0, 0, 1, []), (41, .goto (-19), 3, 22, 0, 0, 0, 0, []), (44, .return_, 1, 0, 0, 0, 0, 0, [])]]
def i_A_learn : ai_I := ((⟨"SuiteBench$Traits", "learn", "()V"⟩, prog_11_method_2_code, 2, none, 9, 4, 93, 0, 0, 0, 9) : ai_I)
def o_A_learn (a : Nat) : SP := match a with
  | 0 => f_A_learnTop
  | 1 => f_A_learnAccess
  | 2 => f_A_learnSeparators
  | 3 => f_A_learnKinds
  | 4 => f_A_learnSplitters
  | 5 => f_A_learnMarks
  | _ => fun _ _ _ _ _ => False
theorem mo_A_learn : ∀ a, ai_mono (o_A_learn a)
  | 0 => mf_A_learnTop
  | 1 => mf_A_learnAccess
  | 2 => mf_A_learnSeparators
  | 3 => mf_A_learnKinds
  | 4 => mf_A_learnSplitters
  | 5 => mf_A_learnMarks
  | _ + 6 => fun _ _ _ _ _ _ _ h => h
def f_A_learn : SP := ai_M o_A_learn 0 2 k_A_learn
theorem mf_A_learn : ai_mono f_A_learn := M_mono mo_A_learn
abbrev cal_A_learn : List ai_I := [i_A_learnTop, i_A_learnAccess, i_A_learnSeparators, i_A_learnKinds, i_A_learnSplitters, i_A_learnMarks]
theorem a_A_learn : ai_all "SuiteBench$Traits" prog_11_method_2_code 2 kc_A cal_A_learn 4 93 false none k_A_learn = true := by decide +kernel
theorem w_A_learn : ai_CW i_A_learn := ⟨(tk_mem (l := [((Jvm.Cond.code ({ cls := "SuiteBench$Traits", name := "learn", desc := "()V" } : Jvm.MethodName) prog_11_method_2_code (2 : Nat) (Option.none : Option Jvm.ClassFile.FieldType)), 3, 90)]) (by decide +kernel) _ (List.mem_singleton.mpr rfl)), (tk_mem (l := [((Jvm.Cond.initialized "SuiteBench$Traits"), 1, 6)]) (by decide +kernel) _ (List.mem_singleton.mpr rfl)), ⟨by decide +kernel, by decide +kernel, by decide +kernel⟩, ⟨(tk_mem (l := [((Jvm.Cond.instanceMethod ({ cls := "SuiteBench$Traits", name := "learn", desc := "()V" } : Jvm.MethodName)), 3, 88)]) (by decide +kernel) _ (List.mem_singleton.mpr rfl)), (tk_mem (l := [((Jvm.Cond.selects "SuiteBench$Traits" ({ cls := "SuiteBench$Traits", name := "learn", desc := "()V" } : Jvm.MethodName) ({ cls := "SuiteBench$Traits", name := "learn", desc := "()V" } : Jvm.MethodName)), 3, 89)]) (by decide +kernel) _ (List.mem_singleton.mpr rfl)), .inl ⟨_, _, rfl⟩⟩⟩
theorem c_A_learn {E2 : (Nat → Nat) → State → Heap → Prop} (hE : ai_XH E2) : ai_S E2 i_A_learn f_A_learn := snd_M (by decide) rfl (by decide) a_A_learn kc_A_ok (by rfl) (by decide) (fun a i h => match a, h with
    | 0, h => by cases h; exact ⟨c_A_learnTop hE, w_A_learnTop⟩
    | 1, h => by cases h; exact ⟨c_A_learnAccess hE, w_A_learnAccess⟩
    | 2, h => by cases h; exact ⟨c_A_learnSeparators hE, w_A_learnSeparators⟩
    | 3, h => by cases h; exact ⟨c_A_learnKinds hE, w_A_learnKinds⟩
    | 4, h => by cases h; exact ⟨c_A_learnSplitters hE, w_A_learnSplitters⟩
    | 5, h => by cases h; exact ⟨c_A_learnMarks hE, w_A_learnMarks⟩
    | _ + 6, h => by simp [cal_A_learn, ai_nth] at h)
def k_S_renew : ai_C := [
  [(0, .aload_n 0, 1, 0, 0, 0, 0, 0, []), (1, .getfield 21, 3, 5, 5, 5, 2, 5, []), (4, .bipush (-9), 2, 0, 0, 0, 0, (-9), []), (6, .invokestatic 41, 3, 0, 2, 11, 9, 0, [(0, 99)]), (9, .aload_n 0, 1, 0, 0, 0, 0, 0, []), (10, .getfield 24, 3, 5, 6, 6, 2, 6, []), (13, .bipush (-9), 2, 0, 0, 0, 0, (-9), []), (15, .invokestatic 41, 3, 0, 2, 11, 9, 0, [(0, 99)])],
  [(18, .aload_n 0, 1, 0, 0, 0, 0, 0, []), (19, .iconst 0, 1, 0, 0, 0, 0, 0, []), (20, .putfield 47, 3, 5, 9, 12, 3, 9, []), (23, .return_, 1, 0, 0, 0, 0, 0, [])]]
def i_S_renew : ai_I := ((⟨"SuiteBench$Search", "renew", "()V"⟩, prog_7_method_2_code, 1, none, 9, 1, 23, 0, 0, 0, 5) : ai_I)
def o_S_renew (a : Nat) : SP := match a with
  | 0 => f_J_fill
  | _ => fun _ _ _ _ _ => False
theorem mo_S_renew : ∀ a, ai_mono (o_S_renew a)
  | 0 => mf_J_fill
  | _ + 1 => fun _ _ _ _ _ _ _ h => h
def f_S_renew : SP := ai_M o_S_renew 0 1 k_S_renew
theorem mf_S_renew : ai_mono f_S_renew := M_mono mo_S_renew
abbrev cal_S_renew : List ai_I := [i_J_fill]
theorem a_S_renew : ai_all "SuiteBench$Search" prog_7_method_2_code 1 kc_S cal_S_renew 1 23 false none k_S_renew = true := by decide +kernel
theorem w_S_renew : ai_CW i_S_renew := ⟨(tk_mem (l := [((Jvm.Cond.code ({ cls := "SuiteBench$Search", name := "renew", desc := "()V" } : Jvm.MethodName) prog_7_method_2_code (1 : Nat) (Option.none : Option Jvm.ClassFile.FieldType)), 3, 154)]) (by decide +kernel) _ (List.mem_singleton.mpr rfl)), (tk_mem (l := [((Jvm.Cond.initialized "SuiteBench$Search"), 1, 7)]) (by decide +kernel) _ (List.mem_singleton.mpr rfl)), ⟨by decide +kernel, by decide +kernel, by decide +kernel⟩, ⟨(tk_mem (l := [((Jvm.Cond.instanceMethod ({ cls := "SuiteBench$Search", name := "renew", desc := "()V" } : Jvm.MethodName)), 3, 152)]) (by decide +kernel) _ (List.mem_singleton.mpr rfl)), (tk_mem (l := [((Jvm.Cond.selects "SuiteBench$Search" ({ cls := "SuiteBench$Search", name := "renew", desc := "()V" } : Jvm.MethodName) ({ cls := "SuiteBench$Search", name := "renew", desc := "()V" } : Jvm.MethodName)), 3, 153)]) (by decide +kernel) _ (List.mem_singleton.mpr rfl)), .inl ⟨_, _, rfl⟩⟩⟩
theorem c_S_renew {E2 : (Nat → Nat) → State → Heap → Prop} (hE : ai_XH E2) : ai_S E2 i_S_renew f_S_renew := snd_M (by decide) rfl (by decide) a_S_renew kc_S_ok (by rfl) (by decide) (fun a i h => match a, h with
    | 0, h => by cases h; exact ⟨c_J_fill hE, w_J_fill⟩
    | _ + 1, h => by simp [cal_S_renew, ai_nth] at h)
def k_E_clear : ai_C := [
  [(0, .aload_n 0, 1, 0, 0, 0, 0, 0, []), (1, .iconst 0, 1, 0, 0, 0, 0, 0, []), (2, .putfield 33, 3, 8, 7, 9, 0, 7, []), (5, .aload_n 0, 1, 0, 0, 0, 0, 0, []), (6, .iconst 0, 1, 0, 0, 0, 0, 0, []), (7, .putfield 37, 3, 8, 8, 10, 0, 8, []), (10, .aload_n 0, 1, 0, 0, 0, 0, 0, []), (11, .iconst 0, 1, 0, 0, 0, 0, 0, []), (12, .putfield 40, 3, 8, 9, 11, 3, 9, []), (15, .return_, 1, 0, 0, 0, 0, 0, [])]]
def i_E_clear : ai_I := ((⟨"SuiteBench$Tests", "clear", "()V"⟩, prog_10_method_2_code, 1, none, 9, 0, 0, 0, 0, 0, 8) : ai_I)
def o_E_clear (_ : Nat) : SP := fun _ _ _ _ _ => False
theorem mo_E_clear : ∀ a, ai_mono (o_E_clear a) := fun _ _ _ _ _ _ _ _ h => h
def f_E_clear : SP := ai_M o_E_clear 0 1 k_E_clear
theorem mf_E_clear : ai_mono f_E_clear := M_mono mo_E_clear
abbrev cal_E_clear : List ai_I := []
theorem a_E_clear : ai_all "SuiteBench$Tests" prog_10_method_2_code 1 kc_E cal_E_clear 0 0 false none k_E_clear = true := by decide +kernel
theorem w_E_clear : ai_CW i_E_clear := ⟨(tk_mem (l := [((Jvm.Cond.code ({ cls := "SuiteBench$Tests", name := "clear", desc := "()V" } : Jvm.MethodName) prog_10_method_2_code (1 : Nat) (Option.none : Option Jvm.ClassFile.FieldType)), 3, 163)]) (by decide +kernel) _ (List.mem_singleton.mpr rfl)), (tk_mem (l := [((Jvm.Cond.initialized "SuiteBench$Tests"), 1, 10)]) (by decide +kernel) _ (List.mem_singleton.mpr rfl)), ⟨by decide +kernel, by decide +kernel, by decide +kernel⟩, ⟨(tk_mem (l := [((Jvm.Cond.instanceMethod ({ cls := "SuiteBench$Tests", name := "clear", desc := "()V" } : Jvm.MethodName)), 3, 161)]) (by decide +kernel) _ (List.mem_singleton.mpr rfl)), (tk_mem (l := [((Jvm.Cond.selects "SuiteBench$Tests" ({ cls := "SuiteBench$Tests", name := "clear", desc := "()V" } : Jvm.MethodName) ({ cls := "SuiteBench$Tests", name := "clear", desc := "()V" } : Jvm.MethodName)), 3, 162)]) (by decide +kernel) _ (List.mem_singleton.mpr rfl)), .inl ⟨_, _, rfl⟩⟩⟩
theorem c_E_clear {E2 : (Nat → Nat) → State → Heap → Prop} (hE : ai_XH E2) : ai_S E2 i_E_clear f_E_clear := snd_M (by decide) rfl (by decide) a_E_clear kc_E_ok (by rfl) (by decide) (fun a i h => by simp [cal_E_clear, ai_nth] at h)
def k_T_renew : ai_C := [
  [(0, .aload_n 0, 1, 0, 0, 0, 0, 0, []), (1, .iload_n 1, 1, 1, 0, 0, 0, 0, []), (2, .putfield 56, 3, 6, 11, 21, 0, 11, []), (5, .iconst 0, 1, 0, 0, 0, 0, 0, []), (6, .istore_n 2, 1, 2, 0, 0, 0, 0, []), (7, .iload_n 2, 1, 2, 0, 0, 0, 0, []), (8, .aload_n 0, 1, 0, 0, 0, 0, 0, []), (9, .getfield 13, 3, 6, 3, 3, 2, 3, []), (12, .arraylength, 1, 0, 0, 0, 54, 0, []), (13, .if_icmp .ge 18, 3, 31, 0, 0, 0, 0, [])],
  [(16, .aload_n 0, 1, 0, 0, 0, 0, 0, []), (17, .getfield 13, 3, 6, 3, 3, 2, 3, []), (20, .iload_n 2, 1, 2, 0, 0, 0, 0, []), (21, .aaload, 1, 0, 0, 0, 0, 0, []), (22, .invokevirtual 60, 3, 0, 1, 22, 9, 0, [(0, 8)]), (25, .iinc 2 1, 3, 2, 0, 0, 0, 1, []), (28, .goto (-21), 3, 7, 0, 0, 0, 0, []), (31, .return_, 1, 0, 0, 0, 0, 0, [])]]
def i_T_renew : ai_I := ((⟨"SuiteBench$Suites", "renew", "(I)V"⟩, prog_8_method_2_code, 3, none, 9, 1, 20, 0, 1, 0, 6) : ai_I)
def o_T_renew (a : Nat) : SP := match a with
  | 0 => f_E_clear
  | _ => fun _ _ _ _ _ => False
theorem mo_T_renew : ∀ a, ai_mono (o_T_renew a)
  | 0 => mf_E_clear
  | _ + 1 => fun _ _ _ _ _ _ _ h => h
def f_T_renew : SP := ai_M o_T_renew 0 3 k_T_renew
theorem mf_T_renew : ai_mono f_T_renew := M_mono mo_T_renew
abbrev cal_T_renew : List ai_I := [i_E_clear]
theorem a_T_renew : ai_all "SuiteBench$Suites" prog_8_method_2_code 3 kc_T cal_T_renew 1 20 false none k_T_renew = true := by decide +kernel
theorem w_T_renew : ai_CW i_T_renew := ⟨(tk_mem (l := [((Jvm.Cond.code ({ cls := "SuiteBench$Suites", name := "renew", desc := "(I)V" } : Jvm.MethodName) prog_8_method_2_code (3 : Nat) (Option.none : Option Jvm.ClassFile.FieldType)), 3, 159)]) (by decide +kernel) _ (List.mem_singleton.mpr rfl)), (tk_mem (l := [((Jvm.Cond.initialized "SuiteBench$Suites"), 1, 8)]) (by decide +kernel) _ (List.mem_singleton.mpr rfl)), ⟨by decide +kernel, by decide +kernel, by decide +kernel⟩, ⟨(tk_mem (l := [((Jvm.Cond.instanceMethod ({ cls := "SuiteBench$Suites", name := "renew", desc := "(I)V" } : Jvm.MethodName)), 3, 157)]) (by decide +kernel) _ (List.mem_singleton.mpr rfl)), (tk_mem (l := [((Jvm.Cond.selects "SuiteBench$Suites" ({ cls := "SuiteBench$Suites", name := "renew", desc := "(I)V" } : Jvm.MethodName) ({ cls := "SuiteBench$Suites", name := "renew", desc := "(I)V" } : Jvm.MethodName)), 3, 158)]) (by decide +kernel) _ (List.mem_singleton.mpr rfl)), .inl ⟨_, _, rfl⟩⟩⟩
theorem c_T_renew {E2 : (Nat → Nat) → State → Heap → Prop} (hE : ai_XH E2) : ai_S E2 i_T_renew f_T_renew := snd_M (by decide) rfl (by decide) a_T_renew kc_T_ok (by rfl) (by decide) (fun a i h => match a, h with
    | 0, h => by cases h; exact ⟨c_E_clear hE, w_E_clear⟩
    | _ + 1, h => by simp [cal_T_renew, ai_nth] at h)
def k_U_add : ai_C := [
  [(0, .aload_n 0, 1, 0, 0, 0, 0, 0, []), (1, .getfield 71, 3, 2, 15, 21, 0, 15, []), (4, .sipush 252, 3, 0, 0, 0, 0, 252, []), (7, .if_icmp .ge 23, 3, 30, 0, 0, 0, 0, []), (10, .aload_n 0, 1, 0, 0, 0, 0, 0, []), (11, .getfield 21, 3, 2, 5, 8, 2, 5, []), (14, .aload_n 0, 1, 0, 0, 0, 0, 0, []), (15, .getfield 71, 3, 2, 15, 21, 0, 15, [])],
  [(18, .iload_n 1, 1, 1, 0, 0, 0, 0, []), (19, .iastore, 1, 0, 0, 0, 0, 0, []), (20, .aload_n 0, 1, 0, 0, 0, 0, 0, []), (21, .dup, 1, 0, 0, 0, 0, 0, []), (22, .getfield 71, 3, 2, 15, 21, 0, 15, []), (25, .iconst 1, 1, 0, 0, 0, 0, 1, []), (26, .iadd, 1, 0, 0, 0, 0, 0, []), (27, .putfield 71, 3, 2, 15, 21, 0, 15, []), (30, .return_, 1, 0, 0, 0, 0, 0, [])]]
def i_U_add : ai_I := ((⟨"SuiteBench$Mutants", "add", "(I)V"⟩, prog_4_method_4_code, 2, none, 9, 0, 0, 0, 1, 0, 2) : ai_I)
def o_U_add (_ : Nat) : SP := fun _ _ _ _ _ => False
theorem mo_U_add : ∀ a, ai_mono (o_U_add a) := fun _ _ _ _ _ _ _ _ h => h
def f_U_add : SP := ai_M o_U_add 0 2 k_U_add
theorem mf_U_add : ai_mono f_U_add := M_mono mo_U_add
abbrev cal_U_add : List ai_I := []
theorem a_U_add : ai_all "SuiteBench$Mutants" prog_4_method_4_code 2 kc_U cal_U_add 0 0 false none k_U_add = true := by decide +kernel
theorem w_U_add : ai_CW i_U_add := ⟨(tk_mem (l := [((Jvm.Cond.code ({ cls := "SuiteBench$Mutants", name := "add", desc := "(I)V" } : Jvm.MethodName) prog_4_method_4_code (2 : Nat) (Option.none : Option Jvm.ClassFile.FieldType)), 3, 177)]) (by decide +kernel) _ (List.mem_singleton.mpr rfl)), (tk_mem (l := [((Jvm.Cond.initialized "SuiteBench$Mutants"), 1, 11)]) (by decide +kernel) _ (List.mem_singleton.mpr rfl)), ⟨by decide +kernel, by decide +kernel, by decide +kernel⟩, ⟨(tk_mem (l := [((Jvm.Cond.instanceMethod ({ cls := "SuiteBench$Mutants", name := "add", desc := "(I)V" } : Jvm.MethodName)), 3, 176)]) (by decide +kernel) _ (List.mem_singleton.mpr rfl)), gw_sel 12 (by decide +kernel), .inl ⟨_, _, rfl⟩⟩⟩
theorem c_U_add {E2 : (Nat → Nat) → State → Heap → Prop} (hE : ai_XH E2) : ai_S E2 i_U_add f_U_add := snd_M (by decide) rfl (by decide) a_U_add kc_U_ok (by rfl) (by decide) (fun a i h => by simp [cal_U_add, ai_nth] at h)
def k_U_listArc : ai_C := [
  [(0, .aload_n 0, 1, 0, 0, 0, 0, 0, []), (1, .getfield 50, 3, 2, 0, 18, 2, 0, []), (4, .getfield 90, 3, 1, 0, 22, 2, 0, []), (7, .iload_n 1, 1, 1, 0, 0, 0, 0, []), (8, .iaload, 1, 0, 0, 0, 0, 0, []), (9, .istore_n 2, 1, 2, 0, 0, 0, 0, []), (10, .aload_n 0, 1, 0, 0, 0, 0, 0, []), (11, .getfield 50, 3, 2, 0, 18, 2, 0, []), (14, .getfield 93, 3, 1, 1, 23, 2, 1, [])],
  [(17, .iload_n 1, 1, 1, 0, 0, 0, 0, []), (18, .iaload, 1, 0, 0, 0, 0, 0, []), (19, .istore_n 3, 1, 3, 0, 0, 0, 0, []), (20, .iconst 0, 1, 0, 0, 0, 0, 0, []), (21, .istore 4, 2, 4, 0, 0, 0, 0, []), (23, .iload 4, 2, 4, 0, 0, 0, 0, []), (25, .aload_n 0, 1, 0, 0, 0, 0, 0, []), (26, .getfield 50, 3, 2, 0, 18, 2, 0, []), (29, .getfield 74, 3, 1, 2, 24, 0, 2, [])],
  [(32, .if_icmp .ge 30, 3, 62, 0, 0, 0, 0, []), (35, .iload 4, 2, 4, 0, 0, 0, 0, []), (37, .iload_n 2, 1, 2, 0, 0, 0, 0, []), (38, .if_icmp .eq 18, 3, 56, 0, 0, 0, 0, []), (41, .aload_n 0, 1, 0, 0, 0, 0, 0, []), (42, .iload_n 1, 1, 1, 0, 0, 0, 0, []), (43, .bipush 8, 2, 0, 0, 0, 0, 8, []), (45, .ishl, 1, 0, 0, 0, 0, 0, []), (46, .iload 4, 2, 4, 0, 0, 0, 0, [])],
  [(48, .iconst 4, 1, 0, 0, 0, 0, 4, []), (49, .ishl, 1, 0, 0, 0, 0, 0, []), (50, .ior, 1, 0, 0, 0, 0, 0, []), (51, .iload_n 3, 1, 3, 0, 0, 0, 0, []), (52, .ior, 1, 0, 0, 0, 0, 0, []), (53, .invokevirtual 96, 3, 0, 2, 25, 9, 0, [(0, 2)]), (56, .iinc 4 1, 3, 4, 0, 0, 0, 1, []), (59, .goto (-36), 3, 23, 0, 0, 0, 0, []), (62, .iconst 0, 1, 0, 0, 0, 0, 0, []), (63, .istore 4, 2, 4, 0, 0, 0, 0, [])],
  [(65, .iload 4, 2, 4, 0, 0, 0, 0, []), (67, .aload_n 0, 1, 0, 0, 0, 0, 0, []), (68, .getfield 53, 3, 2, 1, 19, 2, 1, []), (71, .getfield 99, 3, 9, 11, 26, 0, 11, []), (74, .if_icmp .gt 30, 3, 104, 0, 0, 0, 0, []), (77, .iload 4, 2, 4, 0, 0, 0, 0, []), (79, .iload_n 3, 1, 3, 0, 0, 0, 0, [])],
  [(80, .if_icmp .eq 18, 3, 98, 0, 0, 0, 0, []), (83, .aload_n 0, 1, 0, 0, 0, 0, 0, []), (84, .iload_n 1, 1, 1, 0, 0, 0, 0, []), (85, .bipush 8, 2, 0, 0, 0, 0, 8, []), (87, .ishl, 1, 0, 0, 0, 0, 0, []), (88, .iload_n 2, 1, 2, 0, 0, 0, 0, []), (89, .iconst 4, 1, 0, 0, 0, 0, 4, []), (90, .ishl, 1, 0, 0, 0, 0, 0, []), (91, .ior, 1, 0, 0, 0, 0, 0, []), (92, .iload 4, 2, 4, 0, 0, 0, 0, []), (94, .ior, 1, 0, 0, 0, 0, 0, []), (95, .invokevirtual 96, 3, 0, 2, 25, 9, 0, [(0, 2)])],
  [(98, .iinc 4 1, 3, 4, 0, 0, 0, 1, []), (101, .goto (-36), 3, 65, 0, 0, 0, 0, []), (104, .return_, 1, 0, 0, 0, 0, 0, [])]]
def i_U_listArc : ai_I := ((⟨"SuiteBench$Mutants", "listArc", "(I)V"⟩, prog_4_method_3_code, 5, none, 9, 1, 21, 0, 1, 0, 2) : ai_I)
def o_U_listArc (a : Nat) : SP := match a with
  | 0 => f_U_add
  | _ => fun _ _ _ _ _ => False
theorem mo_U_listArc : ∀ a, ai_mono (o_U_listArc a)
  | 0 => mf_U_add
  | _ + 1 => fun _ _ _ _ _ _ _ h => h
def f_U_listArc : SP := ai_M o_U_listArc 0 5 k_U_listArc
theorem mf_U_listArc : ai_mono f_U_listArc := M_mono mo_U_listArc
abbrev cal_U_listArc : List ai_I := [i_U_add]
theorem a_U_listArc : ai_all "SuiteBench$Mutants" prog_4_method_3_code 5 kc_U cal_U_listArc 1 21 false none k_U_listArc = true := by decide +kernel
theorem w_U_listArc : ai_CW i_U_listArc := ⟨(tk_mem (l := [((Jvm.Cond.code ({ cls := "SuiteBench$Mutants", name := "listArc", desc := "(I)V" } : Jvm.MethodName) prog_4_method_3_code (5 : Nat) (Option.none : Option Jvm.ClassFile.FieldType)), 3, 173)]) (by decide +kernel) _ (List.mem_singleton.mpr rfl)), (tk_mem (l := [((Jvm.Cond.initialized "SuiteBench$Mutants"), 1, 11)]) (by decide +kernel) _ (List.mem_singleton.mpr rfl)), ⟨by decide +kernel, by decide +kernel, by decide +kernel⟩, ⟨(tk_mem (l := [((Jvm.Cond.instanceMethod ({ cls := "SuiteBench$Mutants", name := "listArc", desc := "(I)V" } : Jvm.MethodName)), 3, 172)]) (by decide +kernel) _ (List.mem_singleton.mpr rfl)), gw_sel 11 (by decide +kernel), .inl ⟨_, _, rfl⟩⟩⟩
theorem c_U_listArc {E2 : (Nat → Nat) → State → Heap → Prop} (hE : ai_XH E2) : ai_S E2 i_U_listArc f_U_listArc := snd_M (by decide) rfl (by decide) a_U_listArc kc_U_ok (by rfl) (by decide) (fun a i h => match a, h with
    | 0, h => by cases h; exact ⟨c_U_add hE, w_U_add⟩
    | _ + 1, h => by simp [cal_U_listArc, ai_nth] at h)
def k_U_list : ai_C := [
  [(0, .aload_n 0, 1, 0, 0, 0, 0, 0, []), (1, .getfield 29, 3, 2, 7, 11, 2, 7, []), (4, .bipush (-9), 2, 0, 0, 0, 0, (-9), []), (6, .invokestatic 61, 3, 0, 2, 27, 9, 0, [(0, 99)]), (9, .aload_n 0, 1, 0, 0, 0, 0, 0, []), (10, .getfield 35, 3, 2, 9, 13, 2, 9, []), (13, .bipush (-9), 2, 0, 0, 0, 0, (-9), []), (15, .invokestatic 61, 3, 0, 2, 27, 9, 0, [(0, 99)])],
  [(18, .aload_n 0, 1, 0, 0, 0, 0, 0, []), (19, .getfield 38, 3, 2, 10, 14, 2, 10, []), (22, .bipush (-9), 2, 0, 0, 0, 0, (-9), []), (24, .invokestatic 61, 3, 0, 2, 27, 9, 0, [(0, 99)]), (27, .aload_n 0, 1, 0, 0, 0, 0, 0, []), (28, .bipush (-9), 2, 0, 0, 0, 0, (-9), []), (30, .putfield 67, 3, 2, 14, 28, 0, 14, [])],
  [(33, .aload_n 0, 1, 0, 0, 0, 0, 0, []), (34, .iconst 0, 1, 0, 0, 0, 0, 0, []), (35, .putfield 71, 3, 2, 15, 21, 0, 15, []), (38, .iconst 0, 1, 0, 0, 0, 0, 0, []), (39, .istore_n 1, 1, 1, 0, 0, 0, 0, []), (40, .iload_n 1, 1, 1, 0, 0, 0, 0, []), (41, .aload_n 0, 1, 0, 0, 0, 0, 0, []), (42, .getfield 50, 3, 2, 0, 18, 2, 0, []), (45, .getfield 74, 3, 1, 2, 24, 0, 2, [])],
  [(48, .if_icmp .ge 48, 3, 96, 0, 0, 0, 0, []), (51, .iconst 0, 1, 0, 0, 0, 0, 0, []), (52, .istore_n 2, 1, 2, 0, 0, 0, 0, []), (53, .iload_n 2, 1, 2, 0, 0, 0, 0, []), (54, .aload_n 0, 1, 0, 0, 0, 0, 0, []), (55, .getfield 50, 3, 2, 0, 18, 2, 0, []), (58, .getfield 77, 3, 1, 3, 29, 0, 3, []), (61, .if_icmp .ge 29, 3, 90, 0, 0, 0, 0, [])],
  [(64, .aload_n 0, 1, 0, 0, 0, 0, 0, []), (65, .getfield 53, 3, 2, 1, 19, 2, 1, []), (68, .iload_n 1, 1, 1, 0, 0, 0, 0, []), (69, .invokevirtual 80, 3, 1, 2, 30, 0, 0, [(0, 9)]), (72, .ifCond .eq 12, 3, 84, 0, 0, 0, 0, []), (75, .aload_n 0, 1, 0, 0, 0, 0, 0, []), (76, .iload_n 1, 1, 1, 0, 0, 0, 0, []), (77, .iconst 3, 1, 0, 0, 0, 0, 3, []), (78, .imul, 1, 0, 0, 0, 0, 0, []), (79, .iload_n 2, 1, 2, 0, 0, 0, 0, [])],
  [(80, .iadd, 1, 0, 0, 0, 0, 0, []), (81, .invokevirtual 86, 3, 2, 2, 31, 9, 0, [(0, 2)]), (84, .iinc 2 1, 3, 2, 0, 0, 0, 1, []), (87, .goto (-34), 3, 53, 0, 0, 0, 0, []), (90, .iinc 1 1, 3, 1, 0, 0, 0, 1, []), (93, .goto (-53), 3, 40, 0, 0, 0, 0, [])],
  [(96, .return_, 1, 0, 0, 0, 0, 0, [])]]
def i_U_list : ai_I := ((⟨"SuiteBench$Mutants", "list", "()V"⟩, prog_4_method_2_code, 3, none, 9, 2, 45, 0, 0, 0, 2) : ai_I)
def o_U_list (a : Nat) : SP := match a with
  | 0 => f_J_fill
  | 1 => f_A_isReached
  | 2 => f_U_listArc
  | _ => fun _ _ _ _ _ => False
theorem mo_U_list : ∀ a, ai_mono (o_U_list a)
  | 0 => mf_J_fill
  | 1 => mf_A_isReached
  | 2 => mf_U_listArc
  | _ + 3 => fun _ _ _ _ _ _ _ h => h
def f_U_list : SP := ai_M o_U_list 0 3 k_U_list
theorem mf_U_list : ai_mono f_U_list := M_mono mo_U_list
abbrev cal_U_list : List ai_I := [i_J_fill, i_A_isReached, i_U_listArc]
theorem a_U_list : ai_all "SuiteBench$Mutants" prog_4_method_2_code 3 kc_U cal_U_list 2 45 false none k_U_list = true := by decide +kernel
theorem w_U_list : ai_CW i_U_list := ⟨(tk_mem (l := [((Jvm.Cond.code ({ cls := "SuiteBench$Mutants", name := "list", desc := "()V" } : Jvm.MethodName) prog_4_method_2_code (3 : Nat) (Option.none : Option Jvm.ClassFile.FieldType)), 3, 167)]) (by decide +kernel) _ (List.mem_singleton.mpr rfl)), (tk_mem (l := [((Jvm.Cond.initialized "SuiteBench$Mutants"), 1, 11)]) (by decide +kernel) _ (List.mem_singleton.mpr rfl)), ⟨by decide +kernel, by decide +kernel, by decide +kernel⟩, ⟨(tk_mem (l := [((Jvm.Cond.instanceMethod ({ cls := "SuiteBench$Mutants", name := "list", desc := "()V" } : Jvm.MethodName)), 3, 165)]) (by decide +kernel) _ (List.mem_singleton.mpr rfl)), (tk_mem (l := [((Jvm.Cond.selects "SuiteBench$Mutants" ({ cls := "SuiteBench$Mutants", name := "list", desc := "()V" } : Jvm.MethodName) ({ cls := "SuiteBench$Mutants", name := "list", desc := "()V" } : Jvm.MethodName)), 3, 166)]) (by decide +kernel) _ (List.mem_singleton.mpr rfl)), .inl ⟨_, _, rfl⟩⟩⟩
theorem c_U_list {E2 : (Nat → Nat) → State → Heap → Prop} (hE : ai_XH E2) : ai_S E2 i_U_list f_U_list := snd_M (by decide) rfl (by decide) a_U_list kc_U_ok (by rfl) (by decide) (fun a i h => match a, h with
    | 0, h => by cases h; exact ⟨c_J_fill hE, w_J_fill⟩
    | 1, h => by cases h; exact ⟨c_A_isReached hE, w_A_isReached⟩
    | 2, h => by cases h; exact ⟨c_U_listArc hE, w_U_listArc⟩
    | _ + 3, h => by simp [cal_U_list, ai_nth] at h)
def k_X_renew : ai_C := [
  [(0, .aload_n 0, 1, 0, 0, 0, 0, 0, []), (1, .iconst 0, 1, 0, 0, 0, 0, 0, []), (2, .putfield 54, 3, 7, 16, 18, 3, 16, []), (5, .aload_n 0, 1, 0, 0, 0, 0, 0, []), (6, .iconst 0, 1, 0, 0, 0, 0, 0, []), (7, .putfield 58, 3, 7, 17, 19, 3, 17, []), (10, .return_, 1, 0, 0, 0, 0, 0, [])]]
def i_X_renew : ai_I := ((⟨"SuiteBench$Suspects", "renew", "()V"⟩, prog_9_method_2_code, 1, none, 9, 0, 0, 0, 0, 0, 7) : ai_I)
def o_X_renew (_ : Nat) : SP := fun _ _ _ _ _ => False
theorem mo_X_renew : ∀ a, ai_mono (o_X_renew a) := fun _ _ _ _ _ _ _ _ h => h
def f_X_renew : SP := ai_M o_X_renew 0 1 k_X_renew
theorem mf_X_renew : ai_mono f_X_renew := M_mono mo_X_renew
abbrev cal_X_renew : List ai_I := []
theorem a_X_renew : ai_all "SuiteBench$Suspects" prog_9_method_2_code 1 kc_X cal_X_renew 0 0 false none k_X_renew = true := by decide +kernel
theorem w_X_renew : ai_CW i_X_renew := ⟨(tk_mem (l := [((Jvm.Cond.code ({ cls := "SuiteBench$Suspects", name := "renew", desc := "()V" } : Jvm.MethodName) prog_9_method_2_code (1 : Nat) (Option.none : Option Jvm.ClassFile.FieldType)), 3, 181)]) (by decide +kernel) _ (List.mem_singleton.mpr rfl)), (tk_mem (l := [((Jvm.Cond.initialized "SuiteBench$Suspects"), 1, 13)]) (by decide +kernel) _ (List.mem_singleton.mpr rfl)), ⟨by decide +kernel, by decide +kernel, by decide +kernel⟩, ⟨(tk_mem (l := [((Jvm.Cond.instanceMethod ({ cls := "SuiteBench$Suspects", name := "renew", desc := "()V" } : Jvm.MethodName)), 3, 179)]) (by decide +kernel) _ (List.mem_singleton.mpr rfl)), (tk_mem (l := [((Jvm.Cond.selects "SuiteBench$Suspects" ({ cls := "SuiteBench$Suspects", name := "renew", desc := "()V" } : Jvm.MethodName) ({ cls := "SuiteBench$Suspects", name := "renew", desc := "()V" } : Jvm.MethodName)), 3, 180)]) (by decide +kernel) _ (List.mem_singleton.mpr rfl)), .inl ⟨_, _, rfl⟩⟩⟩
theorem c_X_renew {E2 : (Nat → Nat) → State → Heap → Prop} (hE : ai_XH E2) : ai_S E2 i_X_renew f_X_renew := snd_M (by decide) rfl (by decide) a_X_renew kc_X_ok (by rfl) (by decide) (fun a i h => by simp [cal_X_renew, ai_nth] at h)
