/-! the code of the methods, by program; what it rests on, looked at; the contracts -/
theorem gw_sel (i : Nat) {w : Jvm.Cond} (h : (decide (ai_nth (k2_sels lw_privs) i = some w) && ai_gd w) = true) : w ∈ ai_gw := by
  simp only [Bool.and_eq_true, decide_eq_true_eq] at h
  rw [nth_eq] at h
  exact gw_mem (List.mem_append_left _ (List.mem_of_getElem? h.1)) h.2
/-- what is still owed of what lies outside: the model's look for a word (its text is a String) -/
def f_N_wordHere : SP := fun _ _ _ _ _ => False
theorem mf_N_wordHere : ai_mono f_N_wordHere := fun _ _ _ _ _ _ _ h => h
def i_N_wordHere : ai_I := ((⟨"SuiteBenchModel", "wordHere", "()I"⟩, prog_14_method_8_code, 4, (some .int), 0, 7, 250, 0, 0, 0, 12) : ai_I)
def ai_XH (E2 : (Nat → Nat) → State → Heap → Prop) : Prop := ai_S E2 i_N_wordHere f_N_wordHere ∧ ai_CW i_N_wordHere
theorem c_N_wordHere {E2 : (Nat → Nat) → State → Heap → Prop} (hE : ai_XH E2) : ai_S E2 i_N_wordHere f_N_wordHere := hE.1
def k_J_fill : ai_C := [
  [(0, .iconst 0, 1, 0, 0, 0, 0, 0, []), (1, .istore_n 2, 1, 2, 0, 0, 0, 0, []), (2, .aload_n 0, 1, 0, 0, 0, 0, 0, []), (3, .arraylength, 1, 0, 0, 0, 50, 0, []), (4, .istore_n 3, 1, 3, 0, 0, 0, 0, []), (5, .iload_n 2, 1, 2, 0, 0, 0, 0, []), (6, .iload_n 3, 1, 3, 0, 0, 0, 0, []), (7, .if_icmp .ge 13, 3, 20, 0, 0, 0, 0, []), (10, .aload_n 0, 1, 0, 0, 0, 0, 0, []), (11, .iload_n 2, 1, 2, 0, 0, 0, 0, []), (12, .iload_n 1, 1, 1, 0, 0, 0, 0, []), (13, .iastore, 1, 0, 0, 0, 0, 0, []), (14, .iinc 2 1, 3, 2, 0, 0, 0, 1, [])],
  [(17, .goto (-12), 3, 5, 0, 0, 0, 0, []), (20, .return_, 1, 0, 0, 0, 0, 0, [])]]
def i_J_fill : ai_I := ((⟨"java/util/Arrays", "fill", "([II)V"⟩, prog_30_method_103_code, 4, none, 9, 0, 0, 0, 2, 1, 99) : ai_I)
def o_J_fill (_ : Nat) : SP := fun _ _ _ _ _ => False
theorem mo_J_fill : ∀ a, ai_mono (o_J_fill a) := fun _ _ _ _ _ _ _ _ h => h
def f_J_fill : SP := ai_M o_J_fill 0 4 k_J_fill
theorem mf_J_fill : ai_mono f_J_fill := M_mono mo_J_fill
abbrev cal_J_fill : List ai_I := []
theorem a_J_fill : ai_all "java/util/Arrays" prog_30_method_103_code 4 [] cal_J_fill 0 0 false none k_J_fill = true := by decide +kernel
theorem w_J_fill : ai_CW i_J_fill := ⟨(tk_mem (l := [((Jvm.Cond.code ({ cls := "java/util/Arrays", name := "fill", desc := "([II)V" } : Jvm.MethodName) prog_30_method_103_code (4 : Nat) (Option.none : Option Jvm.ClassFile.FieldType)), 1, 53)]) (by decide +kernel) _ (List.mem_singleton.mpr rfl)), (tk_mem (l := [((Jvm.Cond.initialized "java/util/Arrays"), 1, 4)]) (by decide +kernel) _ (List.mem_singleton.mpr rfl)), ⟨by decide +kernel, by decide +kernel, by decide +kernel⟩, (tk_mem (l := [((Jvm.Cond.static ({ cls := "java/util/Arrays", name := "fill", desc := "([II)V" } : Jvm.MethodName)), 1, 52)]) (by decide +kernel) _ (List.mem_singleton.mpr rfl))⟩
theorem c_J_fill {E2 : (Nat → Nat) → State → Heap → Prop} (hE : ai_XH E2) : ai_S E2 i_J_fill f_J_fill := snd_M (by decide) rfl (by decide) a_J_fill (fun _ h => by cases h) (by rfl) (by decide) (fun a i h => by simp [cal_J_fill, ai_nth] at h)
def k_P_clear : ai_C := [
  [(0, .aload_n 0, 1, 0, 0, 0, 0, 0, []), (1, .getfield 18, 3, 3, 2, 0, 2, 2, []), (4, .iconst (-1), 1, 0, 0, 0, 0, (-1), []), (5, .invokestatic 27, 3, 0, 2, 1, 9, 0, [(0, 99)]), (8, .aload_n 0, 1, 0, 0, 0, 0, 0, []), (9, .getfield 21, 3, 3, 3, 2, 2, 3, []), (12, .iconst (-1), 1, 0, 0, 0, 0, (-1), []), (13, .invokestatic 27, 3, 0, 2, 1, 9, 0, [(0, 99)])],
  [(16, .aload_n 0, 1, 0, 0, 0, 0, 0, []), (17, .iconst 0, 1, 0, 0, 0, 0, 0, []), (18, .putfield 33, 3, 3, 4, 3, 0, 4, []), (21, .aload_n 0, 1, 0, 0, 0, 0, 0, []), (22, .iconst 0, 1, 0, 0, 0, 0, 0, []), (23, .putfield 37, 3, 3, 5, 4, 0, 5, []), (26, .aload_n 0, 1, 0, 0, 0, 0, 0, []), (27, .iconst 0, 1, 0, 0, 0, 0, 0, []), (28, .putfield 40, 3, 3, 6, 5, 0, 6, []), (31, .aload_n 0, 1, 0, 0, 0, 0, 0, [])],
  [(32, .iconst 0, 1, 0, 0, 0, 0, 0, []), (33, .putfield 43, 3, 3, 7, 6, 0, 7, []), (36, .aload_n 0, 1, 0, 0, 0, 0, 0, []), (37, .iconst 0, 1, 0, 0, 0, 0, 0, []), (38, .putfield 46, 3, 3, 8, 7, 0, 8, []), (41, .aload_n 0, 1, 0, 0, 0, 0, 0, []), (42, .iconst 0, 1, 0, 0, 0, 0, 0, []), (43, .putfield 49, 3, 3, 9, 8, 0, 9, []), (46, .aload_n 0, 1, 0, 0, 0, 0, 0, []), (47, .iconst 0, 1, 0, 0, 0, 0, 0, [])],
  [(48, .putfield 52, 3, 3, 10, 9, 3, 10, []), (51, .aload_n 0, 1, 0, 0, 0, 0, 0, []), (52, .iconst 0, 1, 0, 0, 0, 0, 0, []), (53, .putfield 56, 3, 3, 11, 10, 3, 11, []), (56, .return_, 1, 0, 0, 0, 0, 0, [])]]
def i_P_clear : ai_I := ((⟨"SuiteBench$Plan", "clear", "()V"⟩, prog_5_method_2_code, 1, none, 9, 1, 23, 0, 0, 0, 3) : ai_I)
def o_P_clear (a : Nat) : SP := match a with
  | 0 => f_J_fill
  | _ => fun _ _ _ _ _ => False
theorem mo_P_clear : ∀ a, ai_mono (o_P_clear a)
  | 0 => mf_J_fill
  | _ + 1 => fun _ _ _ _ _ _ _ h => h
def f_P_clear : SP := ai_M o_P_clear 0 1 k_P_clear
theorem mf_P_clear : ai_mono f_P_clear := M_mono mo_P_clear
abbrev cal_P_clear : List ai_I := [i_J_fill]
theorem a_P_clear : ai_all "SuiteBench$Plan" prog_5_method_2_code 1 kc_P cal_P_clear 1 23 false none k_P_clear = true := by decide +kernel
theorem w_P_clear : ai_CW i_P_clear := ⟨(tk_mem (l := [((Jvm.Cond.code ({ cls := "SuiteBench$Plan", name := "clear", desc := "()V" } : Jvm.MethodName) prog_5_method_2_code (1 : Nat) (Option.none : Option Jvm.ClassFile.FieldType)), 1, 50)]) (by decide +kernel) _ (List.mem_singleton.mpr rfl)), (tk_mem (l := [((Jvm.Cond.initialized "SuiteBench$Plan"), 1, 3)]) (by decide +kernel) _ (List.mem_singleton.mpr rfl)), ⟨by decide +kernel, by decide +kernel, by decide +kernel⟩, ⟨(tk_mem (l := [((Jvm.Cond.instanceMethod ({ cls := "SuiteBench$Plan", name := "clear", desc := "()V" } : Jvm.MethodName)), 1, 48)]) (by decide +kernel) _ (List.mem_singleton.mpr rfl)), (tk_mem (l := [((Jvm.Cond.selects "SuiteBench$Plan" ({ cls := "SuiteBench$Plan", name := "clear", desc := "()V" } : Jvm.MethodName) ({ cls := "SuiteBench$Plan", name := "clear", desc := "()V" } : Jvm.MethodName)), 1, 49)]) (by decide +kernel) _ (List.mem_singleton.mpr rfl)), ⟨_, _, rfl⟩⟩⟩
theorem c_P_clear {E2 : (Nat → Nat) → State → Heap → Prop} (hE : ai_XH E2) : ai_S E2 i_P_clear f_P_clear := snd_M (by decide) rfl (by decide) a_P_clear kc_P_ok (by rfl) (by decide) (fun a i h => match a, h with
    | 0, h => by cases h; exact ⟨c_J_fill hE, w_J_fill⟩
    | _ + 1, h => by simp [cal_P_clear, ai_nth] at h)
def k_P_init : ai_C := [
  [(0, .aload_n 0, 1, 0, 0, 0, 0, 0, []), (1, .invokespecial 3, 3, 0, 0, 11, 30, 0, []), (4, .aload_n 0, 1, 0, 0, 0, 0, 0, []), (5, .bipush 8, 2, 0, 0, 0, 0, 8, []), (7, .newarray .int, 2, 0, 0, 12, 50, 0, []), (9, .putfield 9, 3, 3, 0, 13, 2, 0, []), (12, .aload_n 0, 1, 0, 0, 0, 0, 0, []), (13, .iconst 3, 1, 0, 0, 0, 0, 3, []), (14, .newarray .int, 2, 0, 0, 12, 50, 0, [])],
  [(16, .putfield 15, 3, 3, 1, 14, 2, 1, []), (19, .aload_n 0, 1, 0, 0, 0, 0, 0, []), (20, .bipush 24, 2, 0, 0, 0, 0, 24, []), (22, .newarray .int, 2, 0, 0, 12, 50, 0, []), (24, .putfield 18, 3, 3, 2, 0, 2, 2, []), (27, .aload_n 0, 1, 0, 0, 0, 0, 0, []), (28, .bipush 24, 2, 0, 0, 0, 0, 24, []), (30, .newarray .int, 2, 0, 0, 12, 50, 0, [])],
  [(32, .putfield 21, 3, 3, 3, 2, 2, 3, []), (35, .aload_n 0, 1, 0, 0, 0, 0, 0, []), (36, .invokevirtual 24, 3, 0, 1, 15, 9, 0, [(0, 3)]), (39, .return_, 1, 0, 0, 0, 0, 0, [])]]
def i_P_init : ai_I := ((⟨"SuiteBench$Plan", "<init>", "()V"⟩, prog_5_method_1_code, 1, none, 9, 2, 43, 4, 0, 2, 3) : ai_I)
def o_P_init (a : Nat) : SP := match a with
  | 0 => f_P_clear
  | _ => fun _ _ _ _ _ => False
theorem mo_P_init : ∀ a, ai_mono (o_P_init a)
  | 0 => mf_P_clear
  | _ + 1 => fun _ _ _ _ _ _ _ h => h
def f_P_init : SP := ai_M o_P_init 4 1 k_P_init
theorem mf_P_init : ai_mono f_P_init := M_mono mo_P_init
abbrev cal_P_init : List ai_I := [i_P_clear]
theorem a_P_init : ai_all "SuiteBench$Plan" prog_5_method_1_code 1 kc_P cal_P_init 2 43 true none k_P_init = true := by decide +kernel
theorem w_P_init : ai_CW i_P_init := ⟨(tk_mem (l := [((Jvm.Cond.code ({ cls := "SuiteBench$Plan", name := "<init>", desc := "()V" } : Jvm.MethodName) prog_5_method_1_code (1 : Nat) (Option.none : Option Jvm.ClassFile.FieldType)), 1, 45)]) (by decide +kernel) _ (List.mem_singleton.mpr rfl)), (tk_mem (l := [((Jvm.Cond.initialized "SuiteBench$Plan"), 1, 3)]) (by decide +kernel) _ (List.mem_singleton.mpr rfl)), ⟨by decide +kernel, by decide +kernel, by decide +kernel⟩, ⟨(tk_mem (l := [((Jvm.Cond.instanceMethod ({ cls := "SuiteBench$Plan", name := "<init>", desc := "()V" } : Jvm.MethodName)), 1, 44)]) (by decide +kernel) _ (List.mem_singleton.mpr rfl)), rfl, rfl⟩⟩
theorem c_P_init {E2 : (Nat → Nat) → State → Heap → Prop} (hE : ai_XH E2) : ai_S E2 i_P_init f_P_init := snd_M (by decide) rfl (by decide) a_P_init kc_P_ok (by rfl) (by decide) (fun a i h => match a, h with
    | 0, h => by cases h; exact ⟨c_P_clear hE, w_P_clear⟩
    | _ + 1, h => by simp [cal_P_init, ai_nth] at h)
def k_R_init : ai_C := [
  [(0, .aload_n 0, 1, 0, 0, 0, 0, 0, []), (1, .invokespecial 3, 3, 0, 0, 0, 30, 0, []), (4, .aload_n 0, 1, 0, 0, 0, 0, 0, []), (5, .sipush 700, 3, 0, 0, 0, 0, 700, []), (8, .newarray .byte, 2, 0, 0, 1, 53, 0, []), (10, .putfield 9, 3, 4, 0, 2, 2, 0, []), (13, .aload_n 0, 1, 0, 0, 0, 0, 0, []), (14, .new 15, 3, 3, 4, 3, 5, 0, [])],
  [(17, .dup, 1, 0, 0, 0, 0, 0, []), (18, .invokespecial 17, 3, 0, 1, 6, 9, 4, [(0, 3)]), (21, .putfield 18, 3, 4, 1, 7, 2, 1, []), (24, .aload_n 0, 1, 0, 0, 0, 0, 0, []), (25, .iconst (-1), 1, 0, 0, 0, 0, (-1), []), (26, .putfield 22, 3, 4, 4, 8, 0, 4, []), (29, .return_, 1, 0, 0, 0, 0, 0, [])]]
def i_R_init : ai_I := ((⟨"SuiteBench$Reader", "<init>", "()V"⟩, prog_6_method_1_code, 1, none, 9, 3, 63, 6, 0, 2, 4) : ai_I)
def o_R_init (a : Nat) : SP := match a with
  | 0 => f_P_init
  | _ => fun _ _ _ _ _ => False
theorem mo_R_init : ∀ a, ai_mono (o_R_init a)
  | 0 => mf_P_init
  | _ + 1 => fun _ _ _ _ _ _ _ h => h
def f_R_init : SP := ai_M o_R_init 6 1 k_R_init
theorem mf_R_init : ai_mono f_R_init := M_mono mo_R_init
abbrev cal_R_init : List ai_I := [i_P_init]
theorem a_R_init : ai_all "SuiteBench$Reader" prog_6_method_1_code 1 kc_R cal_R_init 3 63 true none k_R_init = true := by decide +kernel
theorem w_R_init : ai_CW i_R_init := ⟨(tk_mem (l := [((Jvm.Cond.code ({ cls := "SuiteBench$Reader", name := "<init>", desc := "()V" } : Jvm.MethodName) prog_6_method_1_code (1 : Nat) (Option.none : Option Jvm.ClassFile.FieldType)), 1, 39)]) (by decide +kernel) _ (List.mem_singleton.mpr rfl)), (tk_mem (l := [((Jvm.Cond.initialized "SuiteBench$Reader"), 1, 2)]) (by decide +kernel) _ (List.mem_singleton.mpr rfl)), ⟨by decide +kernel, by decide +kernel, by decide +kernel⟩, ⟨(tk_mem (l := [((Jvm.Cond.instanceMethod ({ cls := "SuiteBench$Reader", name := "<init>", desc := "()V" } : Jvm.MethodName)), 1, 38)]) (by decide +kernel) _ (List.mem_singleton.mpr rfl)), rfl, rfl⟩⟩
theorem c_R_init {E2 : (Nat → Nat) → State → Heap → Prop} (hE : ai_XH E2) : ai_S E2 i_R_init f_R_init := snd_M (by decide) rfl (by decide) a_R_init kc_R_ok (by rfl) (by decide) (fun a i h => match a, h with
    | 0, h => by cases h; exact ⟨c_P_init hE, w_P_init⟩
    | _ + 1, h => by simp [cal_R_init, ai_nth] at h)
def k_M_init : ai_C := [
  [(0, .aload_n 0, 1, 0, 0, 0, 0, 0, []), (1, .invokespecial 3, 3, 0, 0, 0, 30, 0, []), (4, .aload_n 0, 1, 0, 0, 0, 0, 0, []), (5, .bipush 24, 2, 0, 0, 0, 0, 24, []), (7, .newarray .int, 2, 0, 0, 1, 50, 0, []), (9, .putfield 9, 3, 1, 0, 2, 2, 0, []), (12, .aload_n 0, 1, 0, 0, 0, 0, 0, []), (13, .bipush 24, 2, 0, 0, 0, 0, 24, []), (15, .newarray .int, 2, 0, 0, 1, 50, 0, [])],
  [(17, .putfield 15, 3, 1, 1, 3, 2, 1, []), (20, .return_, 1, 0, 0, 0, 0, 0, [])]]
def i_M_init : ai_I := ((⟨"SuiteBench$Machine", "<init>", "()V"⟩, prog_3_method_1_code, 1, none, 9, 1, 20, 2, 0, 2, 1) : ai_I)
def o_M_init (_ : Nat) : SP := fun _ _ _ _ _ => False
theorem mo_M_init : ∀ a, ai_mono (o_M_init a) := fun _ _ _ _ _ _ _ _ h => h
def f_M_init : SP := ai_M o_M_init 2 1 k_M_init
theorem mf_M_init : ai_mono f_M_init := M_mono mo_M_init
abbrev cal_M_init : List ai_I := []
theorem a_M_init : ai_all "SuiteBench$Machine" prog_3_method_1_code 1 kc_M cal_M_init 1 20 true none k_M_init = true := by decide +kernel
theorem w_M_init : ai_CW i_M_init := ⟨(tk_mem (l := [((Jvm.Cond.code ({ cls := "SuiteBench$Machine", name := "<init>", desc := "()V" } : Jvm.MethodName) prog_3_method_1_code (1 : Nat) (Option.none : Option Jvm.ClassFile.FieldType)), 1, 154)]) (by decide +kernel) _ (List.mem_singleton.mpr rfl)), (tk_mem (l := [((Jvm.Cond.initialized "SuiteBench$Machine"), 1, 5)]) (by decide +kernel) _ (List.mem_singleton.mpr rfl)), ⟨by decide +kernel, by decide +kernel, by decide +kernel⟩, ⟨(tk_mem (l := [((Jvm.Cond.instanceMethod ({ cls := "SuiteBench$Machine", name := "<init>", desc := "()V" } : Jvm.MethodName)), 1, 153)]) (by decide +kernel) _ (List.mem_singleton.mpr rfl)), rfl, rfl⟩⟩
theorem c_M_init {E2 : (Nat → Nat) → State → Heap → Prop} (hE : ai_XH E2) : ai_S E2 i_M_init f_M_init := snd_M (by decide) rfl (by decide) a_M_init kc_M_ok (by rfl) (by decide) (fun a i h => by simp [cal_M_init, ai_nth] at h)
def k_A_init : ai_C := [
  [(0, .aload_n 0, 1, 0, 0, 0, 0, 0, []), (1, .invokespecial 3, 3, 0, 0, 0, 30, 0, []), (4, .aload_n 0, 1, 0, 0, 0, 0, 0, []), (5, .bipush 6, 2, 0, 0, 0, 0, 6, []), (7, .newarray .int, 2, 0, 0, 1, 50, 0, []), (9, .putfield 9, 3, 9, 1, 2, 2, 1, []), (12, .aload_n 0, 1, 0, 0, 0, 0, 0, []), (13, .bipush 36, 2, 0, 0, 0, 0, 36, []), (15, .newarray .int, 2, 0, 0, 1, 50, 0, [])],
  [(17, .putfield 15, 3, 9, 2, 3, 2, 2, []), (20, .aload_n 0, 1, 0, 0, 0, 0, 0, []), (21, .bipush 6, 2, 0, 0, 0, 0, 6, []), (23, .newarray .int, 2, 0, 0, 1, 50, 0, []), (25, .putfield 18, 3, 9, 3, 4, 2, 3, []), (28, .aload_n 0, 1, 0, 0, 0, 0, 0, []), (29, .bipush 6, 2, 0, 0, 0, 0, 6, []), (31, .newarray .int, 2, 0, 0, 1, 50, 0, [])],
  [(33, .putfield 21, 3, 9, 4, 5, 2, 4, []), (36, .aload_n 0, 1, 0, 0, 0, 0, 0, []), (37, .bipush 36, 2, 0, 0, 0, 0, 36, []), (39, .newarray .int, 2, 0, 0, 1, 50, 0, []), (41, .putfield 24, 3, 9, 5, 6, 2, 5, []), (44, .aload_n 0, 1, 0, 0, 0, 0, 0, []), (45, .bipush 6, 2, 0, 0, 0, 0, 6, []), (47, .newarray .int, 2, 0, 0, 1, 50, 0, [])],
  [(49, .putfield 27, 3, 9, 6, 7, 2, 6, []), (52, .aload_n 0, 1, 0, 0, 0, 0, 0, []), (53, .bipush 6, 2, 0, 0, 0, 0, 6, []), (55, .newarray .int, 2, 0, 0, 1, 50, 0, []), (57, .putfield 30, 3, 9, 7, 8, 2, 7, []), (60, .aload_n 0, 1, 0, 0, 0, 0, 0, []), (61, .aload_n 1, 1, 1, 0, 0, 0, 0, []), (62, .putfield 33, 3, 9, 0, 9, 2, 0, [])],
  [(65, .return_, 1, 0, 0, 0, 0, 0, [])]]
def i_A_init : ai_I := ((⟨"SuiteBench$Traits", "<init>", "(LSuiteBench$Machine;)V"⟩, prog_11_method_1_code, 2, none, 9, 1, 20, 7, 1, 2, 9) : ai_I)
def o_A_init (_ : Nat) : SP := fun _ _ _ _ _ => False
theorem mo_A_init : ∀ a, ai_mono (o_A_init a) := fun _ _ _ _ _ _ _ _ h => h
def f_A_init : SP := ai_M o_A_init 7 2 k_A_init
theorem mf_A_init : ai_mono f_A_init := M_mono mo_A_init
abbrev cal_A_init : List ai_I := []
theorem a_A_init : ai_all "SuiteBench$Traits" prog_11_method_1_code 2 kc_A cal_A_init 1 20 true none k_A_init = true := by decide +kernel
theorem w_A_init : ai_CW i_A_init := ⟨(tk_mem (l := [((Jvm.Cond.code ({ cls := "SuiteBench$Traits", name := "<init>", desc := "(LSuiteBench$Machine;)V" } : Jvm.MethodName) prog_11_method_1_code (2 : Nat) (Option.none : Option Jvm.ClassFile.FieldType)), 1, 200)]) (by decide +kernel) _ (List.mem_singleton.mpr rfl)), (tk_mem (l := [((Jvm.Cond.initialized "SuiteBench$Traits"), 1, 6)]) (by decide +kernel) _ (List.mem_singleton.mpr rfl)), ⟨by decide +kernel, by decide +kernel, by decide +kernel⟩, ⟨(tk_mem (l := [((Jvm.Cond.instanceMethod ({ cls := "SuiteBench$Traits", name := "<init>", desc := "(LSuiteBench$Machine;)V" } : Jvm.MethodName)), 1, 199)]) (by decide +kernel) _ (List.mem_singleton.mpr rfl)), rfl, rfl⟩⟩
theorem c_A_init {E2 : (Nat → Nat) → State → Heap → Prop} (hE : ai_XH E2) : ai_S E2 i_A_init f_A_init := snd_M (by decide) rfl (by decide) a_A_init kc_A_ok (by rfl) (by decide) (fun a i h => by simp [cal_A_init, ai_nth] at h)
def k_S_init : ai_C := [
  [(0, .aload_n 0, 1, 0, 0, 0, 0, 0, []), (1, .invokespecial 5, 3, 0, 0, 0, 30, 0, []), (4, .aload_n 0, 1, 0, 0, 0, 0, 0, []), (5, .sipush 3280, 3, 0, 0, 0, 0, 3280, []), (8, .newarray .int, 2, 0, 0, 1, 50, 0, []), (10, .putfield 11, 3, 5, 2, 2, 2, 2, []), (13, .aload_n 0, 1, 0, 0, 0, 0, 0, []), (14, .sipush 3280, 3, 0, 0, 0, 0, 3280, [])],
  [(17, .newarray .int, 2, 0, 0, 1, 50, 0, []), (19, .putfield 15, 3, 5, 3, 3, 2, 3, []), (22, .aload_n 0, 1, 0, 0, 0, 0, 0, []), (23, .sipush 8192, 3, 0, 0, 0, 0, 8192, []), (26, .newarray .int, 2, 0, 0, 1, 50, 0, []), (28, .putfield 18, 3, 5, 4, 4, 2, 4, []), (31, .aload_n 0, 1, 0, 0, 0, 0, 0, [])],
  [(32, .bipush 6, 2, 0, 0, 0, 0, 6, []), (34, .newarray .int, 2, 0, 0, 1, 50, 0, []), (36, .putfield 21, 3, 5, 5, 5, 2, 5, []), (39, .aload_n 0, 1, 0, 0, 0, 0, 0, []), (40, .iconst 3, 1, 0, 0, 0, 0, 3, []), (41, .newarray .int, 2, 0, 0, 1, 50, 0, []), (43, .putfield 24, 3, 5, 6, 6, 2, 6, []), (46, .aload_n 0, 1, 0, 0, 0, 0, 0, []), (47, .bipush 64, 2, 0, 0, 0, 0, 64, [])],
  [(49, .newarray .int, 2, 0, 0, 1, 50, 0, []), (51, .putfield 27, 3, 5, 7, 7, 2, 7, []), (54, .aload_n 0, 1, 0, 0, 0, 0, 0, []), (55, .bipush 64, 2, 0, 0, 0, 0, 64, []), (57, .newarray .int, 2, 0, 0, 1, 50, 0, []), (59, .putfield 30, 3, 5, 8, 8, 2, 8, []), (62, .aload_n 0, 1, 0, 0, 0, 0, 0, []), (63, .aload_n 1, 1, 1, 0, 0, 0, 0, [])],
  [(64, .putfield 33, 3, 5, 0, 9, 2, 0, []), (67, .aload_n 0, 1, 0, 0, 0, 0, 0, []), (68, .aload_n 2, 1, 2, 0, 0, 0, 0, []), (69, .putfield 37, 3, 5, 1, 10, 2, 1, []), (72, .return_, 1, 0, 0, 0, 0, 0, [])]]
def i_S_init : ai_I := ((⟨"SuiteBench$Search", "<init>", "(LSuiteBench$Machine;LSuiteBench$Traits;)V"⟩, prog_7_method_1_code, 3, none, 9, 1, 20, 7, 2, 2, 5) : ai_I)
def o_S_init (_ : Nat) : SP := fun _ _ _ _ _ => False
theorem mo_S_init : ∀ a, ai_mono (o_S_init a) := fun _ _ _ _ _ _ _ _ h => h
def f_S_init : SP := ai_M o_S_init 7 3 k_S_init
theorem mf_S_init : ai_mono f_S_init := M_mono mo_S_init
abbrev cal_S_init : List ai_I := []
theorem a_S_init : ai_all "SuiteBench$Search" prog_7_method_1_code 3 kc_S cal_S_init 1 20 true none k_S_init = true := by decide +kernel
theorem w_S_init : ai_CW i_S_init := ⟨(tk_mem (l := [((Jvm.Cond.code ({ cls := "SuiteBench$Search", name := "<init>", desc := "(LSuiteBench$Machine;LSuiteBench$Traits;)V" } : Jvm.MethodName) prog_7_method_1_code (3 : Nat) (Option.none : Option Jvm.ClassFile.FieldType)), 2, 20)]) (by decide +kernel) _ (List.mem_singleton.mpr rfl)), (tk_mem (l := [((Jvm.Cond.initialized "SuiteBench$Search"), 1, 7)]) (by decide +kernel) _ (List.mem_singleton.mpr rfl)), ⟨by decide +kernel, by decide +kernel, by decide +kernel⟩, ⟨(tk_mem (l := [((Jvm.Cond.instanceMethod ({ cls := "SuiteBench$Search", name := "<init>", desc := "(LSuiteBench$Machine;LSuiteBench$Traits;)V" } : Jvm.MethodName)), 2, 19)]) (by decide +kernel) _ (List.mem_singleton.mpr rfl)), rfl, rfl⟩⟩
theorem c_S_init {E2 : (Nat → Nat) → State → Heap → Prop} (hE : ai_XH E2) : ai_S E2 i_S_init f_S_init := snd_M (by decide) rfl (by decide) a_S_init kc_S_ok (by rfl) (by decide) (fun a i h => by simp [cal_S_init, ai_nth] at h)
def k_W_init : ai_C := [
  [(0, .aload_n 0, 1, 0, 0, 0, 0, 0, []), (1, .invokespecial 5, 3, 0, 0, 0, 30, 0, []), (4, .aload_n 0, 1, 0, 0, 0, 0, 0, []), (5, .bipush 6, 2, 0, 0, 0, 0, 6, []), (7, .newarray .int, 2, 0, 0, 1, 50, 0, []), (9, .putfield 11, 3, 10, 2, 2, 2, 2, []), (12, .aload_n 0, 1, 0, 0, 0, 0, 0, []), (13, .bipush 6, 2, 0, 0, 0, 0, 6, []), (15, .newarray .int, 2, 0, 0, 1, 50, 0, [])],
  [(17, .putfield 15, 3, 10, 3, 3, 2, 3, []), (20, .aload_n 0, 1, 0, 0, 0, 0, 0, []), (21, .aload_n 1, 1, 1, 0, 0, 0, 0, []), (22, .putfield 18, 3, 10, 0, 4, 2, 0, []), (25, .aload_n 0, 1, 0, 0, 0, 0, 0, []), (26, .aload_n 2, 1, 2, 0, 0, 0, 0, []), (27, .putfield 22, 3, 10, 1, 5, 2, 1, []), (30, .return_, 1, 0, 0, 0, 0, 0, [])]]
def i_W_init : ai_I := ((⟨"SuiteBench$Walk", "<init>", "(LSuiteBench$Machine;LSuiteBench$Search;)V"⟩, prog_12_method_1_code, 3, none, 9, 1, 20, 2, 2, 2, 10) : ai_I)
def o_W_init (_ : Nat) : SP := fun _ _ _ _ _ => False
theorem mo_W_init : ∀ a, ai_mono (o_W_init a) := fun _ _ _ _ _ _ _ _ h => h
def f_W_init : SP := ai_M o_W_init 2 3 k_W_init
theorem mf_W_init : ai_mono f_W_init := M_mono mo_W_init
abbrev cal_W_init : List ai_I := []
theorem a_W_init : ai_all "SuiteBench$Walk" prog_12_method_1_code 3 kc_W cal_W_init 1 20 true none k_W_init = true := by decide +kernel
theorem w_W_init : ai_CW i_W_init := ⟨(tk_mem (l := [((Jvm.Cond.code ({ cls := "SuiteBench$Walk", name := "<init>", desc := "(LSuiteBench$Machine;LSuiteBench$Search;)V" } : Jvm.MethodName) prog_12_method_1_code (3 : Nat) (Option.none : Option Jvm.ClassFile.FieldType)), 2, 68)]) (by decide +kernel) _ (List.mem_singleton.mpr rfl)), (tk_mem (l := [((Jvm.Cond.initialized "SuiteBench$Walk"), 1, 9)]) (by decide +kernel) _ (List.mem_singleton.mpr rfl)), ⟨by decide +kernel, by decide +kernel, by decide +kernel⟩, ⟨(tk_mem (l := [((Jvm.Cond.instanceMethod ({ cls := "SuiteBench$Walk", name := "<init>", desc := "(LSuiteBench$Machine;LSuiteBench$Search;)V" } : Jvm.MethodName)), 2, 67)]) (by decide +kernel) _ (List.mem_singleton.mpr rfl)), rfl, rfl⟩⟩
theorem c_W_init {E2 : (Nat → Nat) → State → Heap → Prop} (hE : ai_XH E2) : ai_S E2 i_W_init f_W_init := snd_M (by decide) rfl (by decide) a_W_init kc_W_ok (by rfl) (by decide) (fun a i h => by simp [cal_W_init, ai_nth] at h)
def k_E_init : ai_C := [
  [(0, .aload_n 0, 1, 0, 0, 0, 0, 0, []), (1, .invokespecial 3, 3, 0, 0, 0, 30, 0, []), (4, .aload_n 0, 1, 0, 0, 0, 0, 0, []), (5, .iload_n 1, 1, 1, 0, 0, 0, 0, []), (6, .newarray .int, 2, 0, 0, 1, 50, 0, []), (8, .putfield 9, 3, 8, 0, 2, 2, 0, []), (11, .aload_n 0, 1, 0, 0, 0, 0, 0, []), (12, .iload_n 1, 1, 1, 0, 0, 0, 0, []), (13, .newarray .int, 2, 0, 0, 1, 50, 0, []), (15, .putfield 15, 3, 8, 1, 3, 2, 1, [])],
  [(18, .aload_n 0, 1, 0, 0, 0, 0, 0, []), (19, .iload_n 1, 1, 1, 0, 0, 0, 0, []), (20, .newarray .int, 2, 0, 0, 1, 50, 0, []), (22, .putfield 18, 3, 8, 2, 4, 2, 2, []), (25, .aload_n 0, 1, 0, 0, 0, 0, 0, []), (26, .iload_n 2, 1, 2, 0, 0, 0, 0, []), (27, .newarray .int, 2, 0, 0, 1, 50, 0, []), (29, .putfield 21, 3, 8, 3, 5, 2, 3, [])],
  [(32, .aload_n 0, 1, 0, 0, 0, 0, 0, []), (33, .iload_n 2, 1, 2, 0, 0, 0, 0, []), (34, .newarray .int, 2, 0, 0, 1, 50, 0, []), (36, .putfield 24, 3, 8, 4, 6, 2, 4, []), (39, .aload_n 0, 1, 0, 0, 0, 0, 0, []), (40, .iload_n 2, 1, 2, 0, 0, 0, 0, []), (41, .newarray .int, 2, 0, 0, 1, 50, 0, []), (43, .putfield 27, 3, 8, 5, 7, 2, 5, []), (46, .aload_n 0, 1, 0, 0, 0, 0, 0, []), (47, .aload_n 3, 1, 3, 0, 0, 0, 0, [])],
  [(48, .putfield 30, 3, 8, 6, 8, 2, 6, []), (51, .return_, 1, 0, 0, 0, 0, 0, [])]]
def i_E_init : ai_I := ((⟨"SuiteBench$Tests", "<init>", "(II[I)V"⟩, prog_10_method_1_code, 4, none, 9, 1, 20, 6, 3, 2, 8) : ai_I)
def o_E_init (_ : Nat) : SP := fun _ _ _ _ _ => False
theorem mo_E_init : ∀ a, ai_mono (o_E_init a) := fun _ _ _ _ _ _ _ _ h => h
def f_E_init : SP := ai_M o_E_init 6 4 k_E_init
theorem mf_E_init : ai_mono f_E_init := M_mono mo_E_init
abbrev cal_E_init : List ai_I := []
theorem a_E_init : ai_all "SuiteBench$Tests" prog_10_method_1_code 4 kc_E cal_E_init 1 20 true none k_E_init = true := by decide +kernel
theorem w_E_init : ai_CW i_E_init := ⟨(tk_mem (l := [((Jvm.Cond.code ({ cls := "SuiteBench$Tests", name := "<init>", desc := "(II[I)V" } : Jvm.MethodName) prog_10_method_1_code (4 : Nat) (Option.none : Option Jvm.ClassFile.FieldType)), 2, 94)]) (by decide +kernel) _ (List.mem_singleton.mpr rfl)), (tk_mem (l := [((Jvm.Cond.initialized "SuiteBench$Tests"), 1, 10)]) (by decide +kernel) _ (List.mem_singleton.mpr rfl)), ⟨by decide +kernel, by decide +kernel, by decide +kernel⟩, ⟨(tk_mem (l := [((Jvm.Cond.instanceMethod ({ cls := "SuiteBench$Tests", name := "<init>", desc := "(II[I)V" } : Jvm.MethodName)), 2, 93)]) (by decide +kernel) _ (List.mem_singleton.mpr rfl)), rfl, rfl⟩⟩
theorem c_E_init {E2 : (Nat → Nat) → State → Heap → Prop} (hE : ai_XH E2) : ai_S E2 i_E_init f_E_init := snd_M (by decide) rfl (by decide) a_E_init kc_E_ok (by rfl) (by decide) (fun a i h => by simp [cal_E_init, ai_nth] at h)
def k_T_init : ai_C := [
  [(0, .aload_n 0, 1, 0, 0, 0, 0, 0, []), (1, .invokespecial 5, 3, 0, 0, 0, 30, 0, []), (4, .aload_n 0, 1, 0, 0, 0, 0, 0, []), (5, .bipush 8, 2, 0, 0, 0, 0, 8, []), (7, .anewarray 11, 3, 0, 2, 1, 0, 0, []), (10, .putfield 13, 3, 6, 3, 3, 2, 3, []), (13, .aload_n 0, 1, 0, 0, 0, 0, 0, []), (14, .sipush 13650, 3, 0, 0, 0, 0, 13650, [])],
  [(17, .newarray .int, 2, 0, 0, 4, 50, 0, []), (19, .putfield 17, 3, 6, 4, 5, 2, 4, []), (22, .aload_n 0, 1, 0, 0, 0, 0, 0, []), (23, .sipush 4550, 3, 0, 0, 0, 0, 4550, []), (26, .newarray .int, 2, 0, 0, 4, 50, 0, []), (28, .putfield 21, 3, 6, 5, 6, 2, 5, []), (31, .aload_n 0, 1, 0, 0, 0, 0, 0, [])],
  [(32, .sipush 4550, 3, 0, 0, 0, 0, 4550, []), (35, .newarray .int, 2, 0, 0, 4, 50, 0, []), (37, .putfield 24, 3, 6, 6, 7, 2, 6, []), (40, .aload_n 0, 1, 0, 0, 0, 0, 0, []), (41, .sipush 4550, 3, 0, 0, 0, 0, 4550, []), (44, .newarray .int, 2, 0, 0, 4, 50, 0, []), (46, .putfield 27, 3, 6, 7, 8, 2, 7, [])],
  [(49, .aload_n 0, 1, 0, 0, 0, 0, 0, []), (50, .sipush 240, 3, 0, 0, 0, 0, 240, []), (53, .newarray .int, 2, 0, 0, 4, 50, 0, []), (55, .putfield 30, 3, 6, 8, 9, 2, 8, []), (58, .aload_n 0, 1, 0, 0, 0, 0, 0, []), (59, .aload_n 1, 1, 1, 0, 0, 0, 0, []), (60, .putfield 33, 3, 6, 0, 10, 2, 0, []), (63, .aload_n 0, 1, 0, 0, 0, 0, 0, [])],
  [(64, .aload_n 2, 1, 2, 0, 0, 0, 0, []), (65, .putfield 37, 3, 6, 1, 11, 2, 1, []), (68, .aload_n 0, 1, 0, 0, 0, 0, 0, []), (69, .new 41, 3, 10, 13, 12, 14, 0, []), (72, .dup, 1, 0, 0, 0, 0, 0, []), (73, .aload_n 1, 1, 1, 0, 0, 0, 0, []), (74, .aload_n 3, 1, 3, 0, 0, 0, 0, []), (75, .invokespecial 43, 3, 0, 3, 15, 9, 2, [(0, 10)]), (78, .putfield 46, 3, 6, 2, 16, 2, 2, [])],
  [(81, .sipush 4550, 3, 0, 0, 0, 0, 4550, []), (84, .newarray .int, 2, 0, 0, 4, 50, 0, []), (86, .astore 4, 2, 4, 0, 0, 0, 0, []), (88, .iconst 0, 1, 0, 0, 0, 0, 0, []), (89, .istore 5, 2, 5, 0, 0, 0, 0, []), (91, .iload 5, 2, 5, 0, 0, 0, 0, []), (93, .iconst 3, 1, 0, 0, 0, 0, 3, []), (94, .if_icmp .ge 72, 3, 166, 0, 0, 0, 0, [])],
  [(97, .getstatic 50, 3, 0, 0, 17, 0, 0, []), (100, .iload 5, 2, 5, 0, 0, 0, 0, []), (102, .iaload, 1, 0, 0, 0, 0, 0, []), (103, .bipush 26, 2, 0, 0, 0, 0, 26, []), (105, .imul, 1, 0, 0, 0, 0, 0, []), (106, .istore 6, 2, 6, 0, 0, 0, 0, []), (108, .getstatic 50, 3, 0, 0, 17, 0, 0, []), (111, .iload 5, 2, 5, 0, 0, 0, 0, [])],
  [(113, .iaload, 1, 0, 0, 0, 0, 0, []), (114, .iconst 5, 1, 0, 0, 0, 0, 5, []), (115, .imul, 1, 0, 0, 0, 0, 0, []), (116, .istore 7, 2, 7, 0, 0, 0, 0, []), (118, .aload_n 0, 1, 0, 0, 0, 0, 0, []), (119, .getfield 13, 3, 6, 3, 3, 2, 3, []), (122, .iload 5, 2, 5, 0, 0, 0, 0, []), (124, .new 11, 3, 8, 18, 1, 19, 0, []), (127, .dup, 1, 0, 0, 0, 0, 0, [])],
  [(128, .iload 6, 2, 6, 0, 0, 0, 0, []), (130, .iload 7, 2, 7, 0, 0, 0, 0, []), (132, .aload 4, 2, 4, 0, 0, 0, 0, []), (134, .invokespecial 53, 3, 1, 4, 20, 9, 6, [(0, 8)]), (137, .aastore, 1, 0, 0, 0, 0, 0, []), (138, .aload_n 0, 1, 0, 0, 0, 0, 0, []), (139, .getfield 13, 3, 6, 3, 3, 2, 3, []), (142, .iconst 3, 1, 0, 0, 0, 0, 3, []), (143, .iload 5, 2, 5, 0, 0, 0, 0, [])],
  [(145, .iadd, 1, 0, 0, 0, 0, 0, []), (146, .new 11, 3, 8, 18, 1, 19, 0, []), (149, .dup, 1, 0, 0, 0, 0, 0, []), (150, .iload 6, 2, 6, 0, 0, 0, 0, []), (152, .iload 7, 2, 7, 0, 0, 0, 0, []), (154, .aload 4, 2, 4, 0, 0, 0, 0, []), (156, .invokespecial 53, 3, 1, 4, 20, 9, 6, [(0, 8)]), (159, .aastore, 1, 0, 0, 0, 0, 0, [])],
  [(160, .iinc 5 1, 3, 5, 0, 0, 0, 1, []), (163, .goto (-72), 3, 91, 0, 0, 0, 0, []), (166, .aload_n 0, 1, 0, 0, 0, 0, 0, []), (167, .getfield 13, 3, 6, 3, 3, 2, 3, []), (170, .bipush 6, 2, 0, 0, 0, 0, 6, []), (172, .new 11, 3, 8, 18, 1, 19, 0, []), (175, .dup, 1, 0, 0, 0, 0, 0, [])],
  [(176, .sipush 253, 3, 0, 0, 0, 0, 253, []), (179, .iconst 1, 1, 0, 0, 0, 0, 1, []), (180, .aload 4, 2, 4, 0, 0, 0, 0, []), (182, .invokespecial 53, 3, 1, 4, 20, 9, 6, [(0, 8)]), (185, .aastore, 1, 0, 0, 0, 0, 0, []), (186, .aload_n 0, 1, 0, 0, 0, 0, 0, []), (187, .getfield 13, 3, 6, 3, 3, 2, 3, []), (190, .bipush 7, 2, 0, 0, 0, 0, 7, [])],
  [(192, .new 11, 3, 8, 18, 1, 19, 0, []), (195, .dup, 1, 0, 0, 0, 0, 0, []), (196, .sipush 253, 3, 0, 0, 0, 0, 253, []), (199, .iconst 1, 1, 0, 0, 0, 0, 1, []), (200, .aload 4, 2, 4, 0, 0, 0, 0, []), (202, .invokespecial 53, 3, 1, 4, 20, 9, 6, [(0, 8)]), (205, .aastore, 1, 0, 0, 0, 0, 0, []), (206, .return_, 1, 0, 0, 0, 0, 0, [])]]
def i_T_init : ai_I := ((⟨"SuiteBench$Suites", "<init>", "(LSuiteBench$Machine;LSuiteBench$Traits;LSuiteBench$Search;)V"⟩, prog_8_method_1_code, 8, none, 9, 2, 43, 66, 3, 2, 6) : ai_I)
def o_T_init (a : Nat) : SP := match a with
  | 0 => f_W_init
  | 1 => f_E_init
  | _ => fun _ _ _ _ _ => False
theorem mo_T_init : ∀ a, ai_mono (o_T_init a)
  | 0 => mf_W_init
  | 1 => mf_E_init
  | _ + 2 => fun _ _ _ _ _ _ _ h => h
def f_T_init : SP := ai_M o_T_init 66 8 k_T_init
theorem mf_T_init : ai_mono f_T_init := M_mono mo_T_init
abbrev cal_T_init : List ai_I := [i_W_init, i_E_init]
theorem a_T_init : ai_all "SuiteBench$Suites" prog_8_method_1_code 8 kc_T cal_T_init 2 43 true none k_T_init = true := by decide +kernel
theorem w_T_init : ai_CW i_T_init := ⟨(tk_mem (l := [((Jvm.Cond.code ({ cls := "SuiteBench$Suites", name := "<init>", desc := "(LSuiteBench$Machine;LSuiteBench$Traits;LSuiteBench$Search;)V" } : Jvm.MethodName) prog_8_method_1_code (8 : Nat) (Option.none : Option Jvm.ClassFile.FieldType)), 2, 60)]) (by decide +kernel) _ (List.mem_singleton.mpr rfl)), (tk_mem (l := [((Jvm.Cond.initialized "SuiteBench$Suites"), 1, 8)]) (by decide +kernel) _ (List.mem_singleton.mpr rfl)), ⟨by decide +kernel, by decide +kernel, by decide +kernel⟩, ⟨(tk_mem (l := [((Jvm.Cond.instanceMethod ({ cls := "SuiteBench$Suites", name := "<init>", desc := "(LSuiteBench$Machine;LSuiteBench$Traits;LSuiteBench$Search;)V" } : Jvm.MethodName)), 2, 59)]) (by decide +kernel) _ (List.mem_singleton.mpr rfl)), rfl, rfl⟩⟩
theorem c_T_init {E2 : (Nat → Nat) → State → Heap → Prop} (hE : ai_XH E2) : ai_S E2 i_T_init f_T_init := snd_M (by decide) rfl (by decide) a_T_init kc_T_ok (by rfl) (by decide) (fun a i h => match a, h with
    | 0, h => by cases h; exact ⟨c_W_init hE, w_W_init⟩
    | 1, h => by cases h; exact ⟨c_E_init hE, w_E_init⟩
    | _ + 2, h => by simp [cal_T_init, ai_nth] at h)
def k_U_init : ai_C := [
  [(0, .aload_n 0, 1, 0, 0, 0, 0, 0, []), (1, .invokespecial 3, 3, 0, 0, 0, 30, 0, []), (4, .aload_n 0, 1, 0, 0, 0, 0, 0, []), (5, .new 9, 3, 1, 2, 1, 3, 0, []), (8, .dup, 1, 0, 0, 0, 0, 0, []), (9, .invokespecial 11, 3, 0, 1, 4, 9, 2, [(0, 1)]), (12, .putfield 12, 3, 2, 3, 5, 2, 3, []), (15, .aload_n 0, 1, 0, 0, 0, 0, 0, [])],
  [(16, .new 9, 3, 1, 2, 1, 3, 0, []), (19, .dup, 1, 0, 0, 0, 0, 0, []), (20, .invokespecial 11, 3, 0, 1, 4, 9, 2, [(0, 1)]), (23, .putfield 18, 3, 2, 4, 6, 2, 4, []), (26, .aload_n 0, 1, 0, 0, 0, 0, 0, []), (27, .sipush 252, 3, 0, 0, 0, 0, 252, []), (30, .newarray .int, 2, 0, 0, 7, 50, 0, [])],
  [(32, .putfield 21, 3, 2, 5, 8, 2, 5, []), (35, .aload_n 0, 1, 0, 0, 0, 0, 0, []), (36, .sipush 252, 3, 0, 0, 0, 0, 252, []), (39, .newarray .boolean, 2, 0, 0, 9, 52, 0, []), (41, .putfield 25, 3, 2, 6, 10, 2, 6, []), (44, .aload_n 0, 1, 0, 0, 0, 0, 0, []), (45, .iconst 4, 1, 0, 0, 0, 0, 4, []), (46, .newarray .int, 2, 0, 0, 7, 50, 0, [])],
  [(48, .putfield 29, 3, 2, 7, 11, 2, 7, []), (51, .aload_n 0, 1, 0, 0, 0, 0, 0, []), (52, .iconst 4, 1, 0, 0, 0, 0, 4, []), (53, .newarray .int, 2, 0, 0, 7, 50, 0, []), (55, .putfield 32, 3, 2, 8, 12, 2, 8, []), (58, .aload_n 0, 1, 0, 0, 0, 0, 0, []), (59, .iconst 2, 1, 0, 0, 0, 0, 2, []), (60, .newarray .int, 2, 0, 0, 7, 50, 0, []), (62, .putfield 35, 3, 2, 9, 13, 2, 9, [])],
  [(65, .aload_n 0, 1, 0, 0, 0, 0, 0, []), (66, .iconst 4, 1, 0, 0, 0, 0, 4, []), (67, .newarray .int, 2, 0, 0, 7, 50, 0, []), (69, .putfield 38, 3, 2, 10, 14, 2, 10, []), (72, .aload_n 0, 1, 0, 0, 0, 0, 0, []), (73, .iconst 4, 1, 0, 0, 0, 0, 4, []), (74, .newarray .int, 2, 0, 0, 7, 50, 0, []), (76, .putfield 41, 3, 2, 11, 15, 2, 11, []), (79, .aload_n 0, 1, 0, 0, 0, 0, 0, [])],
  [(80, .sipush 7000, 3, 0, 0, 0, 0, 7000, []), (83, .newarray .int, 2, 0, 0, 7, 50, 0, []), (85, .putfield 44, 3, 2, 12, 16, 2, 12, []), (88, .aload_n 0, 1, 0, 0, 0, 0, 0, []), (89, .bipush 8, 2, 0, 0, 0, 0, 8, []), (91, .newarray .int, 2, 0, 0, 7, 50, 0, []), (93, .putfield 47, 3, 2, 13, 17, 2, 13, [])],
  [(96, .aload_n 0, 1, 0, 0, 0, 0, 0, []), (97, .aload_n 1, 1, 1, 0, 0, 0, 0, []), (98, .putfield 50, 3, 2, 0, 18, 2, 0, []), (101, .aload_n 0, 1, 0, 0, 0, 0, 0, []), (102, .aload_n 2, 1, 2, 0, 0, 0, 0, []), (103, .putfield 53, 3, 2, 1, 19, 2, 1, []), (106, .aload_n 0, 1, 0, 0, 0, 0, 0, []), (107, .aload_n 3, 1, 3, 0, 0, 0, 0, []), (108, .putfield 57, 3, 2, 2, 20, 2, 2, []), (111, .return_, 1, 0, 0, 0, 0, 0, [])]]
def i_U_init : ai_I := ((⟨"SuiteBench$Mutants", "<init>", "(LSuiteBench$Machine;LSuiteBench$Traits;LSuiteBench$Search;)V"⟩, prog_4_method_1_code, 4, none, 9, 2, 40, 15, 3, 2, 2) : ai_I)
def o_U_init (a : Nat) : SP := match a with
  | 0 => f_M_init
  | _ => fun _ _ _ _ _ => False
theorem mo_U_init : ∀ a, ai_mono (o_U_init a)
  | 0 => mf_M_init
  | _ + 1 => fun _ _ _ _ _ _ _ h => h
def f_U_init : SP := ai_M o_U_init 15 4 k_U_init
theorem mf_U_init : ai_mono f_U_init := M_mono mo_U_init
abbrev cal_U_init : List ai_I := [i_M_init]
theorem a_U_init : ai_all "SuiteBench$Mutants" prog_4_method_1_code 4 kc_U cal_U_init 2 40 true none k_U_init = true := by decide +kernel
theorem w_U_init : ai_CW i_U_init := ⟨(tk_mem (l := [((Jvm.Cond.code ({ cls := "SuiteBench$Mutants", name := "<init>", desc := "(LSuiteBench$Machine;LSuiteBench$Traits;LSuiteBench$Search;)V" } : Jvm.MethodName) prog_4_method_1_code (4 : Nat) (Option.none : Option Jvm.ClassFile.FieldType)), 2, 178)]) (by decide +kernel) _ (List.mem_singleton.mpr rfl)), (tk_mem (l := [((Jvm.Cond.initialized "SuiteBench$Mutants"), 1, 11)]) (by decide +kernel) _ (List.mem_singleton.mpr rfl)), ⟨by decide +kernel, by decide +kernel, by decide +kernel⟩, ⟨(tk_mem (l := [((Jvm.Cond.instanceMethod ({ cls := "SuiteBench$Mutants", name := "<init>", desc := "(LSuiteBench$Machine;LSuiteBench$Traits;LSuiteBench$Search;)V" } : Jvm.MethodName)), 2, 177)]) (by decide +kernel) _ (List.mem_singleton.mpr rfl)), rfl, rfl⟩⟩
theorem c_U_init {E2 : (Nat → Nat) → State → Heap → Prop} (hE : ai_XH E2) : ai_S E2 i_U_init f_U_init := snd_M (by decide) rfl (by decide) a_U_init kc_U_ok (by rfl) (by decide) (fun a i h => match a, h with
    | 0, h => by cases h; exact ⟨c_M_init hE, w_M_init⟩
    | _ + 1, h => by simp [cal_U_init, ai_nth] at h)
def k_L_init : ai_C := [
  [(0, .aload_n 0, 1, 0, 0, 0, 0, 0, []), (1, .invokespecial 3, 3, 0, 0, 0, 30, 0, []), (4, .aload_n 0, 1, 0, 0, 0, 0, 0, []), (5, .bipush 20, 2, 0, 0, 0, 0, 20, []), (7, .newarray .int, 2, 0, 0, 1, 50, 0, []), (9, .putfield 9, 3, 0, 0, 2, 2, 0, []), (12, .aload_n 0, 1, 0, 0, 0, 0, 0, []), (13, .bipush 20, 2, 0, 0, 0, 0, 20, []), (15, .newarray .long, 2, 0, 0, 3, 51, 0, [])],
  [(17, .putfield 15, 3, 0, 1, 4, 2, 1, []), (20, .return_, 1, 0, 0, 0, 0, 0, [])]]
def i_L_init : ai_I := ((⟨"SuiteBench$Log", "<init>", "()V"⟩, prog_2_method_1_code, 1, none, 9, 1, 20, 2, 0, 2, 0) : ai_I)
def o_L_init (_ : Nat) : SP := fun _ _ _ _ _ => False
theorem mo_L_init : ∀ a, ai_mono (o_L_init a) := fun _ _ _ _ _ _ _ _ h => h
def f_L_init : SP := ai_M o_L_init 2 1 k_L_init
theorem mf_L_init : ai_mono f_L_init := M_mono mo_L_init
abbrev cal_L_init : List ai_I := []
theorem a_L_init : ai_all "SuiteBench$Log" prog_2_method_1_code 1 kc_L cal_L_init 1 20 true none k_L_init = true := by decide +kernel
theorem w_L_init : ai_CW i_L_init := ⟨(tk_mem (l := [((Jvm.Cond.code ({ cls := "SuiteBench$Log", name := "<init>", desc := "()V" } : Jvm.MethodName) prog_2_method_1_code (1 : Nat) (Option.none : Option Jvm.ClassFile.FieldType)), 2, 238)]) (by decide +kernel) _ (List.mem_singleton.mpr rfl)), (tk_mem (l := [((Jvm.Cond.initialized "SuiteBench$Log"), 1, 12)]) (by decide +kernel) _ (List.mem_singleton.mpr rfl)), ⟨by decide +kernel, by decide +kernel, by decide +kernel⟩, ⟨(tk_mem (l := [((Jvm.Cond.instanceMethod ({ cls := "SuiteBench$Log", name := "<init>", desc := "()V" } : Jvm.MethodName)), 2, 237)]) (by decide +kernel) _ (List.mem_singleton.mpr rfl)), rfl, rfl⟩⟩
theorem c_L_init {E2 : (Nat → Nat) → State → Heap → Prop} (hE : ai_XH E2) : ai_S E2 i_L_init f_L_init := snd_M (by decide) rfl (by decide) a_L_init kc_L_ok (by rfl) (by decide) (fun a i h => by simp [cal_L_init, ai_nth] at h)
