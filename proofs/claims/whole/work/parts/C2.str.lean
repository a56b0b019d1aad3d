-- deps: 18 19 C1
/-! String's members on the reference's one text: contracts over the machine itself -/
abbrev fA : Nat → Prop := fun _ => False
theorem fA_n {A : Nat → Prop} : ∀ q, fA q → A q := fun _ h => h.elim
/-- what lies outside, for the contracts: the text and its bytes, what String reads of statics; the two texts of the class's exceptions; what Throwable reads of statics -/
def sxA (B : Nat) : Nat → Prop := fun q => B ≤ q
def sxT : Nat → Value := fun j => .int (Int32.ofInt (ai_txt.getD j 0))
def sxW : List Jvm.Cond := [.castable "java/lang/IndexOutOfBoundsException" "java/lang/IndexOutOfBoundsException", .castable "java/util/NoSuchElementException" "java/util/NoSuchElementException", .declares ({ cls := "java/lang/RuntimeException", name := "<init>", desc := "(Ljava/lang/String;)V" } : Jvm.MethodName), .declares ({ cls := "java/lang/Exception", name := "<init>", desc := "(Ljava/lang/String;)V" } : Jvm.MethodName), .declares ({ cls := "java/lang/Throwable", name := "<init>", desc := "(Ljava/lang/String;)V" } : Jvm.MethodName)]
theorem sxW_on : ∀ w ∈ sxW, w.onTables = true := by decide
theorem sxW_at {A A' : Array Value} {U : State} (h : ∀ w ∈ sxW, w.before A U = true) : ∀ w ∈ sxW, w.before A' U = true := fun w hw => va_tabs (sxW_on w hw) rfl (h w hw)
theorem sxW_wm {s U : State} (hW : s.WarmedH U.vm) (h : ∀ w ∈ sxW, w.before #[] s = true) : ∀ w ∈ sxW, w.before #[] U = true := by
  intro w hw
  have h1 := h w hw
  have hw2 := hw
  simp only [sxW, List.mem_cons, List.not_mem_nil, or_false] at hw2
  rcases hw2 with rfl | rfl | rfl | rfl | rfl
  · exact va_tabs rfl (rfl : (s.setVm U.vm).vm = U.vm) (by rw [Cond.castable_setVm hW.alike]; exact h1)
  · exact va_tabs rfl (rfl : (s.setVm U.vm).vm = U.vm) (by rw [Cond.castable_setVm hW.alike]; exact h1)
  · exact va_tabs rfl (rfl : (s.setVm U.vm).vm = U.vm) (by rw [Cond.declares_setVm hW.alike]; exact h1)
  · exact va_tabs rfl (rfl : (s.setVm U.vm).vm = U.vm) (by rw [Cond.declares_setVm hW.alike]; exact h1)
  · exact va_tabs rfl (rfl : (s.setVm U.vm).vm = U.vm) (by rw [Cond.declares_setVm hW.alike]; exact h1)
def sxE (B : Nat) (xa : Nat → Nat) (U : State) (H : Heap) : Prop := vk_R "SuiteBenchModel" 184 "state input more arc twist extra seed " (xa 2) U ∧ va_O "java/lang/String" (xa 2) (sxA B) U H ∧ va_OF "java/lang/String" "coder" "B" (.int 0) (xa 2) (sxA B) U H ∧ va_OF "java/lang/String" "value" "[B" (.ref (xa 3)) (xa 2) (sxA B) U H ∧ va_T .byte (xa 3) 38 sxT (sxA B) U H ∧ va_Z "java/lang/String" "COMPACT_STRINGS" "Z" (.int 1) (sxA B) U H ∧ va_Zq "jdk/internal/util/Preconditions" "SIOOBE_FORMATTER" "Ljava/util/function/BiFunction;" (sxA B) U H ∧ vk_R "SuiteBench" 133 "no such state or input" (xa 4) U ∧ vk_R "SuiteBench" 140 "no such what" (xa 5) U ∧ vx_Zq Bundle.tN "UNASSIGNED_STACK" Bundle.steD (sxA B) U H ∧ vx_Zq Bundle.tN "SUPPRESSED_SENTINEL" Bundle.listD (sxA B) U H ∧ va_Nc "java/util/NoSuchElementException" "java/lang/IndexOutOfBoundsException" U ∧ ∀ w ∈ sxW, w.before #[] U = true
theorem va_Zq_moved {C n d : String} {A : Nat → Prop} {u U : State} {H : Heap} (hvm : u.vm.Alike U.vm) (h : va_Zq C n d A u H) : va_Zq C n d A U H := h.elim (fun q => Or.inl (q.moved hvm)) fun ⟨t, q⟩ => Or.inr ⟨t, q.moved hvm⟩
theorem va_Zq_kept {C n d : String} {A : Nat → Prop} {U : State} {H H1 : Heap} (h : va_Zq C n d A U H) (hq : ∀ a : Nat, a < H.size → ¬ A a → H1[a]? = H[a]?) : va_Zq C n d A U H1 := h.elim (fun q => Or.inl (q.kept hq)) fun ⟨t, q⟩ => Or.inr ⟨t, q.kept hq⟩
theorem va_Zq_narrow {C n d : String} {A B : Nat → Prop} {U : State} {H : Heap} (h : va_Zq C n d A U H) (hAB : ∀ q, B q → A q) : va_Zq C n d B U H := h.elim (fun q => Or.inl (q.narrow hAB)) fun ⟨t, q⟩ => Or.inr ⟨t, q.narrow hAB⟩
theorem sxE_ok (B : Nat) : ai_E2ok B (sxE B) := by
  refine ⟨fun xa s U H hW h => ?_, fun xa U H H1 hk h => ?_, fun xa U H g mk a h => ?_, fun xa U H h => ?_⟩
  · obtain ⟨e1, e2, e3, e4, e5, e6, e7, e8, e9, e10, e11, e12, e13⟩ := h
    exact ⟨e1.warm hW, e2.moved hW.alike, e3.moved hW.alike, e4.moved hW.alike, e5.moved hW.alike, e6.moved hW.alike, va_Zq_moved hW.alike e7, e8.warm hW, e9.warm hW, e10.moved hW.alike, e11.moved hW.alike, e12.moved hW.alike, sxW_wm hW e13⟩
  · obtain ⟨e1, e2, e3, e4, e5, e6, e7, e8, e9, e10, e11, e12, e13⟩ := h
    exact ⟨e1, e2.kept hk, e3.kept hk, e4.kept hk, e5.kept hk, e6.kept hk, va_Zq_kept e7 hk, e8, e9, e10.kept hk, e11.kept hk, e12, e13⟩
  · obtain ⟨e1, e2, e3, e4, e5, e6, e7, e8, e9, e10, e11, e12, e13⟩ := h
    have A : U.vm.Alike (U.calling g mk a).vm := Vm.Alike.refl U.vm
    exact ⟨vk_R.same (u := U) rfl e1, va_O.moved (u := U) A e2, va_OF.moved (u := U) A e3, va_OF.moved (u := U) A e4, va_T.moved (u := U) A e5, va_Z.moved (u := U) A e6, va_Zq_moved (u := U) A e7, vk_R.same (u := U) rfl e8, vk_R.same (u := U) rfl e9, vx_Zq.moved (u := U) A e10, vx_Zq.moved (u := U) A e11, va_Nc.moved (u := U) A e12, fun w hw => va_tabs (sxW_on w hw) (rfl : U.vm = (U.calling g mk a).vm) (e13 w hw)⟩
  · obtain ⟨cell, h1, h2, h3, -⟩ := h.2.1
    exact ⟨h.1, cell, h1, h2, h3⟩
def jw_co : List Jvm.Cond := [(Jvm.Cond.code ({ cls := "java/lang/String", name := "coder", desc := "()B" } : Jvm.MethodName) prog_23_method_152_code (1 : Nat) (Option.some Jvm.ClassFile.FieldType.byte)), (Jvm.Cond.fieldLink "java/lang/String" (38 : Nat) "java/lang/String" "COMPACT_STRINGS" "Z"), (Jvm.Cond.fieldLink "java/lang/String" (15 : Nat) "java/lang/String" "coder" "B")]
theorem jg_co : ∀ w ∈ jw_co, w ∈ ai_gw := tk_mem (l := [((Jvm.Cond.code ({ cls := "java/lang/String", name := "coder", desc := "()B" } : Jvm.MethodName) prog_23_method_152_code (1 : Nat) (Option.some Jvm.ClassFile.FieldType.byte)), 8, 101), ((Jvm.Cond.fieldLink "java/lang/String" (38 : Nat) "java/lang/String" "COMPACT_STRINGS" "Z"), 8, 102), ((Jvm.Cond.fieldLink "java/lang/String" (15 : Nat) "java/lang/String" "coder" "B"), 10, 142)]) (by decide +kernel)
def jw_il : List Jvm.Cond := [(Jvm.Cond.code ({ cls := "java/lang/String", name := "isLatin1", desc := "()Z" } : Jvm.MethodName) prog_23_method_154_code (1 : Nat) (Option.some Jvm.ClassFile.FieldType.boolean)), (Jvm.Cond.fieldLink "java/lang/String" (38 : Nat) "java/lang/String" "COMPACT_STRINGS" "Z"), (Jvm.Cond.fieldLink "java/lang/String" (15 : Nat) "java/lang/String" "coder" "B")]
theorem jg_il : ∀ w ∈ jw_il, w ∈ ai_gw := tk_mem (l := [((Jvm.Cond.code ({ cls := "java/lang/String", name := "isLatin1", desc := "()Z" } : Jvm.MethodName) prog_23_method_154_code (1 : Nat) (Option.some Jvm.ClassFile.FieldType.boolean)), 8, 111), ((Jvm.Cond.fieldLink "java/lang/String" (38 : Nat) "java/lang/String" "COMPACT_STRINGS" "Z"), 8, 102), ((Jvm.Cond.fieldLink "java/lang/String" (15 : Nat) "java/lang/String" "coder" "B"), 10, 142)]) (by decide +kernel)
def jw_pc : List Jvm.Cond := [(Jvm.Cond.code ({ cls := "jdk/internal/util/Preconditions", name := "checkIndex", desc := "(IILjava/util/function/BiFunction;)I" } : Jvm.MethodName) prog_32_method_11_code (3 : Nat) (Option.some Jvm.ClassFile.FieldType.int))]
theorem jg_pc : ∀ w ∈ jw_pc, w ∈ ai_gw := tk_mem (l := [((Jvm.Cond.code ({ cls := "jdk/internal/util/Preconditions", name := "checkIndex", desc := "(IILjava/util/function/BiFunction;)I" } : Jvm.MethodName) prog_32_method_11_code (3 : Nat) (Option.some Jvm.ClassFile.FieldType.int)), 8, 122)]) (by decide +kernel)
def jw_ci : List Jvm.Cond := [(Jvm.Cond.code ({ cls := "java/lang/String", name := "checkIndex", desc := "(II)V" } : Jvm.MethodName) prog_23_method_155_code (2 : Nat) (Option.none : Option Jvm.ClassFile.FieldType)), (Jvm.Cond.fieldLink "java/lang/String" (1053 : Nat) "jdk/internal/util/Preconditions" "SIOOBE_FORMATTER" "Ljava/util/function/BiFunction;"), (Jvm.Cond.methodLink "java/lang/String" (1059 : Nat) ({ cls := "jdk/internal/util/Preconditions", name := "checkIndex", desc := "(IILjava/util/function/BiFunction;)I" } : Jvm.MethodName)), (Jvm.Cond.static ({ cls := "jdk/internal/util/Preconditions", name := "checkIndex", desc := "(IILjava/util/function/BiFunction;)I" } : Jvm.MethodName)), (Jvm.Cond.initialized "jdk/internal/util/Preconditions"), (Jvm.Cond.code ({ cls := "jdk/internal/util/Preconditions", name := "checkIndex", desc := "(IILjava/util/function/BiFunction;)I" } : Jvm.MethodName) prog_32_method_11_code (3 : Nat) (Option.some Jvm.ClassFile.FieldType.int))]
theorem jg_ci : ∀ w ∈ jw_ci, w ∈ ai_gw := tk_mem (l := [((Jvm.Cond.code ({ cls := "java/lang/String", name := "checkIndex", desc := "(II)V" } : Jvm.MethodName) prog_23_method_155_code (2 : Nat) (Option.none : Option Jvm.ClassFile.FieldType)), 8, 117), ((Jvm.Cond.fieldLink "java/lang/String" (1053 : Nat) "jdk/internal/util/Preconditions" "SIOOBE_FORMATTER" "Ljava/util/function/BiFunction;"), 8, 118), ((Jvm.Cond.methodLink "java/lang/String" (1059 : Nat) ({ cls := "jdk/internal/util/Preconditions", name := "checkIndex", desc := "(IILjava/util/function/BiFunction;)I" } : Jvm.MethodName)), 8, 120), ((Jvm.Cond.static ({ cls := "jdk/internal/util/Preconditions", name := "checkIndex", desc := "(IILjava/util/function/BiFunction;)I" } : Jvm.MethodName)), 8, 121), ((Jvm.Cond.initialized "jdk/internal/util/Preconditions"), 1, 18), ((Jvm.Cond.code ({ cls := "jdk/internal/util/Preconditions", name := "checkIndex", desc := "(IILjava/util/function/BiFunction;)I" } : Jvm.MethodName) prog_32_method_11_code (3 : Nat) (Option.some Jvm.ClassFile.FieldType.int)), 8, 122)]) (by decide +kernel)
def jw_la : List Jvm.Cond := [(Jvm.Cond.code ({ cls := "java/lang/StringLatin1", name := "charAt", desc := "([BI)C" } : Jvm.MethodName) prog_24_method_2_code (2 : Nat) (Option.some Jvm.ClassFile.FieldType.char)), (Jvm.Cond.methodLink "java/lang/StringLatin1" (9 : Nat) ({ cls := "java/lang/String", name := "checkIndex", desc := "(II)V" } : Jvm.MethodName)), (Jvm.Cond.static ({ cls := "java/lang/String", name := "checkIndex", desc := "(II)V" } : Jvm.MethodName)), (Jvm.Cond.initialized "java/lang/String"), (Jvm.Cond.code ({ cls := "java/lang/String", name := "checkIndex", desc := "(II)V" } : Jvm.MethodName) prog_23_method_155_code (2 : Nat) (Option.none : Option Jvm.ClassFile.FieldType)), (Jvm.Cond.fieldLink "java/lang/String" (1053 : Nat) "jdk/internal/util/Preconditions" "SIOOBE_FORMATTER" "Ljava/util/function/BiFunction;"), (Jvm.Cond.methodLink "java/lang/String" (1059 : Nat) ({ cls := "jdk/internal/util/Preconditions", name := "checkIndex", desc := "(IILjava/util/function/BiFunction;)I" } : Jvm.MethodName)), (Jvm.Cond.static ({ cls := "jdk/internal/util/Preconditions", name := "checkIndex", desc := "(IILjava/util/function/BiFunction;)I" } : Jvm.MethodName)), (Jvm.Cond.initialized "jdk/internal/util/Preconditions"), (Jvm.Cond.code ({ cls := "jdk/internal/util/Preconditions", name := "checkIndex", desc := "(IILjava/util/function/BiFunction;)I" } : Jvm.MethodName) prog_32_method_11_code (3 : Nat) (Option.some Jvm.ClassFile.FieldType.int))]
theorem jg_la : ∀ w ∈ jw_la, w ∈ ai_gw := tk_mem (l := [((Jvm.Cond.code ({ cls := "java/lang/StringLatin1", name := "charAt", desc := "([BI)C" } : Jvm.MethodName) prog_24_method_2_code (2 : Nat) (Option.some Jvm.ClassFile.FieldType.char)), 8, 114), ((Jvm.Cond.methodLink "java/lang/StringLatin1" (9 : Nat) ({ cls := "java/lang/String", name := "checkIndex", desc := "(II)V" } : Jvm.MethodName)), 8, 115), ((Jvm.Cond.static ({ cls := "java/lang/String", name := "checkIndex", desc := "(II)V" } : Jvm.MethodName)), 8, 116), ((Jvm.Cond.initialized "java/lang/String"), 1, 16), ((Jvm.Cond.code ({ cls := "java/lang/String", name := "checkIndex", desc := "(II)V" } : Jvm.MethodName) prog_23_method_155_code (2 : Nat) (Option.none : Option Jvm.ClassFile.FieldType)), 8, 117), ((Jvm.Cond.fieldLink "java/lang/String" (1053 : Nat) "jdk/internal/util/Preconditions" "SIOOBE_FORMATTER" "Ljava/util/function/BiFunction;"), 8, 118), ((Jvm.Cond.methodLink "java/lang/String" (1059 : Nat) ({ cls := "jdk/internal/util/Preconditions", name := "checkIndex", desc := "(IILjava/util/function/BiFunction;)I" } : Jvm.MethodName)), 8, 120), ((Jvm.Cond.static ({ cls := "jdk/internal/util/Preconditions", name := "checkIndex", desc := "(IILjava/util/function/BiFunction;)I" } : Jvm.MethodName)), 8, 121), ((Jvm.Cond.initialized "jdk/internal/util/Preconditions"), 1, 18), ((Jvm.Cond.code ({ cls := "jdk/internal/util/Preconditions", name := "checkIndex", desc := "(IILjava/util/function/BiFunction;)I" } : Jvm.MethodName) prog_32_method_11_code (3 : Nat) (Option.some Jvm.ClassFile.FieldType.int)), 8, 122)]) (by decide +kernel)
theorem jd_co_0 : decode prog_23_method_152_code 0 = .ok (.getstatic 38, 3) := by decide +kernel
theorem jd_co_3 : decode prog_23_method_152_code 3 = .ok (.ifCond .eq 10, 3) := by decide +kernel
theorem jd_co_6 : decode prog_23_method_152_code 6 = .ok (.aload_n 0, 1) := by decide +kernel
theorem jd_co_7 : decode prog_23_method_152_code 7 = .ok (.getfield 15, 3) := by decide +kernel
theorem jd_co_10 : decode prog_23_method_152_code 10 = .ok (.goto 4, 3) := by decide +kernel
theorem jd_co_14 : decode prog_23_method_152_code 14 = .ok (.ireturn, 1) := by decide +kernel
theorem jd_il_0 : decode prog_23_method_154_code 0 = .ok (.getstatic 38, 3) := by decide +kernel
theorem jd_il_3 : decode prog_23_method_154_code 3 = .ok (.ifCond .eq 14, 3) := by decide +kernel
theorem jd_il_6 : decode prog_23_method_154_code 6 = .ok (.aload_n 0, 1) := by decide +kernel
theorem jd_il_7 : decode prog_23_method_154_code 7 = .ok (.getfield 15, 3) := by decide +kernel
theorem jd_il_10 : decode prog_23_method_154_code 10 = .ok (.ifCond .ne 7, 3) := by decide +kernel
theorem jd_il_13 : decode prog_23_method_154_code 13 = .ok (.iconst 1, 1) := by decide +kernel
theorem jd_il_14 : decode prog_23_method_154_code 14 = .ok (.goto 4, 3) := by decide +kernel
theorem jd_il_18 : decode prog_23_method_154_code 18 = .ok (.ireturn, 1) := by decide +kernel
theorem jd_pc_0 : decode prog_32_method_11_code 0 = .ok (.iload_n 0, 1) := by decide +kernel
theorem jd_pc_1 : decode prog_32_method_11_code 1 = .ok (.ifCond .lt 8, 3) := by decide +kernel
theorem jd_pc_4 : decode prog_32_method_11_code 4 = .ok (.iload_n 0, 1) := by decide +kernel
theorem jd_pc_5 : decode prog_32_method_11_code 5 = .ok (.iload_n 1, 1) := by decide +kernel
theorem jd_pc_6 : decode prog_32_method_11_code 6 = .ok (.if_icmp .lt 10, 3) := by decide +kernel
theorem jd_pc_16 : decode prog_32_method_11_code 16 = .ok (.iload_n 0, 1) := by decide +kernel
theorem jd_pc_17 : decode prog_32_method_11_code 17 = .ok (.ireturn, 1) := by decide +kernel
theorem jd_ci_0 : decode prog_23_method_155_code 0 = .ok (.iload_n 0, 1) := by decide +kernel
theorem jd_ci_1 : decode prog_23_method_155_code 1 = .ok (.iload_n 1, 1) := by decide +kernel
theorem jd_ci_2 : decode prog_23_method_155_code 2 = .ok (.getstatic 1053, 3) := by decide +kernel
theorem jd_ci_5 : decode prog_23_method_155_code 5 = .ok (.invokestatic 1059, 3) := by decide +kernel
theorem jd_ci_8 : decode prog_23_method_155_code 8 = .ok (.pop, 1) := by decide +kernel
theorem jd_ci_9 : decode prog_23_method_155_code 9 = .ok (.return_, 1) := by decide +kernel
theorem jd_la_0 : decode prog_24_method_2_code 0 = .ok (.iload_n 1, 1) := by decide +kernel
theorem jd_la_1 : decode prog_24_method_2_code 1 = .ok (.aload_n 0, 1) := by decide +kernel
theorem jd_la_2 : decode prog_24_method_2_code 2 = .ok (.arraylength, 1) := by decide +kernel
theorem jd_la_3 : decode prog_24_method_2_code 3 = .ok (.invokestatic 9, 3) := by decide +kernel
theorem jd_la_6 : decode prog_24_method_2_code 6 = .ok (.aload_n 0, 1) := by decide +kernel
theorem jd_la_7 : decode prog_24_method_2_code 7 = .ok (.iload_n 1, 1) := by decide +kernel
theorem jd_la_8 : decode prog_24_method_2_code 8 = .ok (.baload, 1) := by decide +kernel
theorem jd_la_9 : decode prog_24_method_2_code 9 = .ok (.sipush 255, 3) := by decide +kernel
theorem jd_la_12 : decode prog_24_method_2_code 12 = .ok (.iand, 1) := by decide +kernel
theorem jd_la_13 : decode prog_24_method_2_code 13 = .ok (.i2c, 1) := by decide +kernel
theorem jd_la_14 : decode prog_24_method_2_code 14 = .ok (.ireturn, 1) := by decide +kernel
theorem jd_le_0 : decode prog_23_method_54_code 0 = .ok (.aload_n 0, 1) := by decide +kernel
theorem jd_le_1 : decode prog_23_method_54_code 1 = .ok (.getfield 9, 3) := by decide +kernel
theorem jd_le_4 : decode prog_23_method_54_code 4 = .ok (.arraylength, 1) := by decide +kernel
theorem jd_le_5 : decode prog_23_method_54_code 5 = .ok (.aload_n 0, 1) := by decide +kernel
theorem jd_le_6 : decode prog_23_method_54_code 6 = .ok (.invokevirtual 335, 3) := by decide +kernel
theorem jd_le_9 : decode prog_23_method_54_code 9 = .ok (.ishr, 1) := by decide +kernel
theorem jd_le_10 : decode prog_23_method_54_code 10 = .ok (.ireturn, 1) := by decide +kernel
theorem jd_ca_0 : decode prog_23_method_56_code 0 = .ok (.aload_n 0, 1) := by decide +kernel
theorem jd_ca_1 : decode prog_23_method_56_code 1 = .ok (.invokevirtual 492, 3) := by decide +kernel
theorem jd_ca_4 : decode prog_23_method_56_code 4 = .ok (.ifCond .eq 12, 3) := by decide +kernel
theorem jd_ca_7 : decode prog_23_method_56_code 7 = .ok (.aload_n 0, 1) := by decide +kernel
theorem jd_ca_8 : decode prog_23_method_56_code 8 = .ok (.getfield 9, 3) := by decide +kernel
theorem jd_ca_11 : decode prog_23_method_56_code 11 = .ok (.iload_n 1, 1) := by decide +kernel
theorem jd_ca_12 : decode prog_23_method_56_code 12 = .ok (.invokestatic 495, 3) := by decide +kernel
theorem jd_ca_15 : decode prog_23_method_56_code 15 = .ok (.ireturn, 1) := by decide +kernel
theorem j_coder (l : Launch) (q : Nat) : Met l ({ cls := "java/lang/String", name := "coder", desc := "()B" } : Jvm.MethodName) jw_co ({ frames := 0, cells := 0, slots := 0, locals := 0 } : Room) (va_Pc [.ref q] (fun U => va_OF "java/lang/String" "coder" "B" (.int 0) q fA U U.heap ∧ va_Z "java/lang/String" "COMPACT_STRINGS" "Z" (.int 1) fA U U.heap)) (vp_Si fun r => r = 0) 0 0 fA := by
  refine Met.ofW (cc := prog_23_method_152_code) (maxL := 1) (ret := (some .byte)) (by decide) rfl ?_
  intro p e s m args below meth c s₁ B hml hv
  obtain ⟨rfl, hO, hZ⟩ := hv
  have hx := B.exec
  have hb := B.bytes
  have hr := B.returns
  have hts := atoms_spec (ws := jw_co) B.pre
  have hown : s.vm.findClass "java/lang/String" = some m.cls := findClass_of_methodNamed B.named
  have hlocks := B.notSynchronized
  have hS : va_S fA s.heap s.heap [] := va_S.rf
  have hl := lv_entry ([.ref q]) (n := 1) (Nat.le_of_ble_eq_true rfl)
  rw [lg_entry_eq]
  generalize (lg_sl ([.ref q]) ++ List.replicate (1 - (lg_sl ([.ref q])).length) Slot.unset).toArray = ls at hl ⊢
  have hl : lv_has ls 1 [(0, .ref q)] := hl
  refine va_gets hx hb hZ hS hown (hts _ (List.mem_of_getElem? (i := 1) rfl)) (fun _ h => h) jd_co_0 ?_
  refine lv_if_eq (tgt := 13) hx hb jd_co_3 (by decide) (fun z => absurd z (by decide)) (fun _ => ?_)
  refine lv_aload_n hx hb jd_co_6 rfl (lv_at hl 0 rfl) ?_
  refine vk_getf hx hb hO hS hown (hts _ (List.mem_of_getElem? (i := 2) rfl)) (fun _ h => h) jd_co_7 ?_
  refine lv_goto (tgt := 14) hx hb jd_co_10 (by decide) ?_
  exact W.zret (ty := .byte) (v := 0) hx hb hr rfl (fun t ht _ => ⟨0, rfl, rfl, ht⟩) (fun _ h => by cases h) jd_co_14
theorem j_isLatin1 (l : Launch) (q : Nat) : Met l ({ cls := "java/lang/String", name := "isLatin1", desc := "()Z" } : Jvm.MethodName) jw_il ({ frames := 0, cells := 0, slots := 0, locals := 0 } : Room) (va_Pc [.ref q] (fun U => va_OF "java/lang/String" "coder" "B" (.int 0) q fA U U.heap ∧ va_Z "java/lang/String" "COMPACT_STRINGS" "Z" (.int 1) fA U U.heap)) (vp_Si fun r => r = 1) 0 0 fA := by
  refine Met.ofW (cc := prog_23_method_154_code) (maxL := 1) (ret := (some .boolean)) (by decide) rfl ?_
  intro p e s m args below meth c s₁ B hml hv
  obtain ⟨rfl, hO, hZ⟩ := hv
  have hx := B.exec
  have hb := B.bytes
  have hr := B.returns
  have hts := atoms_spec (ws := jw_il) B.pre
  have hown : s.vm.findClass "java/lang/String" = some m.cls := findClass_of_methodNamed B.named
  have hlocks := B.notSynchronized
  have hS : va_S fA s.heap s.heap [] := va_S.rf
  have hl := lv_entry ([.ref q]) (n := 1) (Nat.le_of_ble_eq_true rfl)
  rw [lg_entry_eq]
  generalize (lg_sl ([.ref q]) ++ List.replicate (1 - (lg_sl ([.ref q])).length) Slot.unset).toArray = ls at hl ⊢
  have hl : lv_has ls 1 [(0, .ref q)] := hl
  refine va_gets hx hb hZ hS hown (hts _ (List.mem_of_getElem? (i := 1) rfl)) (fun _ h => h) jd_il_0 ?_
  refine lv_if_eq (tgt := 17) hx hb jd_il_3 (by decide) (fun z => absurd z (by decide)) (fun _ => ?_)
  refine lv_aload_n hx hb jd_il_6 rfl (lv_at hl 0 rfl) ?_
  refine vk_getf hx hb hO hS hown (hts _ (List.mem_of_getElem? (i := 2) rfl)) (fun _ h => h) jd_il_7 ?_
  refine lv_if_ne (tgt := 17) hx hb jd_il_10 (by decide) (fun z => absurd rfl z) (fun _ => ?_)
  refine lv_iconst (v := 1) hx hb jd_il_13 (by decide) ?_
  refine lv_goto (tgt := 18) hx hb jd_il_14 (by decide) ?_
  exact W.zret (ty := .boolean) (v := 1) hx hb hr rfl (fun t ht _ => ⟨1, rfl, rfl, ht⟩) (fun _ h => by cases h) jd_il_18
theorem j_pcheck (l : Launch) (k : Nat) (hk : k < 38) (o : Option Nat) : Met l ({ cls := "jdk/internal/util/Preconditions", name := "checkIndex", desc := "(IILjava/util/function/BiFunction;)I" } : Jvm.MethodName) jw_pc ({ frames := 0, cells := 0, slots := 0, locals := 0 } : Room) (va_Pc [.int (nI k), .int (nI 38), va_rf o] (fun _ => True)) (vp_Si fun _ => True) 0 0 fA := by
  cases o with
  | none =>
    show Met l _ _ _ (va_Pc [.int (nI k), .int (nI 38), .null] _) _ _ _ _
    refine Met.ofW (cc := prog_32_method_11_code) (maxL := 3) (ret := (some .int)) (by decide) rfl ?_
    intro p e s m args below meth c s₁ B hml hv
    obtain ⟨rfl, -⟩ := hv
    have hx := B.exec
    have hb := B.bytes
    have hr := B.returns
    have hts := atoms_spec (ws := jw_pc) B.pre
    have hown : s.vm.findClass "jdk/internal/util/Preconditions" = some m.cls := findClass_of_methodNamed B.named
    have hlocks := B.notSynchronized
    have hS : va_S fA s.heap s.heap [] := va_S.rf
    have hl := lv_entry ([.int (nI k), .int (nI 38), .null]) (n := 3) (Nat.le_of_ble_eq_true rfl)
    rw [lg_entry_eq]
    generalize (lg_sl ([.int (nI k), .int (nI 38), .null]) ++ List.replicate (3 - (lg_sl ([.int (nI k), .int (nI 38), .null])).length) Slot.unset).toArray = ls at hl ⊢
    have hl : lv_has ls 3 [(0, .int (nI k)), (1, .int (nI 38)), (2, .null)] := hl
    refine lv_iload_n hx hb jd_pc_0 rfl (lv_at hl 0 rfl) ?_
    refine lv_if_lt (tgt := 9) hx hb jd_pc_1 (by decide) (fun z => absurd z (nI_pos (by omega))) (fun _ => ?_)
    refine lv_iload_n hx hb jd_pc_4 rfl (lv_at hl 0 rfl) ?_
    refine lv_iload_n hx hb jd_pc_5 rfl (lv_at hl 1 rfl) ?_
    refine lv_icmp_lt (tgt := 16) hx hb jd_pc_6 (by decide) (fun _ => ?_) (fun z => absurd (nI_lt hk (by decide)) z)
    refine lv_iload_n hx hb jd_pc_16 rfl (lv_at hl 0 rfl) ?_
    exact W.iret (v := nI k) hx hb hr (fun t ht _ => ⟨nI k, rfl, trivial, ht⟩) (fun _ h => by cases h) jd_pc_17
  | some t =>
    show Met l _ _ _ (va_Pc [.int (nI k), .int (nI 38), .ref t] _) _ _ _ _
    refine Met.ofW (cc := prog_32_method_11_code) (maxL := 3) (ret := (some .int)) (by decide) rfl ?_
    intro p e s m args below meth c s₁ B hml hv
    obtain ⟨rfl, -⟩ := hv
    have hx := B.exec
    have hb := B.bytes
    have hr := B.returns
    have hts := atoms_spec (ws := jw_pc) B.pre
    have hown : s.vm.findClass "jdk/internal/util/Preconditions" = some m.cls := findClass_of_methodNamed B.named
    have hlocks := B.notSynchronized
    have hS : va_S fA s.heap s.heap [] := va_S.rf
    have hl := lv_entry ([.int (nI k), .int (nI 38), .ref t]) (n := 3) (Nat.le_of_ble_eq_true rfl)
    rw [lg_entry_eq]
    generalize (lg_sl ([.int (nI k), .int (nI 38), .ref t]) ++ List.replicate (3 - (lg_sl ([.int (nI k), .int (nI 38), .ref t])).length) Slot.unset).toArray = ls at hl ⊢
    have hl : lv_has ls 3 [(0, .int (nI k)), (1, .int (nI 38)), (2, .ref t)] := hl
    refine lv_iload_n hx hb jd_pc_0 rfl (lv_at hl 0 rfl) ?_
    refine lv_if_lt (tgt := 9) hx hb jd_pc_1 (by decide) (fun z => absurd z (nI_pos (by omega))) (fun _ => ?_)
    refine lv_iload_n hx hb jd_pc_4 rfl (lv_at hl 0 rfl) ?_
    refine lv_iload_n hx hb jd_pc_5 rfl (lv_at hl 1 rfl) ?_
    refine lv_icmp_lt (tgt := 16) hx hb jd_pc_6 (by decide) (fun _ => ?_) (fun z => absurd (nI_lt hk (by decide)) z)
    refine lv_iload_n hx hb jd_pc_16 rfl (lv_at hl 0 rfl) ?_
    exact W.iret (v := nI k) hx hb hr (fun t ht _ => ⟨nI k, rfl, trivial, ht⟩) (fun _ h => by cases h) jd_pc_17
theorem zq_rf {C n d : String} {A : Nat → Prop} {U : State} {H : Heap} (h : va_Zq C n d A U H) : ∃ o : Option Nat, va_Z C n d (va_rf o) A U H := h.elim (fun q => ⟨none, q⟩) fun ⟨t, q⟩ => ⟨some t, q⟩
theorem rf_cat (o : Option Nat) : (va_rf o).category = 1 := by cases o <;> rfl
theorem j_check (l : Launch) (k : Nat) (hk : k < 38) : Met l ({ cls := "java/lang/String", name := "checkIndex", desc := "(II)V" } : Jvm.MethodName) jw_ci ({ frames := 1, cells := 0, slots := 0, locals := 22 } : Room) (va_Pc [.int (nI k), .int (nI 38)] (fun U => va_Zq "jdk/internal/util/Preconditions" "SIOOBE_FORMATTER" "Ljava/util/function/BiFunction;" fA U U.heap)) (va_Sv fun _ => True) 0 0 fA := by
  refine Met.ofW (cc := prog_23_method_155_code) (maxL := 2) (ret := none) (by decide) rfl ?_
  intro p e s m args below meth c s₁ B hml hv
  obtain ⟨rfl, hZ0⟩ := hv
  have hx := B.exec
  have hb := B.bytes
  have hr := B.returns
  have hts := atoms_spec (ws := jw_ci) B.pre
  have hown : s.vm.findClass "java/lang/String" = some m.cls := findClass_of_methodNamed B.named
  have hlocks := B.notSynchronized
  have hS : va_S fA s.heap s.heap [] := va_S.rf
  have hl := lv_entry ([.int (nI k), .int (nI 38)]) (n := 2) (Nat.le_of_ble_eq_true rfl)
  rw [lg_entry_eq]
  generalize (lg_sl ([.int (nI k), .int (nI 38)]) ++ List.replicate (2 - (lg_sl ([.int (nI k), .int (nI 38)])).length) Slot.unset).toArray = ls at hl ⊢
  have hl : lv_has ls 2 [(0, .int (nI k)), (1, .int (nI 38))] := hl
  obtain ⟨o, hZ⟩ := zq_rf hZ0
  refine lv_iload_n hx hb jd_ci_0 rfl (lv_at hl 0 rfl) ?_
  refine lv_iload_n hx hb jd_ci_1 rfl (lv_at hl 1 rfl) ?_
  refine va_gets hx hb hZ hS hown (hts _ (List.mem_of_getElem? (i := 1) rfl)) (fun _ h => h) jd_ci_2 ?_
  refine vp_callSi (W.runS (As := [.int (nI k), .int (nI 38), va_rf o]) (rest := []) ⟨hx, hb, hml, hown, hts⟩ (j_pcheck l k hk o) (va_cwS 3 hts (goodIn_p _ [5] rfl (by decide +kernel)) rfl rfl rfl (by decide +kernel) ⟨Nat.le_of_ble_eq_true rfl, Nat.le_of_ble_eq_true rfl⟩) ⟨fun a U g mk q => ⟨q.1, trivial⟩, fun U hU hW => ⟨rfl, trivial⟩⟩ rfl rfl hl.1 rfl (lv_room (Nat.le_of_ble_eq_true rfl)) jd_ci_5 ⟨Nat.zero_le _, Nat.zero_le _⟩) fun r _ => ?_
  refine lv_pop hx hb jd_ci_8 rfl ?_
  exact W.vret hx hb hr (fun t ht _ => ⟨rfl, trivial, ht⟩) (fun _ h => by cases h) jd_ci_9
theorem sx_ch : ∀ k, k < 38 → ((Int32.ofInt (ai_txt.getD k 0) &&& 255).toUInt32 % 65536).toInt32 = Int32.ofInt (ai_txt.getD k 0) ∧ Int32.ofInt (ai_txt.getD k 0) = nI (ai_txt.getD k 0).toNat ∧ (ai_txt.getD k 0).toNat < 65536 ∧ (Int32.ofInt (ai_txt.getD k 0)).toInt = ai_txt.getD k 0 := by decide +kernel
theorem sx_nar (k : Nat) (hk : k < 38) : narrow .char (.int (Int32.ofInt (ai_txt.getD k 0))) = .int (Int32.ofInt (ai_txt.getD k 0)) := by
  rw [(sx_ch k hk).2.1]
  exact (pk_charN (sx_ch k hk).2.2.1).1
theorem j_latin (l : Launch) (t k : Nat) (hk : k < 38) : Met l ({ cls := "java/lang/StringLatin1", name := "charAt", desc := "([BI)C" } : Jvm.MethodName) jw_la ({ frames := 2, cells := 0, slots := 0, locals := 43 } : Room) (va_Pc [.ref t, .int (nI k)] (fun U => va_T .byte t 38 sxT fA U U.heap ∧ va_Zq "jdk/internal/util/Preconditions" "SIOOBE_FORMATTER" "Ljava/util/function/BiFunction;" fA U U.heap)) (vp_Si fun r => r = Int32.ofInt (ai_txt.getD k 0)) 0 0 fA := by
  refine Met.ofW (cc := prog_24_method_2_code) (maxL := 2) (ret := (some .char)) (by decide) rfl ?_
  intro p e s m args below meth c s₁ B hml hv
  obtain ⟨rfl, hT, hZ⟩ := hv
  have hx := B.exec
  have hb := B.bytes
  have hr := B.returns
  have hts := atoms_spec (ws := jw_la) B.pre
  have hown : s.vm.findClass "java/lang/StringLatin1" = some m.cls := findClass_of_methodNamed B.named
  have hlocks := B.notSynchronized
  have hS : va_S fA s.heap s.heap [] := va_S.rf
  have hl := lv_entry ([.ref t, .int (nI k)]) (n := 2) (Nat.le_of_ble_eq_true rfl)
  rw [lg_entry_eq]
  generalize (lg_sl ([.ref t, .int (nI k)]) ++ List.replicate (2 - (lg_sl ([.ref t, .int (nI k)])).length) Slot.unset).toArray = ls at hl ⊢
  have hl : lv_has ls 2 [(0, .ref t), (1, .int (nI k))] := hl
  refine lv_iload_n hx hb jd_la_0 rfl (lv_at hl 1 rfl) ?_
  refine lv_aload_n hx hb jd_la_1 rfl (lv_at hl 0 rfl) ?_
  refine va_tlen (v := nI 38) hx hb hT hS rfl jd_la_2 ?_
  refine va_csv (W.runS (As := [.int (nI k), .int (nI 38)]) (rest := []) ⟨hx, hb, hml, hown, hts⟩ (j_check l k hk) (va_cwS 2 hts (goodIn_p _ [4, 9] rfl (by decide +kernel)) rfl rfl rfl (by decide +kernel) ⟨Nat.le_of_ble_eq_true rfl, Nat.le_of_ble_eq_true rfl⟩) ⟨fun a U g mk q => ⟨q.1, va_Zq_moved (u := U) (U := U.calling g mk a) (Vm.Alike.refl U.vm) q.2⟩, fun U hU hW => ⟨rfl, by dsimp only; rw [hU]; exact va_Zq_moved hW.alike hZ⟩⟩ rfl rfl hl.1 rfl (lv_room (Nat.le_of_ble_eq_true rfl)) jd_la_3 ⟨Nat.zero_le _, Nat.zero_le _⟩) fun _ => ?_
  refine lv_aload_n hx hb jd_la_6 rfl (lv_at hl 0 rfl) ?_
  refine lv_iload_n hx hb jd_la_7 rfl (lv_at hl 1 rfl) ?_
  refine va_tb (v := .int (Int32.ofInt (ai_txt.getD k 0))) hx hb hT hS (vp_in_nI hk (by decide)) (by rw [nI_clamp (by omega)]; rfl) jd_la_8 ?_
  refine lv_sipush (v := 255) hx hb jd_la_9 (by decide) ?_
  refine lv_iand hx hb jd_la_12 ?_
  refine lv_i2c (v := Int32.ofInt (ai_txt.getD k 0)) hx hb jd_la_13 (sx_ch k hk).1 ?_
  exact W.zret (ty := .char) hx hb hr (sx_nar k hk) (fun t ht _ => ⟨_, rfl, rfl, ht⟩) (fun _ h => by cases h) jd_la_14
def jw_cv1 : List Jvm.Cond := [(Jvm.Cond.methodLink "java/lang/String" (335 : Nat) ({ cls := "java/lang/String", name := "coder", desc := "()B" } : Jvm.MethodName)), (Jvm.Cond.instanceMethod ({ cls := "java/lang/String", name := "coder", desc := "()B" } : Jvm.MethodName)), (Jvm.Cond.selects "java/lang/String" ({ cls := "java/lang/String", name := "coder", desc := "()B" } : Jvm.MethodName) ({ cls := "java/lang/String", name := "coder", desc := "()B" } : Jvm.MethodName)), (Jvm.Cond.initialized "java/lang/String"), (Jvm.Cond.code ({ cls := "java/lang/String", name := "coder", desc := "()B" } : Jvm.MethodName) prog_23_method_152_code (1 : Nat) (Option.some Jvm.ClassFile.FieldType.byte)), (Jvm.Cond.fieldLink "java/lang/String" (38 : Nat) "java/lang/String" "COMPACT_STRINGS" "Z"), (Jvm.Cond.fieldLink "java/lang/String" (15 : Nat) "java/lang/String" "coder" "B")]
theorem jg_cv1 : ∀ w ∈ jw_cv1, w ∈ ai_gw := tk_mem (l := [((Jvm.Cond.methodLink "java/lang/String" (335 : Nat) ({ cls := "java/lang/String", name := "coder", desc := "()B" } : Jvm.MethodName)), 8, 98), ((Jvm.Cond.instanceMethod ({ cls := "java/lang/String", name := "coder", desc := "()B" } : Jvm.MethodName)), 8, 99), ((Jvm.Cond.selects "java/lang/String" ({ cls := "java/lang/String", name := "coder", desc := "()B" } : Jvm.MethodName) ({ cls := "java/lang/String", name := "coder", desc := "()B" } : Jvm.MethodName)), 8, 100), ((Jvm.Cond.initialized "java/lang/String"), 1, 16), ((Jvm.Cond.code ({ cls := "java/lang/String", name := "coder", desc := "()B" } : Jvm.MethodName) prog_23_method_152_code (1 : Nat) (Option.some Jvm.ClassFile.FieldType.byte)), 8, 101), ((Jvm.Cond.fieldLink "java/lang/String" (38 : Nat) "java/lang/String" "COMPACT_STRINGS" "Z"), 8, 102), ((Jvm.Cond.fieldLink "java/lang/String" (15 : Nat) "java/lang/String" "coder" "B"), 10, 142)]) (by decide +kernel)
def jw_cv2 : List Jvm.Cond := [(Jvm.Cond.methodLink "java/lang/String" (492 : Nat) ({ cls := "java/lang/String", name := "isLatin1", desc := "()Z" } : Jvm.MethodName)), (Jvm.Cond.instanceMethod ({ cls := "java/lang/String", name := "isLatin1", desc := "()Z" } : Jvm.MethodName)), (Jvm.Cond.selects "java/lang/String" ({ cls := "java/lang/String", name := "isLatin1", desc := "()Z" } : Jvm.MethodName) ({ cls := "java/lang/String", name := "isLatin1", desc := "()Z" } : Jvm.MethodName)), (Jvm.Cond.initialized "java/lang/String"), (Jvm.Cond.code ({ cls := "java/lang/String", name := "isLatin1", desc := "()Z" } : Jvm.MethodName) prog_23_method_154_code (1 : Nat) (Option.some Jvm.ClassFile.FieldType.boolean)), (Jvm.Cond.fieldLink "java/lang/String" (38 : Nat) "java/lang/String" "COMPACT_STRINGS" "Z"), (Jvm.Cond.fieldLink "java/lang/String" (15 : Nat) "java/lang/String" "coder" "B")]
theorem jg_cv2 : ∀ w ∈ jw_cv2, w ∈ ai_gw := tk_mem (l := [((Jvm.Cond.methodLink "java/lang/String" (492 : Nat) ({ cls := "java/lang/String", name := "isLatin1", desc := "()Z" } : Jvm.MethodName)), 8, 108), ((Jvm.Cond.instanceMethod ({ cls := "java/lang/String", name := "isLatin1", desc := "()Z" } : Jvm.MethodName)), 8, 109), ((Jvm.Cond.selects "java/lang/String" ({ cls := "java/lang/String", name := "isLatin1", desc := "()Z" } : Jvm.MethodName) ({ cls := "java/lang/String", name := "isLatin1", desc := "()Z" } : Jvm.MethodName)), 8, 110), ((Jvm.Cond.initialized "java/lang/String"), 1, 16), ((Jvm.Cond.code ({ cls := "java/lang/String", name := "isLatin1", desc := "()Z" } : Jvm.MethodName) prog_23_method_154_code (1 : Nat) (Option.some Jvm.ClassFile.FieldType.boolean)), 8, 111), ((Jvm.Cond.fieldLink "java/lang/String" (38 : Nat) "java/lang/String" "COMPACT_STRINGS" "Z"), 8, 102), ((Jvm.Cond.fieldLink "java/lang/String" (15 : Nat) "java/lang/String" "coder" "B"), 10, 142)]) (by decide +kernel)
def jw_cv3 : List Jvm.Cond := [(Jvm.Cond.methodLink "java/lang/String" (495 : Nat) ({ cls := "java/lang/StringLatin1", name := "charAt", desc := "([BI)C" } : Jvm.MethodName)), (Jvm.Cond.static ({ cls := "java/lang/StringLatin1", name := "charAt", desc := "([BI)C" } : Jvm.MethodName)), (Jvm.Cond.initialized "java/lang/StringLatin1"), (Jvm.Cond.code ({ cls := "java/lang/StringLatin1", name := "charAt", desc := "([BI)C" } : Jvm.MethodName) prog_24_method_2_code (2 : Nat) (Option.some Jvm.ClassFile.FieldType.char)), (Jvm.Cond.methodLink "java/lang/StringLatin1" (9 : Nat) ({ cls := "java/lang/String", name := "checkIndex", desc := "(II)V" } : Jvm.MethodName)), (Jvm.Cond.static ({ cls := "java/lang/String", name := "checkIndex", desc := "(II)V" } : Jvm.MethodName)), (Jvm.Cond.initialized "java/lang/String"), (Jvm.Cond.code ({ cls := "java/lang/String", name := "checkIndex", desc := "(II)V" } : Jvm.MethodName) prog_23_method_155_code (2 : Nat) (Option.none : Option Jvm.ClassFile.FieldType)), (Jvm.Cond.fieldLink "java/lang/String" (1053 : Nat) "jdk/internal/util/Preconditions" "SIOOBE_FORMATTER" "Ljava/util/function/BiFunction;"), (Jvm.Cond.methodLink "java/lang/String" (1059 : Nat) ({ cls := "jdk/internal/util/Preconditions", name := "checkIndex", desc := "(IILjava/util/function/BiFunction;)I" } : Jvm.MethodName)), (Jvm.Cond.static ({ cls := "jdk/internal/util/Preconditions", name := "checkIndex", desc := "(IILjava/util/function/BiFunction;)I" } : Jvm.MethodName)), (Jvm.Cond.initialized "jdk/internal/util/Preconditions"), (Jvm.Cond.code ({ cls := "jdk/internal/util/Preconditions", name := "checkIndex", desc := "(IILjava/util/function/BiFunction;)I" } : Jvm.MethodName) prog_32_method_11_code (3 : Nat) (Option.some Jvm.ClassFile.FieldType.int))]
theorem jg_cv3 : ∀ w ∈ jw_cv3, w ∈ ai_gw := tk_mem (l := [((Jvm.Cond.methodLink "java/lang/String" (495 : Nat) ({ cls := "java/lang/StringLatin1", name := "charAt", desc := "([BI)C" } : Jvm.MethodName)), 8, 112), ((Jvm.Cond.static ({ cls := "java/lang/StringLatin1", name := "charAt", desc := "([BI)C" } : Jvm.MethodName)), 8, 113), ((Jvm.Cond.initialized "java/lang/StringLatin1"), 1, 17), ((Jvm.Cond.code ({ cls := "java/lang/StringLatin1", name := "charAt", desc := "([BI)C" } : Jvm.MethodName) prog_24_method_2_code (2 : Nat) (Option.some Jvm.ClassFile.FieldType.char)), 8, 114), ((Jvm.Cond.methodLink "java/lang/StringLatin1" (9 : Nat) ({ cls := "java/lang/String", name := "checkIndex", desc := "(II)V" } : Jvm.MethodName)), 8, 115), ((Jvm.Cond.static ({ cls := "java/lang/String", name := "checkIndex", desc := "(II)V" } : Jvm.MethodName)), 8, 116), ((Jvm.Cond.initialized "java/lang/String"), 1, 16), ((Jvm.Cond.code ({ cls := "java/lang/String", name := "checkIndex", desc := "(II)V" } : Jvm.MethodName) prog_23_method_155_code (2 : Nat) (Option.none : Option Jvm.ClassFile.FieldType)), 8, 117), ((Jvm.Cond.fieldLink "java/lang/String" (1053 : Nat) "jdk/internal/util/Preconditions" "SIOOBE_FORMATTER" "Ljava/util/function/BiFunction;"), 8, 118), ((Jvm.Cond.methodLink "java/lang/String" (1059 : Nat) ({ cls := "jdk/internal/util/Preconditions", name := "checkIndex", desc := "(IILjava/util/function/BiFunction;)I" } : Jvm.MethodName)), 8, 120), ((Jvm.Cond.static ({ cls := "jdk/internal/util/Preconditions", name := "checkIndex", desc := "(IILjava/util/function/BiFunction;)I" } : Jvm.MethodName)), 8, 121), ((Jvm.Cond.initialized "jdk/internal/util/Preconditions"), 1, 18), ((Jvm.Cond.code ({ cls := "jdk/internal/util/Preconditions", name := "checkIndex", desc := "(IILjava/util/function/BiFunction;)I" } : Jvm.MethodName) prog_32_method_11_code (3 : Nat) (Option.some Jvm.ClassFile.FieldType.int)), 8, 122)]) (by decide +kernel)

theorem Met_z {l : Launch} {y : MethodName} {ws : List Jvm.Cond} {fr lo n : Nat} {Pc : Array Value → State → Prop} {Qc : Array Value → State → Outcome → State → Prop} {free : Addr → Prop} (h : Met l y ws ({ frames := fr, cells := 0, slots := 0, locals := lo } : Room) Pc Qc 0 0 free) : Met l y ws ({ frames := fr, cells := 0, slots := ai_cs (n + 0) - ai_cs n, locals := lo } : Room) Pc Qc 0 (ai_cs (n + 0) - ai_cs n) free := by
  rw [show ai_cs (n + 0) - ai_cs n = 0 from Nat.sub_self _]
  exact h
theorem fA_F {A : Nat → Prop} {s t : State} (ht : t.heap = s.heap) : va_F A s t := ⟨by rw [ht]; exact Nat.le_refl _, fun q _ _ => by rw [ht]⟩
theorem c_length (B : Nat) : ai_S (sxE B) i_J_length f_J_length := by
  intro l D cid B0 xa ad A n hr h Q hfl hE2 hM hSI hIH
  obtain ⟨rfl, hQ⟩ := hM
  refine Met_z (fr := 3) (lo := 100) ?_
  show Met l ({ cls := "java/lang/String", name := "length", desc := "()I" } : Jvm.MethodName) _ _ (va_Pc [.ref (xa 2)] _) _ _ _ _
  refine Met.ofW (cc := prog_23_method_54_code) (maxL := 1) (ret := some .int) (by decide) rfl ?_
  intro p e s m args below meth c s₁ B' hml hv
  obtain ⟨rfl, hB0, hW, hK, hEX⟩ := hv
  have hx := B'.exec
  have hb := B'.bytes
  have hrt := B'.returns
  have hts0 := atoms_spec (ws := Jvm.Cond.code ({ cls := "java/lang/String", name := "length", desc := "()I" } : Jvm.MethodName) prog_23_method_54_code 1 (some .int) :: ai_gw) B'.pre
  have hts : ∀ w ∈ ai_gw, w.before #[Value.ref (xa 2)] s = true := fun w hw => hts0 w (List.mem_cons_of_mem _ hw)
  have hown : s.vm.findClass "java/lang/String" = some m.cls := findClass_of_methodNamed B'.named
  have hlocks := B'.notSynchronized
  obtain ⟨-, -, e1, e2, e3, e4, e5, e6, e7, -⟩ := hEX
  have e2 := e2.narrow (B := fA) fA_n
  have e3 := e3.narrow (B := fA) fA_n
  have e4 := e4.narrow (B := fA) fA_n
  have e5 := e5.narrow (B := fA) fA_n
  have e6 := e6.narrow (B := fA) fA_n
  have hS : va_S fA s.heap s.heap [] := va_S.rf
  have hl := lv_entry ([.ref (xa 2)]) (n := 1) (Nat.le_of_ble_eq_true rfl)
  rw [lg_entry_eq]
  generalize (lg_sl ([.ref (xa 2)]) ++ List.replicate (1 - (lg_sl ([.ref (xa 2)])).length) Slot.unset).toArray = ls at hl ⊢
  have hl : lv_has ls 1 [(0, .ref (xa 2))] := hl
  refine lv_aload_n hx hb jd_le_0 rfl (lv_at hl 0 rfl) ?_
  refine vk_getf hx hb e4 hS hown (hts _ (tk_mem (l := [((Jvm.Cond.fieldLink "java/lang/String" (9 : Nat) "java/lang/String" "value" "[B"), 10, 141)]) (by decide +kernel) _ (List.mem_singleton.mpr rfl))) (fun _ h => h) jd_le_1 ?_
  refine va_tlen (v := nI 38) hx hb e5 hS rfl jd_le_4 ?_
  refine lv_aload_n hx hb jd_le_5 rfl (lv_at hl 0 rfl) ?_
  have hcell : ∃ cell : Cell, s.heap[xa 2]? = some cell ∧ cell.vm.isStatics = false ∧ s.vm.findClass "java/lang/String" = some cell.cls := by
    obtain ⟨cell, h1, h2, h3, -⟩ := e2
    exact ⟨cell, h1, h2, h3⟩
  refine vp_callSi (W.runV (C := "java/lang/String") (As := []) (rest := [.int (nI 38)]) ⟨hx, hb, hml, hown, fun w hw => hts w (jg_cv1 w hw)⟩ (j_coder l (xa 2)) (cwV 0 (fun w hw => hts w (jg_cv1 w hw)) (goodIn_p _ [4] rfl (by decide +kernel)) rfl rfl rfl (by decide +kernel) ⟨Nat.le_of_ble_eq_true rfl, Nat.le_of_ble_eq_true rfl⟩) ⟨fun a U g mk q => ⟨q.1, va_OF.moved (u := U) (U := U.calling g mk a) (Vm.Alike.refl U.vm) q.2.1, va_Z.moved (u := U) (U := U.calling g mk a) (Vm.Alike.refl U.vm) q.2.2⟩, hcell, fun U hU hW => ⟨rfl, by rw [hU]; exact e3.moved hW.alike, by rw [hU]; exact e6.moved hW.alike⟩⟩ rfl rfl hl.1 rfl (lv_room (Nat.le_of_ble_eq_true rfl)) jd_le_6 ⟨Nat.zero_le _, Nat.zero_le _⟩) fun r er => ?_
  subst er
  refine lv_ishr hx hb jd_le_9 ?_
  exact W.iret hx hb hrt (fun t ht _ => ⟨⟨_, (n, hr, h, ad), rfl, hQ, rfl, fun _ _ => rfl, hIH, by rw [ht]; exact hW⟩, fA_F ht⟩) (fun _ h => by cases h) jd_le_10
theorem c_charAt (B : Nat) : ai_S (sxE B) i_J_charAt f_J_charAt := by
  intro l D cid B0 xa ad A n hr h Q hfl hE2 hM hSI hIH
  obtain ⟨k, rfl, hk, hQ⟩ := hM
  refine Met_z (fr := 6) (lo := 200) ?_
  show Met l ({ cls := "java/lang/String", name := "charAt", desc := "(I)C" } : Jvm.MethodName) _ _ (va_Pc [.ref (xa 2), .int (Int32.ofInt (k : Int))] _) _ _ _ _
  rw [nI_int]
  refine Met.ofW (cc := prog_23_method_56_code) (maxL := 2) (ret := some .char) (by decide) rfl ?_
  intro p e s m args below meth c s₁ B' hml hv
  obtain ⟨rfl, hB0, hW, hK, hEX⟩ := hv
  have hx := B'.exec
  have hb := B'.bytes
  have hrt := B'.returns
  have hts0 := atoms_spec (ws := Jvm.Cond.code ({ cls := "java/lang/String", name := "charAt", desc := "(I)C" } : Jvm.MethodName) prog_23_method_56_code 2 (some .char) :: ai_gw) B'.pre
  have hts : ∀ w ∈ ai_gw, w.before #[Value.ref (xa 2), .int (nI k)] s = true := fun w hw => hts0 w (List.mem_cons_of_mem _ hw)
  have hown : s.vm.findClass "java/lang/String" = some m.cls := findClass_of_methodNamed B'.named
  have hlocks := B'.notSynchronized
  obtain ⟨-, -, e1, e2, e3, e4, e5, e6, e7, -⟩ := hEX
  have e2 := e2.narrow (B := fA) fA_n
  have e3 := e3.narrow (B := fA) fA_n
  have e4 := e4.narrow (B := fA) fA_n
  have e5 := e5.narrow (B := fA) fA_n
  have e6 := e6.narrow (B := fA) fA_n
  have e7 := va_Zq_narrow e7 (B := fA) fA_n
  have hS : va_S fA s.heap s.heap [] := va_S.rf
  have hl := lv_entry ([.ref (xa 2), .int (nI k)]) (n := 2) (Nat.le_of_ble_eq_true rfl)
  rw [lg_entry_eq]
  generalize (lg_sl ([.ref (xa 2), .int (nI k)]) ++ List.replicate (2 - (lg_sl ([.ref (xa 2), .int (nI k)])).length) Slot.unset).toArray = ls at hl ⊢
  have hl : lv_has ls 2 [(0, .ref (xa 2)), (1, .int (nI k))] := hl
  have hcell : ∃ cell : Cell, s.heap[xa 2]? = some cell ∧ cell.vm.isStatics = false ∧ s.vm.findClass "java/lang/String" = some cell.cls := by
    obtain ⟨cell, h1, h2, h3, -⟩ := e2
    exact ⟨cell, h1, h2, h3⟩
  refine lv_aload_n hx hb jd_ca_0 rfl (lv_at hl 0 rfl) ?_
  refine vp_callSi (W.runV (C := "java/lang/String") (As := []) (rest := []) ⟨hx, hb, hml, hown, fun w hw => hts w (jg_cv2 w hw)⟩ (j_isLatin1 l (xa 2)) (cwV 0 (fun w hw => hts w (jg_cv2 w hw)) (goodIn_p _ [4] rfl (by decide +kernel)) rfl rfl rfl (by decide +kernel) ⟨Nat.le_of_ble_eq_true rfl, Nat.le_of_ble_eq_true rfl⟩) ⟨fun a U g mk q => ⟨q.1, va_OF.moved (u := U) (U := U.calling g mk a) (Vm.Alike.refl U.vm) q.2.1, va_Z.moved (u := U) (U := U.calling g mk a) (Vm.Alike.refl U.vm) q.2.2⟩, hcell, fun U hU hW => ⟨rfl, by rw [hU]; exact e3.moved hW.alike, by rw [hU]; exact e6.moved hW.alike⟩⟩ rfl rfl hl.1 rfl (lv_room (Nat.le_of_ble_eq_true rfl)) jd_ca_1 ⟨Nat.zero_le _, Nat.zero_le _⟩) fun r er => ?_
  subst er
  refine lv_if_eq (tgt := 16) hx hb jd_ca_4 (by decide) (fun z => absurd z (by decide)) (fun _ => ?_)
  refine lv_aload_n hx hb jd_ca_7 rfl (lv_at hl 0 rfl) ?_
  refine vk_getf hx hb e4 hS hown (hts _ (tk_mem (l := [((Jvm.Cond.fieldLink "java/lang/String" (9 : Nat) "java/lang/String" "value" "[B"), 10, 141)]) (by decide +kernel) _ (List.mem_singleton.mpr rfl))) (fun _ h => h) jd_ca_8 ?_
  refine lv_iload_n hx hb jd_ca_11 rfl (lv_at hl 1 rfl) ?_
  refine vp_callSi (W.runS (As := [.ref (xa 3), .int (nI k)]) (rest := []) ⟨hx, hb, hml, hown, fun w hw => hts w (jg_cv3 w hw)⟩ (j_latin l (xa 3) k hk) (va_cwS 2 (fun w hw => hts w (jg_cv3 w hw)) (goodIn_p _ [3, 7, 12] rfl (by decide +kernel)) rfl rfl rfl (by decide +kernel) ⟨Nat.le_of_ble_eq_true rfl, Nat.le_of_ble_eq_true rfl⟩) ⟨fun a U g mk q => ⟨q.1, va_T.moved (u := U) (U := U.calling g mk a) (Vm.Alike.refl U.vm) q.2.1, va_Zq_moved (u := U) (U := U.calling g mk a) (Vm.Alike.refl U.vm) q.2.2⟩, fun U hU hW => ⟨rfl, by rw [hU]; exact e5.moved hW.alike, by rw [hU]; exact va_Zq_moved hW.alike e7⟩⟩ rfl rfl hl.1 rfl (lv_room (Nat.le_of_ble_eq_true rfl)) jd_ca_12 ⟨Nat.zero_le _, Nat.zero_le _⟩) fun r er => ?_
  subst er
  exact W.zret (ty := .char) hx hb hrt (sx_nar k hk) (fun t ht _ => ⟨⟨_, (n, hr, h, ad), rfl, (by dsimp only; rw [(sx_ch k hk).2.2.2]; exact hQ), rfl, fun _ _ => rfl, hIH, by rw [ht]; exact hW⟩, fA_F ht⟩) (fun _ h => by cases h) jd_ca_15
theorem c_XH (B : Nat) : ai_XH (sxE B) := ⟨⟨c_length B, ⟨(tk_mem (l := [((Jvm.Cond.code ({ cls := "java/lang/String", name := "length", desc := "()I" } : Jvm.MethodName) prog_23_method_54_code (1 : Nat) (Option.some Jvm.ClassFile.FieldType.int)), 8, 97)]) (by decide +kernel) _ (List.mem_singleton.mpr rfl)), (tk_mem (l := [((Jvm.Cond.initialized "java/lang/String"), 1, 16)]) (by decide +kernel) _ (List.mem_singleton.mpr rfl)), ⟨by decide +kernel, by decide +kernel, by decide +kernel⟩, (tk_mem (l := [((Jvm.Cond.instanceMethod ({ cls := "java/lang/String", name := "length", desc := "()I" } : Jvm.MethodName)), 8, 95)]) (by decide +kernel) _ (List.mem_singleton.mpr rfl)), (tk_mem (l := [((Jvm.Cond.selects "java/lang/String" ({ cls := "java/lang/String", name := "length", desc := "()I" } : Jvm.MethodName) ({ cls := "java/lang/String", name := "length", desc := "()I" } : Jvm.MethodName)), 8, 96)]) (by decide +kernel) _ (List.mem_singleton.mpr rfl)), Or.inr ⟨rfl, rfl⟩⟩⟩, c_charAt B, ⟨(tk_mem (l := [((Jvm.Cond.code ({ cls := "java/lang/String", name := "charAt", desc := "(I)C" } : Jvm.MethodName) prog_23_method_56_code (2 : Nat) (Option.some Jvm.ClassFile.FieldType.char)), 8, 107)]) (by decide +kernel) _ (List.mem_singleton.mpr rfl)), (tk_mem (l := [((Jvm.Cond.initialized "java/lang/String"), 1, 16)]) (by decide +kernel) _ (List.mem_singleton.mpr rfl)), ⟨by decide +kernel, by decide +kernel, by decide +kernel⟩, (tk_mem (l := [((Jvm.Cond.instanceMethod ({ cls := "java/lang/String", name := "charAt", desc := "(I)C" } : Jvm.MethodName)), 8, 105)]) (by decide +kernel) _ (List.mem_singleton.mpr rfl)), (tk_mem (l := [((Jvm.Cond.selects "java/lang/String" ({ cls := "java/lang/String", name := "charAt", desc := "(I)C" } : Jvm.MethodName) ({ cls := "java/lang/String", name := "charAt", desc := "(I)C" } : Jvm.MethodName)), 8, 106)]) (by decide +kernel) _ (List.mem_singleton.mpr rfl)), Or.inr ⟨rfl, rfl⟩⟩⟩
