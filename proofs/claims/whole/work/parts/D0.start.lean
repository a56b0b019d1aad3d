-- deps: 01 02 03 04 05 06 07 08 09 10 11 12 13 14 15 16 17 18 19 20 21 22 23 24 25 26 27 28 29 30 31 32 33 34 35 36 37 38 39 40 41 42 43 44 45 46 47 48 49 50 51 52 53 54 55 56 57 58 59 60 61 62 63 64 65 66 67 68 69 70 71 72 73 74 75 76 77 78 79 80 81 82 83 84 85 86 87 88 89 90 91 92 93 94 95 96 97 98 99 9A 9B 9C 9D 9E 9F 9G 9H 9I 9J 9K 9L 9M 9N 9O 9P 9Q 9R 9S 9T 9U 9V 9W 9X 9Y 9Z A0 A1 A2 A3 A4 A5 A6 A7 B0 B1 B2 B3 B4 B5 B6 B7 B8 B9 BA BB BC BD BE C0 C1 C2 C3 C4 C5 C6 C7 C8
/-! the start of the law's walk -/
/-! THE CLAIM OUT OF ONE WALK OF THE LAW'S BODY. Your part is whole_start (and what it stands on); all else here is the same for every law, but numbers. -/
def R_law : String := "SuiteBenchLaw"
def lw_P (b : Addr) (xs : List Int32) (args : Array Value) (s : State) : Prop := args = #[.ref b] ∧ s.IntsAt b xs ∧ xs.length ≤ 3072 ∧ (Jvm.Cond.and given_1 narrow_1).before args s = true
def lw_Q (_ : Array Value) (s : State) (o : Outcome) (t : State) : Prop := o = .returned (some (.int 1)) ∧ Framed s o t [] 601024 7293034
def lw_Z (below : List Frame) (a : Array Value) (s : State) : State → Prop := fun t => ∃ o, t.status = .running ∧ Ended t below o ∧ lw_Q a s o t
/-- the law's own end, with 1 on the stack, nothing written that was there before, its room as the claim has it -/
theorem lw_ret {p : Program} {l : Launch} {e : Env} {s : State} {m : MethodId} {below : List Frame} {meth : Method} {c : Code} {b : Nat} (hx : p.tables.exec = Jvm.exec) (hb : c.code = code) (hr : meth.sig.returnType = ret) (hlocks : meth.locks = false) {pc : Nat} {H : Heap} {ls : Array Slot} (hdg : decode code pc = .ok (.ireturn, 1)) : W p l e room_1 s m #[Value.ref b] below meth c H [] 601024 7293034 (lw_Z below #[Value.ref b] s) (F0 m pc ls [.int 1]) := by
  intro T hT X
  obtain ⟨fs, hret, hrun, hended, hW, hframe⟩ := X.leave (v := some (.int 1)) (hlocks := hlocks) (fun h => by rw [hr] at h; cases h)
  have hmeth' : T.vm.method? m = some meth := X.method'
  refine ⟨T.setFrames fs, ?_, .returned (some (.int 1)), hrun, hended, rfl, ⟨_, rfl⟩, hW, hframe⟩
  jvm_step X.here [X.here.top, hx, hb, hdg, hmeth', hr, ret, narrow_b1]
  (try refine ⟨rfl, ?_⟩); (try refine ⟨rfl, ?_⟩)
  first | (intro acts; rw [hret _ acts rfl rfl rfl]) | rw [hret _ _ rfl rfl rfl]
  exact Steps.refl _
/-- what holds at the law's entry: the machine, the code, the tables' words (any of lw_tbl by 'hts w (by decide +kernel)'), the script of L ints xs at the cell b, what the Statement gives of the start (any of its parts by flat_of_before) -/
def lw_At (p : Program) (s : State) (m : MethodId) (meth : Method) (c : Code) (b L : Nat) (xs : Nat → Int32) : Prop :=
  p.tables.exec = Jvm.exec ∧ c.code = code ∧ meth.sig.returnType = ret ∧ c.maxLocals = 7 ∧ s.vm.findClass R_law = some m.cls ∧ (∀ w ∈ lw_tbl, w.before #[Value.ref b] s = true) ∧ va_X b L xs s s.heap ∧ b < s.heap.size ∧ meth.locks = false ∧ (Jvm.Cond.and given_1 narrow_1).before #[Value.ref b] s = true
theorem ws_K {s : State} {b : Nat} (hts : ∀ w ∈ lw_tbl, w.before #[Value.ref b] s = true) : ∃ (D : va_G) (cid : Nat → ClassId), va_K D vwCl (ai_tys cid) s := by
  have mk : ∀ k : Nat, ∃ q : ClassId × (Nat → Nat), ∀ r : vw_C, vwCl[k]? = some r → u_Kn s r.1 r.2.1 r.2.2 q.1 q.2 := by
    intro k
    match k with
    | 0 => obtain ⟨c, f, g⟩ := u_known (C := RX0) (T := TX0) (N := 3) (n := 3) hts iw_0 (hts (Jvm.Cond.instantiable "SuiteBench$Log" (3 : Nat)) (tb_mem (k := 2) (List.mem_of_getElem? (i := 235) (by decide +kernel)))); exact ⟨(c, f), fun r q => by cases q; exact g⟩
    | 1 => obtain ⟨c, f, g⟩ := u_known (C := RX1) (T := TX1) (N := 4) (n := 4) hts iw_1 (hts (Jvm.Cond.instantiable "SuiteBench$Machine" (4 : Nat)) (tb_mem (k := 1) (List.mem_of_getElem? (i := 151) (by decide +kernel)))); exact ⟨(c, f), fun r q => by cases q; exact g⟩
    | 2 => obtain ⟨c, f, g⟩ := u_known (C := RX2) (T := TX2) (N := 16) (n := 16) hts iw_2 (hts (Jvm.Cond.instantiable "SuiteBench$Mutants" (16 : Nat)) (tb_mem (k := 2) (List.mem_of_getElem? (i := 175) (by decide +kernel)))); exact ⟨(c, f), fun r q => by cases q; exact g⟩
    | 3 => obtain ⟨c, f, g⟩ := u_known (C := RX3) (T := TX3) (N := 12) (n := 12) hts iw_3 (hts (Jvm.Cond.instantiable "SuiteBench$Plan" (12 : Nat)) (tb_mem (k := 1) (List.mem_of_getElem? (i := 42) (by decide +kernel)))); exact ⟨(c, f), fun r q => by cases q; exact g⟩
    | 4 => obtain ⟨c, f, g⟩ := u_known (C := RX4) (T := TX4) (N := 10) (n := 10) hts iw_4 (hts (Jvm.Cond.instantiable "SuiteBench$Reader" (10 : Nat)) (tb_mem (k := 1) (List.mem_of_getElem? (i := 36) (by decide +kernel)))); exact ⟨(c, f), fun r q => by cases q; exact g⟩
    | 5 => obtain ⟨c, f, g⟩ := u_known (C := RX5) (T := TX5) (N := 11) (n := 11) hts iw_5 (hts (Jvm.Cond.instantiable "SuiteBench$Search" (11 : Nat)) (tb_mem (k := 2) (List.mem_of_getElem? (i := 17) (by decide +kernel)))); exact ⟨(c, f), fun r q => by cases q; exact g⟩
    | 6 => obtain ⟨c, f, g⟩ := u_known (C := RX6) (T := TX6) (N := 12) (n := 12) hts iw_6 (hts (Jvm.Cond.instantiable "SuiteBench$Suites" (12 : Nat)) (tb_mem (k := 2) (List.mem_of_getElem? (i := 57) (by decide +kernel)))); exact ⟨(c, f), fun r q => by cases q; exact g⟩
    | 7 => obtain ⟨c, f, g⟩ := u_known (C := RX7) (T := TX7) (N := 18) (n := 18) hts iw_7 (hts (Jvm.Cond.instantiable "SuiteBench$Suspects" (18 : Nat)) (tb_mem (k := 3) (List.mem_of_getElem? (i := 13) (by decide +kernel)))); exact ⟨(c, f), fun r q => by cases q; exact g⟩
    | 8 => obtain ⟨c, f, g⟩ := u_known (C := RX8) (T := TX8) (N := 10) (n := 10) hts iw_8 (hts (Jvm.Cond.instantiable "SuiteBench$Tests" (10 : Nat)) (tb_mem (k := 2) (List.mem_of_getElem? (i := 91) (by decide +kernel)))); exact ⟨(c, f), fun r q => by cases q; exact g⟩
    | 9 => obtain ⟨c, f, g⟩ := u_known (C := RX9) (T := TX9) (N := 12) (n := 12) hts iw_9 (hts (Jvm.Cond.instantiable "SuiteBench$Traits" (12 : Nat)) (tb_mem (k := 1) (List.mem_of_getElem? (i := 197) (by decide +kernel)))); exact ⟨(c, f), fun r q => by cases q; exact g⟩
    | 10 => obtain ⟨c, f, g⟩ := u_known (C := RX10) (T := TX10) (N := 6) (n := 6) hts iw_10 (hts (Jvm.Cond.instantiable "SuiteBench$Walk" (6 : Nat)) (tb_mem (k := 2) (List.mem_of_getElem? (i := 65) (by decide +kernel)))); exact ⟨(c, f), fun r q => by cases q; exact g⟩
    | 11 => obtain ⟨c, f, g⟩ := u_known (C := RX11) (T := TX11) (N := 16) (n := 16) hts iw_11 (hts (Jvm.Cond.instantiable "SuiteBench" (16 : Nat)) (tb_mem (k := 1) (List.mem_of_getElem? (i := 28) (by decide +kernel)))); exact ⟨(c, f), fun r q => by cases q; exact g⟩
    | 12 => obtain ⟨c, f, g⟩ := u_known (C := RX12) (T := TX12) (N := 70) (n := 70) hts iw_12 (hts (Jvm.Cond.instantiable "SuiteBenchModel" (70 : Nat)) (tb_mem (k := 7) (List.mem_of_getElem? (i := 35) (by decide +kernel)))); exact ⟨(c, f), fun r q => by cases q; exact g⟩
    | k + 13 => exact ⟨(0, id), fun r q => by simp [vwCl] at q⟩
  obtain ⟨D, hD⟩ := Classical.axiomOfChoice mk
  obtain ⟨c0, k0, m0, a0, b0, d0⟩ := Cond.arrayClass_spec (hts (Jvm.Cond.arrayClass Jvm.ClassFile.FieldType.int) (tb_mem (k := 1) (List.mem_of_getElem? (i := 112) (by decide +kernel))))
  obtain ⟨c1, k1, m1, a1, b1, d1⟩ := Cond.arrayClass_spec (hts (Jvm.Cond.arrayClass Jvm.ClassFile.FieldType.long) (tb_mem (k := 3) (List.mem_of_getElem? (i := 11) (by decide +kernel))))
  obtain ⟨c2, k2, m2, a2, b2, d2⟩ := Cond.arrayClass_spec (hts (Jvm.Cond.arrayClass Jvm.ClassFile.FieldType.boolean) (tb_mem (k := 2) (List.mem_of_getElem? (i := 233) (by decide +kernel))))
  obtain ⟨c3, k3, m3, a3, b3, d3⟩ := Cond.arrayClass_spec (hts (Jvm.Cond.arrayClass Jvm.ClassFile.FieldType.byte) (tb_mem (k := 1) (List.mem_of_getElem? (i := 111) (by decide +kernel))))
  obtain ⟨m4, c4, k4, a4, e4, b4, d4, f4⟩ := Cond.arrayOver_spec (hts (Jvm.Cond.arrayOver (Jvm.ClassFile.FieldType.object "SuiteBench$Tests")) (tb_mem (k := 2) (List.mem_of_getElem? (i := 63) (by decide +kernel))))
  refine ⟨(fun k => (D k).1, fun k => (D k).2), fun t => match t with | 0 => c0 | 1 => c1 | 2 => c2 | 3 => c3 | _ => c4, fun c q hq => hD c q hq, fun k q hq => ?_⟩
  match k, hq with
  | 0, hq => cases hq; exact ⟨fun n z => ⟨(fun k h => by cases h), k0, b0, m0, d0⟩, a0⟩
  | 1, hq => cases hq; exact ⟨fun n z => ⟨(fun k h => by cases h), k1, b1, m1, d1⟩, a1⟩
  | 2, hq => cases hq; exact ⟨fun n z => ⟨(fun k h => by cases h), k2, b2, m2, d2⟩, a2⟩
  | 3, hq => cases hq; exact ⟨fun n z => ⟨(fun k h => by cases h), k3, b3, m3, d3⟩, a3⟩
  | 4, hq => cases hq; exact ⟨fun n z => ⟨(fun k h => by cases h), k4, b4, m4, d4⟩, k4, m4, b4, d4, a4, f4⟩
  | k + 5, hq => simp [ai_tys] at hq
theorem ws_A (s : State) : ∀ a : Nat, a < s.heap.size → ¬ (fun q : Nat => s.heap.size ≤ q) a := fun a h => Nat.not_le.mpr h
abbrev ws_G : List Cond := flatC (Jvm.Cond.and given_1 narrow_1)
theorem ws_h : ∀ j : Nat, j < 3 → Cond.eq (.elem (.static "SuiteBench$Suites" "MOST_HEADS" "[I") (.int (Int32.ofNat j))) (.int (Int32.ofInt (ai_hd (j : Int)))) ∈ ws_G := by decide +kernel
theorem ws_t : ∀ j : Nat, j < 38 → Cond.eq (.elem (.field (.string "SuiteBenchModel" 184) "java/lang/String" "value" "[B") (.int (Int32.ofNat j))) (.int (Int32.ofInt (ai_txt.getD j 0))) ∈ ws_G := by decide +kernel
section
variable {s : State} {b : Nat} (hts : ∀ w ∈ lw_tbl, w.before #[Value.ref b] s = true) (hs : ∀ c ∈ ws_G, c.before #[Value.ref b] s = true)
theorem ws_heads : ∃ t : Nat, va_Z "SuiteBench$Suites" "MOST_HEADS" "[I" (.ref t) (fun q : Nat => s.heap.size ≤ q) s s.heap ∧ va_T .int t 3 (fun j => .int (Int32.ofInt (ai_hd (j : Int)))) (fun q : Nat => s.heap.size ≤ q) s s.heap := by
  obtain ⟨t, e, hT⟩ := va_Tof (args := #[Value.ref b]) (s := s) (tm := (.static "SuiteBench$Suites" "MOST_HEADS" "[I")) (ty := .int) (N := 3) (f := fun j => .int (Int32.ofInt (ai_hd (j : Int)))) (A := fun q : Nat => s.heap.size ≤ q) (by decide) (hs _ (by decide +kernel)) (va_eqt (hs _ (by decide +kernel))) (fun j hj => va_eqt (hs _ (ws_h j hj))) (ws_A s)
  exact ⟨t, va_Zref (hts (Jvm.Cond.laysStatic "SuiteBench$Suites" "MOST_HEADS" "[I") (tb_mem (k := 2) (List.mem_of_getElem? (i := 90) (by decide +kernel)))) (hts (Jvm.Cond.initialized "SuiteBench$Suites") (tb_mem (k := 1) (List.mem_of_getElem? (i := 8) (by decide +kernel)))) e (ws_A s), hT⟩
theorem ws_text : ∃ a t : Nat, vk_R "SuiteBenchModel" 184 "state input more arc twist extra seed " a s ∧ va_O "java/lang/String" a (sxA s.heap.size) s s.heap ∧ va_OF "java/lang/String" "coder" "B" (.int 0) a (sxA s.heap.size) s s.heap ∧ va_OF "java/lang/String" "value" "[B" (.ref t) a (sxA s.heap.size) s s.heap ∧ va_T .byte t 38 sxT (sxA s.heap.size) s s.heap := by
  obtain ⟨a, c, cA, kA, q1, q2, q3, q4, q5, q6, -⟩ := Cond.exactly_spec (args := #[Value.ref b]) (first := s) (o := none) (s := s) (idx := []) (t := (.string "SuiteBenchModel" 184)) (cls := "java/lang/String") (hs (Cond.exactly (.string "SuiteBenchModel" 184) "java/lang/String") (by decide +kernel))
  obtain ⟨t, e, hT⟩ := va_Tof (args := #[Value.ref b]) (s := s) (tm := (.field (.string "SuiteBenchModel" 184) "java/lang/String" "value" "[B")) (ty := .byte) (N := 38) (f := sxT) (A := sxA s.heap.size) (by decide) (hs _ (by decide +kernel)) (va_eqt (hs _ (by decide +kernel))) (fun j hj => va_eqt (hs _ (ws_t j hj))) (ws_A s)
  exact ⟨a, t, vk_R.of (hts (Jvm.Cond.stringRef "SuiteBenchModel" (184 : Nat) "state input more arc twist extra seed ") (tb_mem (k := 8) (List.mem_of_getElem? (i := 93) (by decide +kernel)))) q1, ⟨cA, q3, q5, by rw [q6]; exact q2, ws_A s a (Array.getElem?_eq_some_iff.mp q3).1⟩, vk_OFof q1 (va_eqt (hs _ (by decide +kernel))) (ws_A s), vk_OFof q1 e (ws_A s), hT⟩
theorem ws_133 : ∃ a : Nat, vk_R "SuiteBench" 133 "no such state or input" a s := by
  obtain ⟨a, c, cA, kA, q1, -⟩ := Cond.exactly_spec (args := #[Value.ref b]) (first := s) (o := none) (s := s) (idx := []) (t := .string "SuiteBench" 133) (cls := "java/lang/String") (hs (Cond.exactly (.string "SuiteBench" 133) "java/lang/String") (by decide +kernel))
  exact ⟨a, vk_R.of (hts (Jvm.Cond.stringRef "SuiteBench" (133 : Nat) "no such state or input") (tb_mem (k := 6) (List.mem_of_getElem? (i := 232) (by decide +kernel)))) q1⟩
theorem ws_140 : ∃ a : Nat, vk_R "SuiteBench" 140 "no such what" a s := by
  obtain ⟨a, c, cA, kA, q1, -⟩ := Cond.exactly_spec (args := #[Value.ref b]) (first := s) (o := none) (s := s) (idx := []) (t := .string "SuiteBench" 140) (cls := "java/lang/String") (hs (Cond.exactly (.string "SuiteBench" 140) "java/lang/String") (by decide +kernel))
  exact ⟨a, vk_R.of (hts (Jvm.Cond.stringRef "SuiteBench" (140 : Nat) "no such what") (tb_mem (k := 7) (List.mem_of_getElem? (i := 27) (by decide +kernel)))) q1⟩
theorem ws_compact : va_Z "java/lang/String" "COMPACT_STRINGS" "Z" (.int 1) (sxA s.heap.size) s s.heap := va_Zof (hts (Jvm.Cond.laysStatic "java/lang/String" "COMPACT_STRINGS" "Z") (tb_mem (k := 8) (List.mem_of_getElem? (i := 103) (by decide +kernel)))) (hts (Jvm.Cond.initialized "java/lang/String") (tb_mem (k := 1) (List.mem_of_getElem? (i := 16) (by decide +kernel)))) (va_eqi (hs _ (by decide +kernel))) (ws_A s)
theorem ws_form : va_Zq "jdk/internal/util/Preconditions" "SIOOBE_FORMATTER" "Ljava/util/function/BiFunction;" (sxA s.heap.size) s s.heap := va_Zqof (hts (Jvm.Cond.laysStatic "jdk/internal/util/Preconditions" "SIOOBE_FORMATTER" "Ljava/util/function/BiFunction;") (tb_mem (k := 8) (List.mem_of_getElem? (i := 119) (by decide +kernel)))) (hts (Jvm.Cond.initialized "jdk/internal/util/Preconditions") (tb_mem (k := 1) (List.mem_of_getElem? (i := 18) (by decide +kernel)))) (hs _ (by decide +kernel)) (ws_A s)
theorem ws_stack : vx_Zq Bundle.tN "UNASSIGNED_STACK" Bundle.steD (sxA s.heap.size) s s.heap := vx_Zqof (hts (Jvm.Cond.laysStatic "java/lang/Throwable" "UNASSIGNED_STACK" "[Ljava/lang/StackTraceElement;") (tb_mem (k := 6) (List.mem_of_getElem? (i := 219) (by decide +kernel)))) (hts (Jvm.Cond.initialized "java/lang/Throwable") (tb_mem (k := 1) (List.mem_of_getElem? (i := 20) (by decide +kernel)))) (hs (Cond.isRef (.static "java/lang/Throwable" "UNASSIGNED_STACK" "[Ljava/lang/StackTraceElement;")) (by decide +kernel)) (ws_A s)
theorem ws_supp : vx_Zq Bundle.tN "SUPPRESSED_SENTINEL" Bundle.listD (sxA s.heap.size) s s.heap := vx_Zqof (hts (Jvm.Cond.laysStatic "java/lang/Throwable" "SUPPRESSED_SENTINEL" "Ljava/util/List;") (tb_mem (k := 6) (List.mem_of_getElem? (i := 221) (by decide +kernel)))) (hts (Jvm.Cond.initialized "java/lang/Throwable") (tb_mem (k := 1) (List.mem_of_getElem? (i := 20) (by decide +kernel)))) (hs (Cond.isRef (.static "java/lang/Throwable" "SUPPRESSED_SENTINEL" "Ljava/util/List;")) (by decide +kernel)) (ws_A s)
theorem ws_nc : va_Nc "java/util/NoSuchElementException" "java/lang/IndexOutOfBoundsException" s := va_Nc.of (args := #[Value.ref b]) (hs _ (by decide +kernel))
theorem ws_W : ∀ w ∈ sxW, w.before #[] s = true := by
  refine sxW_at (A := #[Value.ref b]) ?_
  intro w hw
  simp only [sxW, List.mem_cons, List.not_mem_nil, or_false] at hw
  rcases hw with rfl | rfl | rfl | rfl | rfl
  · exact hts (Jvm.Cond.castable "java/lang/IndexOutOfBoundsException" "java/lang/IndexOutOfBoundsException") (tb_mem (k := 6) (List.mem_of_getElem? (i := 194) (by decide +kernel)))
  · exact hts (Jvm.Cond.castable "java/util/NoSuchElementException" "java/util/NoSuchElementException") (tb_mem (k := 7) (List.mem_of_getElem? (i := 20) (by decide +kernel)))
  · exact hts (Jvm.Cond.declares ({ cls := "java/lang/RuntimeException", name := "<init>", desc := "(Ljava/lang/String;)V" } : Jvm.MethodName)) (tb_mem (k := 6) (List.mem_of_getElem? (i := 196) (by decide +kernel)))
  · exact hts (Jvm.Cond.declares ({ cls := "java/lang/Exception", name := "<init>", desc := "(Ljava/lang/String;)V" } : Jvm.MethodName)) (tb_mem (k := 6) (List.mem_of_getElem? (i := 198) (by decide +kernel)))
  · exact hts (Jvm.Cond.declares ({ cls := "java/lang/Throwable", name := "<init>", desc := "(Ljava/lang/String;)V" } : Jvm.MethodName)) (tb_mem (k := 6) (List.mem_of_getElem? (i := 200) (by decide +kernel)))
end
theorem ws_cs : ∀ n : Nat, n ≤ 182 → ai_cs n ≤ 200000 := fun n h => Nat.le_trans (cs_mono h) cs_182
