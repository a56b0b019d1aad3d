/-! what is looked at, once, of a method's instructions; what is known at a method's start -/
/-- a callee: name, code, its locals, its answer, its answer's tag, frames, words of locals, cells that it makes, arguments (this one not), 0 virtual 1 static 2 maker, its class's place -/
abbrev ai_I := MethodName × ByteArray × Nat × Option FieldType × Nat × Nat × Nat × Nat × Nat × Nat × Nat
def ai_rtag : Option FieldType → Nat
  | none => 9
  | some .int => 0
  | some .long => 1
  | some .boolean => 3
  | some .char => 0
  | some (.object _) => 2
  | some (.array _) => 2
  | _ => 8
def ai_wf (own : String) (Kc : List Jvm.Cond) (d idx a b : Nat) : Bool := match ai_nth vwCl a, ai_nth Kc d with
  | some (C, T, N), some w => decide (b < N) && (decide (w = .fieldLink own idx C (T b).2.1 (T b).2.2.1) || decide (w = .fieldLinkNest own idx C (T b).2.1 (T b).2.2.1 "SuiteBench"))
  | _, _ => false
def ai_wp2 (own : String) (Kc : List Jvm.Cond) (d idx a b : Nat) (isInit : Bool) : Bool := match ai_nth vwCl a, ai_nth Kc d with
  | some (C, T, N), some w => decide (b < N) && (((!(T b).2.2.2) && (decide (w = .fieldLink own idx C (T b).2.1 (T b).2.2.1) || decide (w = .fieldLinkNest own idx C (T b).2.1 (T b).2.2.1 "SuiteBench"))) || ((T b).2.2.2 && isInit && decide (C = own) && decide (w = .fieldLink own idx C (T b).2.1 (T b).2.2.1)))
  | _, _ => false
def ai_wm (own : String) (Kc : List Jvm.Cond) (d idx : Nat) (y : MethodName) : Bool := match ai_nth Kc d with
  | some w => decide (w = .methodLink own idx y) || decide (w = .methodLinkNest own idx y "SuiteBench")
  | none => false
def ai_ct (own : String) (Kc : List Jvm.Cond) (cal : List ai_I) (fr lo kind : Nat) (idx a b d t : Nat) (z : Int) (tl : List (Int × Nat)) : Bool := match ai_nth cal a with
  | some (y, _, mL, ret, tag, f2, l2, al, na, k2, cls) => decide (ai_tl tl = cls) && ai_wm own Kc d idx y && decide (f2 + 1 ≤ fr) && decide (8 + (mL + 11) + l2 ≤ lo) && decide (z = (al : Int)) && decide (k2 = kind) && decide (b = (if kind = 1 then na else na + 1)) && decide (t = (if tag = 3 then 0 else tag)) && decide (tag = ai_rtag ret) && decide (tag ≠ 8)
  | none => false
def ai_chk (own : String) (cc : ByteArray) (nL : Nat) (Kc : List Jvm.Cond) (cal : List ai_I) (fr lo : Nat) (isInit : Bool) (rt : Option FieldType) (ci : CI) : Bool := match ci with
  | (pc, ins, len, a, b, d, t, z, tl) => decide (decode cc pc = .ok (ins, len)) && (match ins with
    | .iload i | .lload i | .aload i => decide (a = i) && decide (len = 2)
    | .istore i | .astore i => decide (a = i) && decide (len = 2) && decide (a < nL)
    | .lstore i => decide (a = i) && decide (len = 2) && decide (a + 1 < nL)
    | .iload_n k | .lload_n k | .aload_n k => decide (a = k.val) && decide (len = 1)
    | .istore_n k | .astore_n k => decide (a = k.val) && decide (len = 1) && decide (a < nL)
    | .lstore_n k => decide (a = k.val) && decide (len = 1) && decide (a + 1 < nL)
    | .iinc i c => decide (a = i) && decide (z = c) && decide (len = 3)
    | .iconst c => decide (z = c) && decide (len = 1) && decide (-1 ≤ z) && decide (z ≤ 5)
    | .bipush c => decide ((Int8.ofInt c).toInt32 = Int32.ofInt z) && decide (len = 2) && decide (-128 ≤ z) && decide (z ≤ 127)
    | .sipush c => decide ((Int16.ofInt c).toInt32 = Int32.ofInt z) && decide (len = 3) && decide (-32768 ≤ z) && decide (z ≤ 32767)
    | .ldc idx => (decide (t = 0) && decide (ai_nth Kc d = some (.constant own idx (Int32.ofInt z))) && decide (len = 2) && decide (-2147483648 ≤ z) && decide (z ≤ 2147483647)) || (decide (t = 1) && decide (own = "SuiteBenchModel") && decide (idx = 184) && decide (len = 2))
    | .ldc_w idx => decide (ai_nth Kc d = some (.constant own idx (Int32.ofInt z))) && decide (len = 3) && decide (-2147483648 ≤ z) && decide (z ≤ 2147483647)
    | .ldc2_w idx => decide (ai_nth Kc d = some (.constantLong own idx (Int64.ofInt z))) && decide (len = 3) && decide (-9223372036854775808 ≤ z) && decide (z ≤ 9223372036854775807)
    | .lconst k => decide (Int64.ofNat k.val = Int64.ofInt z) && decide (len = 1) && decide (0 ≤ z) && decide (z ≤ 1)
    | .iadd | .isub | .imul | .idiv | .irem | .iand | .ior | .ixor | .ishl | .ishr | .iushr | .i2l | .i2b | .ladd | .lsub | .lmul | .land | .lor | .lxor | .lshl | .lcmp | .dup | .dup2 | .pop | .iaload | .laload | .aaload | .iastore | .lastore | .aastore => decide (len = 1)
    | .baload => decide (len = 1) && (decide (t = 52) || decide (t = 53))
    | .bastore => decide (len = 1) && (decide (t = 52) || decide (t = 53))
    | .arraylength => decide (len = 1) && decide (50 ≤ t) && decide (t ≤ 54)
    | .if_icmp _ off => decide ((pc : Int) + off = (a : Int)) && decide (len = 3)
    | .ifCond _ off => decide ((pc : Int) + off = (a : Int)) && decide (len = 3)
    | .goto off => decide ((pc : Int) + off = (a : Int)) && decide (len = 3)
    | .tableswitch dflt lw hi offs => decide ((pc : Int) + dflt = (a : Int)) && decide (hi = lw + offs.size - 1) && decide (tl = offs.toList.zipIdx.map fun q => (lw + (q.2 : Int), ((pc : Int) + q.1).toNat)) && offs.toList.all fun q => decide (0 ≤ (pc : Int) + q)
    | .lookupswitch dflt ps => decide ((pc : Int) + dflt = (a : Int)) && (ps.toList.zip (ps.toList.drop 1)).all (fun (a, next) => a.1 < next.1) && decide (tl = ps.toList.map fun q => (q.1, ((pc : Int) + q.2).toNat)) && ps.toList.all fun q => decide (0 ≤ (pc : Int) + q.2)
    | .getfield idx => decide (len = 3) && ai_wf own Kc d idx a b && decide (z = (b : Int)) && decide (t = ai_ft a b) && decide (a < 13)
    | .putfield idx => decide (len = 3) && ai_wp2 own Kc d idx a b isInit && decide (z = (b : Int)) && decide (t = ai_ft a b) && decide (a < 13)
    | .new idx => decide (len = 3) && (match ai_nth vwCl a with
      | some (C, _, N) => decide (ai_nth Kc d = some (.classLink own idx C)) && decide (ai_nth Kc b = some (.instantiable C N)) && decide (ai_nth Kc t = some (.initialized C)) && decide (a < 13)
      | none => false)
    | .newarray ty => decide (len = 2) && (match t with
      | 50 => decide (newarray.typeOf ty = .int) && decide (ai_nth Kc d = some (.arrayClass .int))
      | 51 => decide (newarray.typeOf ty = .long) && decide (ai_nth Kc d = some (.arrayClass .long))
      | 52 => decide (newarray.typeOf ty = .boolean) && decide (ai_nth Kc d = some (.arrayClass .boolean))
      | 53 => decide (newarray.typeOf ty = .byte) && decide (ai_nth Kc d = some (.arrayClass .byte))
      | _ => false)
    | .anewarray idx => decide (len = 3) && decide (ai_nth Kc d = some (.classLink own idx "SuiteBench$Tests")) && decide (ai_nth Kc b = some (.arrayOver (.object "SuiteBench$Tests")))
    | .getstatic idx => decide (len = 3) && decide (ai_nth Kc d = some (.fieldLink own idx "SuiteBench$Suites" "MOST_HEADS" "[I"))
    | .invokevirtual idx => decide (len = 3) && ai_ct own Kc cal fr lo 0 idx a b d t z tl
    | .invokespecial idx => decide (len = 3) && (match t with
      | 30 => decide (ai_nth Kc d = some (.methodLink own idx Lib.objectInit)) && decide (1 ≤ fr) && decide (8 + 12 ≤ lo)
      | _ => ai_ct own Kc cal fr lo 2 idx a b d t z tl)
    | .invokestatic idx => decide (len = 3) && (match t with
      | 20 => decide (ai_nth Kc d = some (.methodLink own idx arraycopyName)) && decide (1 ≤ fr) && decide (8 + (nativeFrameWords "java/lang/System" "arraycopy" 5 + 11) ≤ lo)
      | 21 => decide (ai_nth Kc d = some (.methodLink own idx arraycopyName)) && decide (1 ≤ fr) && decide (8 + (nativeFrameWords "java/lang/System" "arraycopy" 5 + 11) ≤ lo)
      | 22 => decide (ai_nth Kc d = some (.methodLink own idx Lib.Math.max.name)) && decide (1 ≤ fr) && decide (21 ≤ lo)
      | 23 => decide (ai_nth Kc d = some (.methodLink own idx Lib.Math.min.name)) && decide (1 ≤ fr) && decide (21 ≤ lo)
      | _ => ai_ct own Kc cal fr lo 1 idx a b d t z tl)
    | .ireturn => decide (len = 1) && ((decide (t = 3) && decide (rt = some .boolean)) || (decide (t = 0) && decide (rt = some .int)))
    | .lreturn => decide (len = 1) && decide (rt = some .long)
    | .areturn => decide (len = 1) && (match rt with
      | some (.object _) => true
      | some (.array _) => true
      | _ => false)
    | .return_ => decide (len = 1) && decide (rt = none)
    | _ => false)
def ai_all (own : String) (cc : ByteArray) (nL : Nat) (Kc : List Jvm.Cond) (cal : List ai_I) (fr lo : Nat) (isInit : Bool) (rt : Option FieldType) (code : ai_C) : Bool := code.all fun l => l.all fun ci => ai_chk own cc nL Kc cal fr lo isInit rt ci
theorem find_mem {pc : Nat} {ci : CI} : ∀ (l : List CI), ai_find pc l = some ci → ci ∈ l ∧ ci.1 = pc
  | [], h => by simp [ai_find] at h
  | a :: l, h => by
    unfold ai_find at h
    cases hq : Nat.beq a.1 pc with
    | true =>
      rw [hq] at h
      cases h
      exact ⟨List.mem_cons_self, Nat.eq_of_beq_eq_true hq⟩
    | false =>
      rw [hq] at h
      obtain ⟨h1, h2⟩ := find_mem l h
      exact ⟨List.mem_cons_of_mem _ h1, h2⟩
theorem at_chk {own : String} {cc : ByteArray} {nL : Nat} {Kc : List Jvm.Cond} {cal : List ai_I} {fr lo : Nat} {isInit : Bool} {rt : Option FieldType} {code : ai_C} (h : ai_all own cc nL Kc cal fr lo isInit rt code = true) {pc : Nat} {ci : CI} (hq : ai_at code pc = some ci) : ai_chk own cc nL Kc cal fr lo isInit rt ci = true ∧ ci.1 = pc := by
  unfold ai_at at hq
  split at hq
  · rename_i l hl
    rw [nth_eq] at hl
    obtain ⟨h1, h2⟩ := find_mem l hq
    exact ⟨List.all_eq_true.mp (List.all_eq_true.mp h l (List.mem_of_getElem? hl)) ci h1, h2⟩
  · cases hq
/-- from outside: the heads' row, and what else -/
def ai_EX (E2 : (Nat → Nat) → State → Heap → Prop) (B0 : Nat) (xa : Nat → Nat) (U : State) (H : Heap) : Prop := va_Z "SuiteBench$Suites" "MOST_HEADS" "[I" (.ref (xa 1)) (fun q : Nat => B0 ≤ q) U H ∧ va_T .int (xa 1) 3 (fun j => .int (Int32.ofInt (ai_hd (j : Int)))) (fun q : Nat => B0 ≤ q) U H ∧ E2 xa U H
def ai_E2ok (B0 : Nat) (E2 : (Nat → Nat) → State → Heap → Prop) : Prop := (∀ xa (s U : State) (H : Heap), s.WarmedH U.vm → E2 xa s H → E2 xa U H) ∧ (∀ xa (U : State) (H H1 : Heap), (∀ q : Nat, q < H.size → ¬ B0 ≤ q → H1[q]? = H[q]?) → E2 xa U H → E2 xa U H1) ∧ (∀ xa (U : State) (H : Heap) (g : JFrame) (mk : MethodId) (a : Array Value), E2 xa U H → E2 xa (U.calling g mk a) H) ∧ (∀ xa (U : State) (H : Heap), E2 xa U H → vk_R "SuiteBenchModel" 184 "state input more arc twist extra seed " (xa 2) U ∧ ∃ cell : Cell, H[xa 2]? = some cell ∧ cell.vm.isStatics = false ∧ U.vm.findClass "java/lang/String" = some cell.cls)
def ai_Pw (E2 : (Nat → Nat) → State → Heap → Prop) (D : va_G) (cid : Nat → ClassId) (B0 : Nat) (xa ad : Nat → Nat) (n : Nat) (hr h : HP) (U : State) : Prop := B0 ≤ U.heap.size ∧ ai_W D cid B0 ad n hr h U.heap ∧ va_K D vwCl (ai_tys cid) U ∧ ai_EX E2 B0 xa U U.heap
abbrev ai_U := Nat × HP × HP × (Nat → Nat)
/-- the world behind a method that began with n cells at ad -/
def ai_Bw (D : va_G) (cid : Nat → ClassId) (B0 : Nat) (ad : Nat → Nat) (n al : Nat) (u : ai_U) (t : State) : Prop := u.1 = n + al ∧ (∀ c, c < n → u.2.2.2 c = ad c) ∧ ai_IH u.1 u.2.1 u.2.2.1 ∧ ai_W D cid B0 u.2.2.2 u.1 u.2.1 u.2.2.1 t.heap
def ai_Qc (tag : Nat) (D : va_G) (cid : Nat → ClassId) (B0 : Nat) (ad : Nat → Nat) (n al : Nat) (Q : RP) : Array Value → State → Outcome → State → Prop := match tag with
  | 0 => va_Qi (fun r (u : ai_U) => Q (0, r.toInt) u.1 u.2.1 u.2.2.1) (ai_Bw D cid B0 ad n al) (fun q : Nat => B0 ≤ q)
  | 3 => va_Qi (fun r (u : ai_U) => Q (0, r.toInt) u.1 u.2.1 u.2.2.1) (ai_Bw D cid B0 ad n al) (fun q : Nat => B0 ≤ q)
  | 1 => va_Ql (fun r (u : ai_U) => Q (1, r.toInt) u.1 u.2.1 u.2.2.1) (ai_Bw D cid B0 ad n al) (fun q : Nat => B0 ≤ q)
  | 9 => va_Qv (fun (u : ai_U) => Q (9, 0) u.1 u.2.1 u.2.2.1) (ai_Bw D cid B0 ad n al) (fun q : Nat => B0 ≤ q)
  | _ => va_Qq (fun r (u : ai_U) => ∃ x : Int, -1 ≤ x ∧ x < (u.1 : Int) ∧ r = ai_ro u.2.2.2 x ∧ Q (2, x) u.1 u.2.1 u.2.2.1) (ai_Bw D cid B0 ad n al) (fun q : Nat => B0 ≤ q)
/-- a method's contract: wherever the small machine's words hold, the real one does the same -/
def ai_S (E2 : (Nat → Nat) → State → Heap → Prop) (i : ai_I) (M : SP) : Prop := match i with
  | (y, cc, maxL, ret, tag, fr, lo, al, _, _, _) => ∀ (l : Launch) (D : va_G) (cid : Nat → ClassId) (B0 : Nat) (xa ad : Nat → Nat) (args : List AV) (n : Nat) (hr h : HP) (Q : RP), l.flags = flags0 → ai_E2ok B0 E2 → M args n hr h Q → ai_SI n args → ai_IH n hr h →
    Met l y (.code y cc maxL ret :: ai_gw) { frames := fr, cells := al, slots := ai_cs (n + al) - ai_cs n, locals := lo } (va_Pc (args.map (ai_cv ad xa)) (ai_Pw E2 D cid B0 xa ad n hr h)) (ai_Qc tag D cid B0 ad n al Q) al (ai_cs (n + al) - ai_cs n) (fun q : Nat => B0 ≤ q)
/-- the words that a call of it wants -/
def ai_CW (i : ai_I) : Prop := match i with
  | (y, cc, maxL, ret, _, _, _, _, na, kind, cls) => Jvm.Cond.code y cc maxL ret ∈ ai_gw ∧ Jvm.Cond.initialized y.cls ∈ ai_gw ∧ (y.cls ≠ "java/lang/invoke/MethodHandle" ∧ y.cls ≠ "java/lang/invoke/VarHandle" ∧ (parseMethodDescriptor y.desc).map (fun d => d.parameters.length) = some na) ∧ (match kind with
    | 0 => Jvm.Cond.instanceMethod y ∈ ai_gw ∧ Jvm.Cond.selects y.cls y y ∈ ai_gw ∧ ((∃ T N, vwCl[cls]? = some (y.cls, T, N)) ∨ (cls = 98 ∧ y.cls = "java/lang/String"))
    | 1 => Jvm.Cond.static y ∈ ai_gw
    | _ => Jvm.Cond.instanceMethod y ∈ ai_gw ∧ y.name = "<init>" ∧ ret = none)
