/-! every step of the small machine is a step of the real one: the steps on the stack and the locals -/
section SND2
variable {p : Program} {l : Launch} {e : Env} {R : Room} {s : State} {m : MethodId} {args : Array Value} {below : List Frame} {meth : Method} {c : Code} {D : va_G} {cid : Nat → ClassId} {B0 : Nat} {xa : Nat → Nat} {nL n0 lim : Nat} {ad0 : Nat → Nat} {gx gy : Nat} {Qf : State → Prop} {cc : ByteArray}
/-- a step that leaves locals and cells -/
theorem sn_pure {pc pc' n : Nat} {L : List (Option AV)} {S S' : List AV} {hr h : HP} (k : ai_PS p l e R s m args below meth c D cid B0 xa nL n0 lim ad0 gx gy Qf pc' L S' n hr h) (hS : ai_LI n L → ai_SI n S → ai_SI n S')
    (g : ∀ (ad : Nat → Nat) (H : Heap) (locs : List Loc) (ls : Array Slot), ai_LR ad xa ls nL L → ai_SI n S → W p l e R s m args below meth c H locs (n - n0 + gx) (ai_cs n - ai_cs n0 + gy) Qf (F0 m pc' ls (S'.map (ai_cv ad xa))) → W p l e R s m args below meth c H locs (n - n0 + gx) (ai_cs n - ai_cs n0 + gy) Qf (F0 m pc ls (S.map (ai_cv ad xa)))) :
    ai_PS p l e R s m args below meth c D cid B0 xa nL n0 lim ad0 gx gy Qf pc L S n hr h :=
  fun ad H locs ls h1 h2 h3 h4 h5 h6 h7 h8 h9 => g ad H locs ls h6 h8 (k ad H locs ls h1 h2 h3 h4 h5 h6 h7 (hS h7 h8) h9)
theorem sn_istore {pc pc' n i : Nat} {L : List (Option AV)} {S S' : List AV} {hr h : HP} {v : AV} (k : ai_PS p l e R s m args below meth c D cid B0 xa nL n0 lim ad0 gx gy Qf pc' (ai_ist L i v) S' n hr h) (hv1 : ¬ v.1 = 1) (hS : ai_LI n L → ai_SI n S → ai_SI n S' ∧ ai_vr n v)
    (g : ∀ (ad : Nat → Nat) (H : Heap) (locs : List Loc) (ls : Array Slot), ai_LR ad xa ls nL L → ai_LI n L → ai_SI n S → (∀ ls' : Array Slot, lv_has ls' nL ((i, ai_cv ad xa v) :: (ai_ll ad xa 0 L).filter (fun q => !(q.1 == i) && !(q.1 + 1 == i && q.2.category == 2))) → W p l e R s m args below meth c H locs (n - n0 + gx) (ai_cs n - ai_cs n0 + gy) Qf (F0 m pc' ls' (S'.map (ai_cv ad xa)))) → W p l e R s m args below meth c H locs (n - n0 + gx) (ai_cs n - ai_cs n0 + gy) Qf (F0 m pc ls (S.map (ai_cv ad xa)))) :
    ai_PS p l e R s m args below meth c D cid B0 xa nL n0 lim ad0 gx gy Qf pc L S n hr h :=
  fun ad H locs ls h1 h2 h3 h4 h5 h6 h7 h8 h9 => g ad H locs ls h6 h7 h8 fun ls' hl => k ad H locs ls' h1 h2 h3 h4 h5 (LR_ist h6 hv1 hl) (LI_ist h7 (hS h7 h8).2) (hS h7 h8).1 h9
theorem sn_lstore {pc pc' n i : Nat} {L : List (Option AV)} {S S' : List AV} {hr h : HP} {v : AV} (k : ai_PS p l e R s m args below meth c D cid B0 xa nL n0 lim ad0 gx gy Qf pc' (ai_lst L i v) S' n hr h) (hi : i + 1 < nL) (hS : ai_SI n S → ai_SI n S' ∧ ai_vr n v)
    (g : ∀ (ad : Nat → Nat) (H : Heap) (locs : List Loc) (ls : Array Slot), ai_LR ad xa ls nL L → (∀ ls' : Array Slot, lv_has ls' nL ((i, ai_cv ad xa v) :: (ai_ll ad xa 0 L).filter (fun q => !(q.1 == i) && (!(q.1 == i + 1) && !(q.1 + 1 == i && q.2.category == 2)))) → W p l e R s m args below meth c H locs (n - n0 + gx) (ai_cs n - ai_cs n0 + gy) Qf (F0 m pc' ls' (S'.map (ai_cv ad xa)))) → W p l e R s m args below meth c H locs (n - n0 + gx) (ai_cs n - ai_cs n0 + gy) Qf (F0 m pc ls (S.map (ai_cv ad xa)))) :
    ai_PS p l e R s m args below meth c D cid B0 xa nL n0 lim ad0 gx gy Qf pc L S n hr h :=
  fun ad H locs ls h1 h2 h3 h4 h5 h6 h7 h8 h9 => g ad H locs ls h6 fun ls' hl => k ad H locs ls' h1 h2 h3 h4 h5 (LR_lst h6 hi hl) (LI_lst h7 (hS h8).2) (hS h8).1 h9
theorem LR_len {ad xa : Nat → Nat} {ls : Array Slot} {nL i : Nat} {L : List (Option AV)} {v : Option AV} (h : ai_LR ad xa ls nL L) (hi : ai_nth L i = some v) : i < nL := by
  rw [nth_eq] at hi
  rw [← h.1]
  exact (List.getElem?_eq_some_iff.mp hi).1
theorem u_and (x y : Int) : Int32.ofInt (i_and x y) = Int32.ofInt x &&& Int32.ofInt y := Int32.ofInt_toInt _
theorem e_add (x y : Int) : Int32.ofInt x + Int32.ofInt y = Int32.ofInt (w32 (x + y)) := by rw [w32_of, Int32.ofInt_add]
theorem e_sub (x y : Int) : Int32.ofInt x - Int32.ofInt y = Int32.ofInt (w32 (x - y)) := by rw [w32_of, Int32.ofInt_sub]
theorem e_mul (x y : Int) : Int32.ofInt x * Int32.ofInt y = Int32.ofInt (w32 (x * y)) := by rw [w32_of, Int32.ofInt_mul]
theorem f_add (x y : Int) : Int64.ofInt x + Int64.ofInt y = Int64.ofInt (w64 (x + y)) := by rw [w64_of, Int64.ofInt_add]
theorem f_sub (x y : Int) : Int64.ofInt x - Int64.ofInt y = Int64.ofInt (w64 (x - y)) := by rw [w64_of, Int64.ofInt_sub]
theorem f_mul (x y : Int) : Int64.ofInt x * Int64.ofInt y = Int64.ofInt (w64 (x * y)) := by rw [w64_of, Int64.ofInt_mul]
theorem e_zero {x : Int} (hx : i32 x) : Int32.ofInt x = 0 ↔ x = 0 := by
  have := e_eq hx (show i32 0 from ⟨by decide, by decide⟩)
  exact this
theorem f_cmp {x y : Int} (hx : i64 x) (hy : i64 y) : lg_cmp (Int64.ofInt x) (Int64.ofInt y) = Int32.ofInt (l_cmp x y) := by
  unfold lg_cmp l_cmp
  simp only [gt_iff_lt, Int64.lt_iff_toInt_lt, ← Int64.toInt_inj, of_i64 hx, of_i64 hy]
  by_cases h1 : y < x
  · rw [if_pos h1, if_neg (by omega), if_neg (by omega)]; rfl
  · rw [if_neg h1]
    by_cases h2 : x = y
    · rw [if_pos h2, if_neg (by omega), if_pos h2]; rfl
    · rw [if_neg h2, if_pos (by omega)]; rfl
theorem f_i2l {x : Int} (hx : i32 x) : (Int32.ofInt x).toInt64 = Int64.ofInt x := by
  apply Int64.toInt_inj.mp
  rw [Int32.toInt_toInt64, of_i32 hx, of_i64 ⟨by have := hx.1; omega, by have := hx.2; omega⟩]
/-- what stands at a start and stays -/
def ai_F (p : Program) (s : State) (m : MethodId) (args : Array Value) (meth : Method) (c : Code) (cc : ByteArray) (nL : Nat) (own : String) (isInit : Bool) (D : va_G) (cid : Nat → ClassId) (B0 : Nat) (xa : Nat → Nat) (E2 : (Nat → Nat) → State → Heap → Prop) (Kc : List Jvm.Cond) : Prop :=
  p.tables.exec = Jvm.exec ∧ c.code = cc ∧ c.maxLocals = nL ∧ s.vm.findClass own = some m.cls ∧ (∀ w ∈ ai_gw, w.before args s = true) ∧ (isInit = true → meth.name = "<init>") ∧ va_K D vwCl (ai_tys cid) s ∧ B0 ≤ s.heap.size ∧ ai_EX E2 B0 xa s s.heap ∧ ai_E2ok B0 E2 ∧ (∀ w ∈ Kc, w ∈ ai_gw)
def ai_XS (X : XE) (B0 : Nat) (xa : Nat → Nat) (s : State) : Prop := match X with
  | some (len, f) => ∃ (L : Nat) (xs : Nat → Int32), len = (L : Int) ∧ L < 2 ^ 31 ∧ va_X (xa 0) L xs s s.heap ∧ xa 0 < s.heap.size ∧ ¬ B0 ≤ xa 0 ∧ ∀ j : Nat, j < L → f (j : Int) = (xs j).toInt
  | none => True
end SND2
