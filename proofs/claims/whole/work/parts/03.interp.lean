/-! A small machine of its own over whole numbers: values with a tag, cells in order of making. Tags: 0 int, 1 long, 2 reference (the cell's number, -1: null), 4 an int array from outside, 5 a text. -/
abbrev AV := Nat × Int
abbrev HP := Int → Int → Int
abbrev KP := Nat → List (Option AV) → List AV → Nat → HP → HP → Prop
abbrev RP := AV → Nat → HP → HP → Prop
abbrev SP := List AV → Nat → HP → HP → RP → Prop
/-- pc, the instruction, its length, four numbers of its own, a number, targets -/
abbrev CI := Nat × Instr × Nat × Nat × Nat × Nat × Nat × Int × List (Int × Nat)
def ai_nth {α : Type} : List α → Nat → Option α
  | [], _ => none
  | a :: _, 0 => some a
  | _ :: l, k + 1 => ai_nth l k
def ai_set {α : Type} : List α → Nat → α → List α
  | [], _, _ => []
  | _ :: l, 0, v => v :: l
  | a :: l, k + 1, v => a :: ai_set l k v
/-- the shapes: kind (a class's place, or 50 int, 51 long, 52 boolean, 53 byte, 54 Tests), length -/
def ai_shl : List (Nat × Nat) := [(11, 16), (4, 10), (53, 700), (3, 12), (50, 8), (50, 3), (50, 24), (50, 24), (3, 12), (50, 8), (50, 3), (50, 24), (50, 24), (1, 4), (50, 24), (50, 24), (1, 4), (50, 24), (50, 24), (9, 12), (50, 6), (50, 36), (50, 6), (50, 6), (50, 36), (50, 6), (50, 6), (5, 11), (50, 3280), (50, 3280), (50, 8192), (50, 6), (50, 3), (50, 64), (50, 64), (6, 12), (54, 8), (50, 13650), (50, 4550), (50, 4550), (50, 4550), (50, 240), (10, 6), (50, 6), (50, 6), (50, 4550), (8, 10), (50, 494), (50, 494), (50, 494), (50, 95), (50, 95), (50, 95), (8, 10), (50, 494), (50, 494), (50, 494), (50, 95), (50, 95), (50, 95), (8, 10), (50, 1508), (50, 1508), (50, 1508), (50, 290), (50, 290), (50, 290), (8, 10), (50, 1508), (50, 1508), (50, 1508), (50, 290), (50, 290), (50, 290), (8, 10), (50, 4550), (50, 4550), (50, 4550), (50, 875), (50, 875), (50, 875), (8, 10), (50, 4550), (50, 4550), (50, 4550), (50, 875), (50, 875), (50, 875), (8, 10), (50, 253), (50, 253), (50, 253), (50, 1), (50, 1), (50, 1), (8, 10), (50, 253), (50, 253), (50, 253), (50, 1), (50, 1), (50, 1), (2, 16), (1, 4), (50, 24), (50, 24), (1, 4), (50, 24), (50, 24), (50, 252), (52, 252), (50, 4), (50, 4), (50, 2), (50, 4), (50, 4), (50, 7000), (50, 8), (0, 3), (50, 20), (51, 20), (7, 18), (1, 4), (50, 24), (50, 24), (50, 253), (50, 40), (50, 16), (50, 640), (50, 640), (50, 400), (50, 400), (50, 40), (50, 480), (50, 24), (0, 3), (50, 20), (51, 20), (12, 70), (50, 700), (50, 10), (50, 16), (50, 6), (50, 36), (50, 36), (50, 48), (50, 48), (50, 96), (50, 96), (50, 6), (50, 64), (50, 64), (52, 64), (50, 36), (50, 16), (50, 6), (50, 800), (50, 2), (52, 2), (52, 18), (50, 6), (50, 7800), (50, 6), (52, 1300), (50, 16), (52, 4), (50, 12), (52, 4), (50, 54), (50, 9), (50, 9), (50, 3), (52, 3), (51, 5200), (51, 4), (50, 2), (50, 40), (51, 40), (50, 253), (51, 40), (50, 1008), (51, 1)]
def ai_k (x : Int) : Nat := ((ai_nth ai_shl x.toNat).getD (99, 0)).1
def ai_l (x : Int) : Int := (((ai_nth ai_shl x.toNat).getD (99, 0)).2 : Int)
def ai_ok (n : Nat) (x : Int) (k : Nat) : Prop := 0 ≤ x ∧ x < (n : Int) ∧ ai_k x = k
def ai_up (h : HP) (x i v : Int) : HP := fun c j => if c = x ∧ j = i then v else h c j
def ai_cl (h : HP) (x v : Int) : HP := fun c j => if c = x then v else h c j
def ai_cp (h : HP) (s sp d dp len : Int) : HP := fun c j => if c = d ∧ dp ≤ j ∧ j < dp + len then h s (sp + (j - dp)) else h c j
def w32 (x : Int) : Int := (Int32.ofInt x).toInt
def w64 (x : Int) : Int := (Int64.ofInt x).toInt
def i_div (x y : Int) : Int := (Int32.ofInt x / Int32.ofInt y).toInt
def i_rem (x y : Int) : Int := (Int32.ofInt x - Int32.ofInt x / Int32.ofInt y * Int32.ofInt y).toInt
def i_and (x y : Int) : Int := (Int32.ofInt x &&& Int32.ofInt y).toInt
def i_or (x y : Int) : Int := (Int32.ofInt x ||| Int32.ofInt y).toInt
def i_xor (x y : Int) : Int := (Int32.ofInt x ^^^ Int32.ofInt y).toInt
def i_shl (x y : Int) : Int := (Int32.ofInt x <<< (Int32.ofInt y &&& 31)).toInt
def i_shr (x y : Int) : Int := (Int32.ofInt x >>> (Int32.ofInt y &&& 31)).toInt
def i_ushr (x y : Int) : Int := ((Int32.ofInt x).toUInt32 >>> ((Int32.ofInt y).toUInt32 &&& Int32.toUInt32 31)).toInt32.toInt
def i_max (x y : Int) : Int := if x < y then y else x
def i_min (x y : Int) : Int := if y < x then y else x
def i_b8 (x : Int) : Int := (Int32.ofInt x).toInt8.toInt32.toInt
def l_and (x y : Int) : Int := (Int64.ofInt x &&& Int64.ofInt y).toInt
def l_or (x y : Int) : Int := (Int64.ofInt x ||| Int64.ofInt y).toInt
def l_xor (x y : Int) : Int := (Int64.ofInt x ^^^ Int64.ofInt y).toInt
def l_shl (x y : Int) : Int := (Int64.ofInt x <<< ((Int32.ofInt y).toInt64 &&& 63)).toInt
def l_cmp (x y : Int) : Int := if x < y then -1 else if x = y then 0 else 1
/-- a long's second half goes when its first place is written anew -/
def ai_clr (L : List (Option AV)) (i : Nat) : List (Option AV) := match ai_nth L i with
  | some (some (1, _)) => ai_set L i none
  | _ => L
def ai_clp (L : List (Option AV)) : Nat → List (Option AV)
  | 0 => L
  | k + 1 => ai_clr L k
def ai_ist (L : List (Option AV)) (i : Nat) (v : AV) : List (Option AV) := ai_set (ai_clp L i) i (some v)
def ai_lst (L : List (Option AV)) (i : Nat) (v : AV) : List (Option AV) := ai_set (ai_set (ai_clp L i) i (some v)) (i + 1) none
def ai_lint (L : List (Option AV)) (i : Nat) (k : Int → Prop) : Prop := match ai_nth L i with
  | some (some (0, x)) => k x
  | _ => False
def ai_llong (L : List (Option AV)) (i : Nat) (k : Int → Prop) : Prop := match ai_nth L i with
  | some (some (1, x)) => k x
  | _ => False
def ai_lref (L : List (Option AV)) (i : Nat) (k : AV → Prop) : Prop := match ai_nth L i with
  | some (some (2, x)) => k (2, x)
  | some (some (4, x)) => k (4, x)
  | _ => False
def ai_i1 (S : List AV) (k : Int → List AV → Prop) : Prop := match S with
  | (0, x) :: R => k x R
  | _ => False
def ai_i2 (S : List AV) (k : Int → Int → List AV → Prop) : Prop := match S with
  | (0, y) :: (0, x) :: R => k x y R
  | _ => False
def ai_l1 (S : List AV) (k : Int → List AV → Prop) : Prop := match S with
  | (1, x) :: R => k x R
  | _ => False
def ai_l2 (S : List AV) (k : Int → Int → List AV → Prop) : Prop := match S with
  | (1, y) :: (1, x) :: R => k x y R
  | _ => False
def ai_r1 (S : List AV) (k : Int → List AV → Prop) : Prop := match S with
  | (2, x) :: R => k x R
  | _ => False
def ai_if (c : Jvm.ClassFile.Cond) (x y : Int) (T F : Prop) : Prop := match c with
  | .eq => (x = y → T) ∧ (x ≠ y → F)
  | .ne => (x ≠ y → T) ∧ (x = y → F)
  | .lt => (x < y → T) ∧ (y ≤ x → F)
  | .ge => (y ≤ x → T) ∧ (x < y → F)
  | .gt => (y < x → T) ∧ (x ≤ y → F)
  | .le => (x ≤ y → T) ∧ (y < x → F)
def ai_sw (x : Int) : List (Int × Nat) → (Nat → Prop) → Prop → Prop
  | [], _, D => D
  | (v, t) :: l, K, D => (x = v → K t) ∧ (x ≠ v → ai_sw x l K D)
def ai_pop : Nat → List AV → List AV → (List AV → List AV → Prop) → Prop
  | 0, A, R, k => k A R
  | n + 1, A, v :: R, k => ai_pop n (v :: A) R k
  | _ + 1, _, [], _ => False
/-- from outside: the script (length, values), and the heads' row -/
abbrev XE := Option (Int × (Int → Int))
def ai_hd (i : Int) : Int := if i = 0 then 19 else if i = 1 then 58 else 175
def ai_ild (X : XE) (n : Nat) (h : HP) (S : List AV) (k : Int → List AV → Prop) : Prop := match S with
  | (0, i) :: (2, x) :: R => ai_ok n x 50 ∧ 0 ≤ i ∧ i < ai_l x ∧ k (h x i) R
  | (0, i) :: (4, 0) :: R => (match X with
    | some (len, f) => 0 ≤ i ∧ i < len ∧ k (f i) R
    | none => False)
  | (0, i) :: (4, 1) :: R => 0 ≤ i ∧ i < 3 ∧ k (ai_hd i) R
  | _ => False
def ai_aln (X : XE) (n : Nat) (kd : Nat) (S : List AV) (k : Int → List AV → Prop) : Prop := match S with
  | (2, x) :: R => ai_ok n x kd ∧ k (ai_l x) R
  | (4, 0) :: R => (match X with
    | some (len, _) => k len R
    | none => False)
  | _ => False
def ai_ald (kd n : Nat) (S : List AV) (k : Int → Int → List AV → Prop) : Prop := match S with
  | (0, i) :: (2, x) :: R => ai_ok n x kd ∧ 0 ≤ i ∧ i < ai_l x ∧ k x i R
  | _ => False
def ai_ast (kd n : Nat) (S : List AV) (k : Int → Int → Int → List AV → Prop) : Prop := match S with
  | (0, v) :: (0, i) :: (2, x) :: R => ai_ok n x kd ∧ 0 ≤ i ∧ i < ai_l x ∧ k x i v R
  | _ => False
def ai_lsa (n : Nat) (S : List AV) (k : Int → Int → Int → List AV → Prop) : Prop := match S with
  | (1, v) :: (0, i) :: (2, x) :: R => ai_ok n x 51 ∧ 0 ≤ i ∧ i < ai_l x ∧ k x i v R
  | _ => False
def ai_asa (n : Nat) (S : List AV) (k : Int → Int → Int → List AV → Prop) : Prop := match S with
  | (2, v) :: (0, i) :: (2, x) :: R => ai_ok n x 54 ∧ ai_ok n v 8 ∧ 0 ≤ i ∧ i < ai_l x ∧ k x i v R
  | _ => False
def ai_cpy (kd n : Nat) (S : List AV) (k : Int → Int → Int → Int → Int → List AV → Prop) : Prop := match S with
  | (0, len) :: (0, dp) :: (2, d) :: (0, sp) :: (2, s) :: R => ai_ok n s kd ∧ ai_ok n d kd ∧ 0 ≤ sp ∧ 0 ≤ dp ∧ 0 ≤ len ∧ sp + len ≤ ai_l s ∧ dp + len ≤ ai_l d ∧ k s sp d dp len R
  | _ => False
def ai_put (t n : Nat) (h hr : HP) (b : Int) (cls : Nat) (S : List AV) (k : List AV → HP → HP → Prop) : Prop := match t, S with
  | 0, (0, v) :: (2, x) :: R => ai_ok n x cls ∧ k R hr (ai_up h x b v)
  | 1, (1, v) :: (2, x) :: R => ai_ok n x cls ∧ k R hr (ai_up h x b v)
  | 2, (2, v) :: (2, x) :: R => ai_ok n x cls ∧ k R (ai_up hr x b v) h
  | 3, (0, v) :: (2, x) :: R => ai_ok n x cls ∧ (v = 0 ∨ v = 1) ∧ k R hr (ai_up h x b v)
  | _, _ => False
def ai_get (t : Nat) (h hr : HP) (x b : Int) : AV := match t with
  | 0 => (0, h x b)
  | 1 => (1, h x b)
  | 3 => (0, h x b)
  | _ => (2, hr x b)
def ai_cat1 (v : AV) : Prop := match v with
  | (0, _) => True
  | (2, _) => True
  | _ => False
def ai_c1 (v : AV) (k : Prop) : Prop := match v with
  | (0, _) => k
  | (2, _) => k
  | _ => False
def ai_d1 (S : List AV) (k : AV → List AV → Prop) : Prop := match S with
  | v :: R => ai_c1 v (k v R)
  | _ => False
def ai_d2 (S : List AV) (k : AV → AV → List AV → Prop) : Prop := match S with
  | v :: u :: R => ai_c1 v (ai_c1 u (k v u R))
  | _ => False
def ai_push (t : Nat) (r : AV) (R : List AV) : List AV := match t with
  | 9 => R
  | _ => (t, r.2) :: R
def ai_ret0 (S : List AV) (k : Int → Prop) : Prop := match S with
  | (0, x) :: [] => k x
  | _ => False
def ai_ret1 (S : List AV) (k : Int → Prop) : Prop := match S with
  | (1, x) :: [] => k x
  | _ => False
def ai_ret2 (S : List AV) (k : Int → Prop) : Prop := match S with
  | (2, x) :: [] => k x
  | _ => False
def ai_ret9 (S : List AV) (k : Prop) : Prop := match S with
  | [] => k
  | _ => False
def ai_tl : List (Int × Nat) → Nat
  | (_, k) :: _ => k
  | [] => 99
/-- the receiver's kind; room for what a call makes; four values at most stay below -/
def ai_rc (d n : Nat) (A : List AV) : Prop := match A with
  | (2, x) :: _ => ai_ok n x d
  | (5, _) :: _ => d = 98
  | _ => False
def ai_bd (z : Int) (n lim : Nat) (k : Prop) : Prop := match z with
  | 0 => k
  | _ => (n : Int) + z ≤ (lim : Int) ∧ k
def ai_k8 (R : List AV) (k : Prop) : Prop := match R with
  | [] => k
  | [_] => k
  | [_, _] => k
  | [_, _, _] => k
  | [_, _, _, _] => k
  | _ => False
/-- one step -/
def ai_st (orc : Nat → SP) (lim : Nat) (X : XE) (ci : CI) (K : KP) (L : List (Option AV)) (S : List AV) (n : Nat) (hr h : HP) (Q : RP) : Prop := match ci with
  | (pc, ins, len, a, b, d, t, z, tl) => match ins with
    | .iload _ => ai_lint L a fun x => K (pc + len) L ((0, x) :: S) n hr h
    | .iload_n _ => ai_lint L a fun x => K (pc + len) L ((0, x) :: S) n hr h
    | .lload _ => ai_llong L a fun x => K (pc + len) L ((1, x) :: S) n hr h
    | .lload_n _ => ai_llong L a fun x => K (pc + len) L ((1, x) :: S) n hr h
    | .aload _ => ai_lref L a fun x => K (pc + len) L (x :: S) n hr h
    | .aload_n _ => ai_lref L a fun x => K (pc + len) L (x :: S) n hr h
    | .istore _ => ai_i1 S fun x R => K (pc + len) (ai_ist L a (0, x)) R n hr h
    | .istore_n _ => ai_i1 S fun x R => K (pc + len) (ai_ist L a (0, x)) R n hr h
    | .astore _ => ai_r1 S fun x R => K (pc + len) (ai_ist L a (2, x)) R n hr h
    | .astore_n _ => ai_r1 S fun x R => K (pc + len) (ai_ist L a (2, x)) R n hr h
    | .lstore _ => ai_l1 S fun x R => K (pc + len) (ai_lst L a (1, x)) R n hr h
    | .lstore_n _ => ai_l1 S fun x R => K (pc + len) (ai_lst L a (1, x)) R n hr h
    | .iinc _ _ => ai_lint L a fun x => K (pc + len) (ai_ist L a (0, w32 (x + z))) S n hr h
    | .iconst _ => K (pc + len) L ((0, z) :: S) n hr h
    | .bipush _ => K (pc + len) L ((0, z) :: S) n hr h
    | .sipush _ => K (pc + len) L ((0, z) :: S) n hr h
    | .ldc _ => (match t with
      | 0 => K (pc + len) L ((0, z) :: S) n hr h
      | _ => K (pc + len) L ((5, z) :: S) n hr h)
    | .ldc_w _ => K (pc + len) L ((0, z) :: S) n hr h
    | .ldc2_w _ => K (pc + len) L ((1, z) :: S) n hr h
    | .lconst _ => K (pc + len) L ((1, z) :: S) n hr h
    | .iadd => ai_i2 S fun x y R => K (pc + len) L ((0, w32 (x + y)) :: R) n hr h
    | .isub => ai_i2 S fun x y R => K (pc + len) L ((0, w32 (x - y)) :: R) n hr h
    | .imul => ai_i2 S fun x y R => K (pc + len) L ((0, w32 (x * y)) :: R) n hr h
    | .idiv => ai_i2 S fun x y R => y ≠ 0 ∧ K (pc + len) L ((0, i_div x y) :: R) n hr h
    | .irem => ai_i2 S fun x y R => y ≠ 0 ∧ K (pc + len) L ((0, i_rem x y) :: R) n hr h
    | .iand => ai_i2 S fun x y R => K (pc + len) L ((0, i_and x y) :: R) n hr h
    | .ior => ai_i2 S fun x y R => K (pc + len) L ((0, i_or x y) :: R) n hr h
    | .ixor => ai_i2 S fun x y R => K (pc + len) L ((0, i_xor x y) :: R) n hr h
    | .ishl => ai_i2 S fun x y R => K (pc + len) L ((0, i_shl x y) :: R) n hr h
    | .ishr => ai_i2 S fun x y R => K (pc + len) L ((0, i_shr x y) :: R) n hr h
    | .iushr => ai_i2 S fun x y R => K (pc + len) L ((0, i_ushr x y) :: R) n hr h
    | .i2l => ai_i1 S fun x R => K (pc + len) L ((1, x) :: R) n hr h
    | .i2b => ai_i1 S fun x R => K (pc + len) L ((0, i_b8 x) :: R) n hr h
    | .ladd => ai_l2 S fun x y R => K (pc + len) L ((1, w64 (x + y)) :: R) n hr h
    | .lsub => ai_l2 S fun x y R => K (pc + len) L ((1, w64 (x - y)) :: R) n hr h
    | .lmul => ai_l2 S fun x y R => K (pc + len) L ((1, w64 (x * y)) :: R) n hr h
    | .land => ai_l2 S fun x y R => K (pc + len) L ((1, l_and x y) :: R) n hr h
    | .lor => ai_l2 S fun x y R => K (pc + len) L ((1, l_or x y) :: R) n hr h
    | .lxor => ai_l2 S fun x y R => K (pc + len) L ((1, l_xor x y) :: R) n hr h
    | .lshl => ai_i1 S fun y R => ai_l1 R fun x R => K (pc + len) L ((1, l_shl x y) :: R) n hr h
    | .lcmp => ai_l2 S fun x y R => K (pc + len) L ((0, l_cmp x y) :: R) n hr h
    | .if_icmp c _ => ai_i2 S fun x y R => ai_if c x y (K a L R n hr h) (K (pc + len) L R n hr h)
    | .ifCond c _ => ai_i1 S fun x R => ai_if c x 0 (K a L R n hr h) (K (pc + len) L R n hr h)
    | .goto _ => K a L S n hr h
    | .tableswitch _ _ _ _ => ai_i1 S fun x R => ai_sw x tl (fun q => K q L R n hr h) (K a L R n hr h)
    | .lookupswitch _ _ => ai_i1 S fun x R => ai_sw x tl (fun q => K q L R n hr h) (K a L R n hr h)
    | .dup => ai_d1 S fun v R => K (pc + len) L (v :: v :: R) n hr h
    | .dup2 => ai_d2 S fun v u R => K (pc + len) L (v :: u :: v :: u :: R) n hr h
    | .pop => ai_d1 S fun _ R => K (pc + len) L R n hr h
    | .getfield _ => ai_r1 S fun x R => ai_ok n x a ∧ K (pc + len) L (ai_get t h hr x z :: R) n hr h
    | .putfield _ => ai_put t n h hr z a S fun R hr h => K (pc + len) L R n hr h
    | .iaload => ai_ild X n h S fun v R => K (pc + len) L ((0, v) :: R) n hr h
    | .laload => ai_ald 51 n S fun x i R => K (pc + len) L ((1, h x i) :: R) n hr h
    | .baload => ai_ald t n S fun x i R => K (pc + len) L ((0, h x i) :: R) n hr h
    | .aaload => ai_ald 54 n S fun x i R => K (pc + len) L ((2, hr x i) :: R) n hr h
    | .iastore => ai_ast 50 n S fun x i v R => K (pc + len) L R n hr (ai_up h x i v)
    | .lastore => ai_lsa n S fun x i v R => K (pc + len) L R n hr (ai_up h x i v)
    | .bastore => (match t with
      | 52 => ai_ast 52 n S fun x i v R => (v = 0 ∨ v = 1) ∧ K (pc + len) L R n hr (ai_up h x i v)
      | _ => ai_ast 53 n S fun x i v R => K (pc + len) L R n hr (ai_up h x i (i_b8 v)))
    | .aastore => ai_asa n S fun x i v R => K (pc + len) L R n (ai_up hr x i v) h
    | .arraylength => ai_aln X n t S fun v R => K (pc + len) L ((0, v) :: R) n hr h
    | .new _ => n < lim ∧ ai_k n = a ∧ K (pc + len) L ((2, (n : Int)) :: S) (n + 1) (ai_cl hr n (-1)) (ai_cl h n 0)
    | .newarray _ => ai_i1 S fun v R => n < lim ∧ ai_k n = t ∧ ai_l n = v ∧ K (pc + len) L ((2, (n : Int)) :: R) (n + 1) (ai_cl hr n (-1)) (ai_cl h n 0)
    | .anewarray _ => ai_i1 S fun v R => n < lim ∧ ai_k n = 54 ∧ ai_l n = v ∧ K (pc + len) L ((2, (n : Int)) :: R) (n + 1) (ai_cl hr n (-1)) (ai_cl h n 0)
    | .getstatic _ => K (pc + len) L ((4, 1) :: S) n hr h
    | .invokevirtual _ => ai_pop b [] S fun A R => ai_rc (ai_tl tl) n A ∧ ai_bd z n lim (ai_k8 R (orc a A n hr h fun r n hr h => K (pc + len) L (ai_push t r R) n hr h))
    | .invokespecial _ => (match t with
      | 30 => ai_r1 S fun x R => 0 ≤ x ∧ ai_k8 R (K (pc + len) L R n hr h)
      | _ => ai_pop b [] S fun A R => ai_rc (ai_tl tl) n A ∧ ai_bd z n lim (ai_k8 R (orc a A n hr h fun r n hr h => K (pc + len) L (ai_push t r R) n hr h)))
    | .invokestatic _ => (match t with
      | 20 => ai_cpy 50 n S fun s sp d dp m R => ai_k8 R (K (pc + len) L R n hr (ai_cp h s sp d dp m))
      | 21 => ai_cpy 51 n S fun s sp d dp m R => ai_k8 R (K (pc + len) L R n hr (ai_cp h s sp d dp m))
      | 22 => ai_i2 S fun x y R => ai_k8 R (K (pc + len) L ((0, i_max x y) :: R) n hr h)
      | 23 => ai_i2 S fun x y R => ai_k8 R (K (pc + len) L ((0, i_min x y) :: R) n hr h)
      | _ => ai_pop b [] S fun A R => ai_bd z n lim (ai_k8 R (orc a A n hr h fun r n hr h => K (pc + len) L (ai_push t r R) n hr h)))
    | .ireturn => (match t with
      | 3 => ai_ret0 S fun x => (x = 0 ∨ x = 1) ∧ Q (0, x) n hr h
      | _ => ai_ret0 S fun x => Q (0, x) n hr h)
    | .lreturn => ai_ret1 S fun x => Q (1, x) n hr h
    | .areturn => ai_ret2 S fun x => Q (2, x) n hr h
    | .return_ => ai_ret9 S (Q (9, 0) n hr h)
    | _ => False
def ai_find (pc : Nat) : List CI → Option CI
  | [] => none
  | ci :: l => bif Nat.beq ci.1 pc then some ci else ai_find pc l
abbrev ai_C := List (List CI)
def ai_at (code : ai_C) (pc : Nat) : Option CI := match ai_nth code (pc / 16) with
  | some l => ai_find pc l
  | none => none
def ai_step (orc : Nat → SP) (lim : Nat) (X : XE) (code : ai_C) (K : KP) (pc : Nat) (L : List (Option AV)) (S : List AV) (n : Nat) (hr h : HP) (Q : RP) : Prop := match ai_at code pc with
  | some ci => ai_st orc lim X ci K L S n hr h Q
  | none => False
/-- fewer locals are told -/
def ai_fg (L' L : List (Option AV)) : Prop := L'.length = L.length ∧ ∀ (i : Nat) (v : AV), ai_nth L' i = some (some v) → ai_nth L i = some (some v)
/-- it comes to an end with Q: the least such -/
def ai_wp (orc : Nat → SP) (lim : Nat) (X : XE) (code : ai_C) (Q : RP) : KP := fun pc L S n hr h =>
  ∀ P : KP, (∀ pc L S n hr h, ai_step orc lim X code P pc L S n hr h Q → P pc L S n hr h) → (∀ pc L' L S n hr h, ai_fg L' L → P pc L' S n hr h → P pc L S n hr h) → P pc L S n hr h
def ai_mask : List Bool → List (Option AV) → List (Option AV)
  | true :: m, v :: L => v :: ai_mask m L
  | false :: m, _ :: L => none :: ai_mask m L
  | _, L => L
def ai_cut : List (Nat × List Bool) → Nat → Option (List Bool)
  | [], _ => none
  | (p, m) :: l, pc => bif Nat.beq p pc then some m else ai_cut l pc
/-- many steps at once, up to places at which it is cut -/
def ai_run (orc : Nat → SP) (lim : Nat) (X : XE) (code : ai_C) (cut : List (Nat × List Bool)) (Q : RP) (Kw : KP) : Nat → KP
  | 0 => fun pc L S n hr h => Kw pc L S n hr h
  | f + 1 => fun pc L S n hr h => ai_step orc lim X code (fun pc L S n hr h => match ai_cut cut pc with
    | some m => Kw pc (ai_mask m L) S n hr h
    | none => ai_run orc lim X code cut Q Kw f pc L S n hr h) pc L S n hr h Q
def ai_ent : List AV → List (Option AV)
  | [] => []
  | (1, x) :: l => some (1, x) :: none :: ai_ent l
  | v :: l => some v :: ai_ent l
def ai_pad (m : Nat) (L : List (Option AV)) : List (Option AV) := L ++ List.replicate (m - L.length) none
/-- a method -/
def ai_M (orc : Nat → SP) (al : Nat) (maxL : Nat) (code : ai_C) : SP := fun args n hr h Q =>
  (ai_ent args).length ≤ maxL ∧ ai_wp orc (n + al) none code (fun r n' hr' h' => n' = n + al ∧ Q r n' hr' h') 0 (ai_pad maxL (ai_ent args)) [] n hr h
def ai_q (al n : Nat) (Q : RP) : RP := fun r n' hr' h' => n' = n + al ∧ Q r n' hr' h'
def ai_mono (M : SP) : Prop := ∀ (A : List AV) (n : Nat) (hr h : HP) (Q Q' : RP), (∀ r n hr h, Q r n hr h → Q' r n hr h) → M A n hr h Q → M A n hr h Q'
