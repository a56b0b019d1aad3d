/-! values and cells: the relation -/
def ai_ro (ad : Nat → Nat) (x : Int) : Option Nat := if x < 0 then none else some (ad x.toNat)
def ai_cv (ad xa : Nat → Nat) : AV → Value
  | (0, x) => .int (Int32.ofInt x)
  | (1, x) => .long (Int64.ofInt x)
  | (2, x) => va_rf (ai_ro ad x)
  | (4, x) => .ref (xa x.toNat)
  | _ => .ref (xa 2)
def i32 (x : Int) : Prop := -2147483648 ≤ x ∧ x ≤ 2147483647
def i64 (x : Int) : Prop := -9223372036854775808 ≤ x ∧ x ≤ 9223372036854775807
def ai_vr (n : Nat) : AV → Prop
  | (0, x) => i32 x
  | (1, x) => i64 x
  | (2, x) => -1 ≤ x ∧ x < (n : Int)
  | _ => True
def ai_fv (ad : Nat → Nat) (t : Nat) (hr h : HP) (c i : Int) : Value := match t with
  | 0 => .int (Int32.ofInt (h c i))
  | 1 => .long (Int64.ofInt (h c i))
  | 3 => .int (Int32.ofInt (h c i))
  | _ => va_rf (ai_ro ad (hr c i))
theorem fv_get (ad xa : Nat → Nat) (t : Nat) (hr h : HP) (c i : Int) : ai_fv ad t hr h c i = ai_cv ad xa (ai_get t h hr c i) := by
  unfold ai_fv ai_get
  split <;> first | rfl | (split <;> first | rfl | contradiction)
def ai_fs (ad : Nat → Nat) (a : Nat) (hr h : HP) (c : Int) : List Value := (List.range (ai_nf a)).map fun i => ai_fv ad (ai_ft a i) hr h c (i : Int)
def ai_ar (ad : Nat → Nat) (t : Nat) (hr h : HP) (c : Int) : (Nat → Int32) ⊕ (Nat → Int64) ⊕ (Nat → UInt32) ⊕ (Nat → UInt64) ⊕ (Nat → Option Nat) := match t with
  | 1 => .inr (.inl fun j => Int64.ofInt (h c (j : Int)))
  | 4 => .inr (.inr (.inr (.inr fun j => ai_ro ad (hr c (j : Int)))))
  | _ => .inl fun j => Int32.ofInt (h c (j : Int))
def ai_ce (cid : Nat → ClassId) (ad : Nat → Nat) (hr h : HP) (c : Int) : va_E :=
  if ai_k c < 50 then .inr (ai_k c, ai_fs ad (ai_k c) hr h c) else .inl (cid (ai_k c - 50), (ai_l c).toNat, ai_ar ad (ai_k c - 50) hr h c)
def ai_ws (cid : Nat → ClassId) (ad : Nat → Nat) (n : Nat) (hr h : HP) : va_W := (List.range n).map fun c => (ad c, ai_ce cid ad hr h (c : Int))
def ai_tys (cid : Nat → ClassId) : List (ClassId × FieldType) := [(cid 0, .int), (cid 1, .long), (cid 2, .boolean), (cid 3, .byte), (cid 4, .object "SuiteBench$Tests")]
def ai_W (D : va_G) (cid : Nat → ClassId) (B0 : Nat) (ad : Nat → Nat) (n : Nat) (hr h : HP) (H : Heap) : Prop := va_P D vwCl (ai_ws cid ad n hr h) H ∧ va_D (fun q : Nat => B0 ≤ q) (ai_ws cid ad n hr h)
def ai_tg (c i : Int) : Nat := if ai_k c < 50 then ai_ft (ai_k c) i.toNat else match ai_k c - 50 with
  | 0 => 0
  | 1 => 1
  | 2 => 3
  | 3 => 4
  | _ => 2
def ai_vt (n t : Nat) (v r : Int) : Prop := match t with
  | 0 => i32 v
  | 1 => i64 v
  | 3 => v = 0 ∨ v = 1
  | 4 => -128 ≤ v ∧ v ≤ 127
  | _ => -1 ≤ r ∧ r < (n : Int)
def ai_IH (n : Nat) (hr h : HP) : Prop := ∀ c i : Int, 0 ≤ c → c < (n : Int) → ai_vt n (ai_tg c i) (h c i) (hr c i)
def ai_LR (ad xa : Nat → Nat) (ls : Array Slot) (nL : Nat) (L : List (Option AV)) : Prop := L.length = nL ∧ ls.size = nL ∧ lv_wf ls ∧ ∀ (i : Nat) (v : AV), ai_nth L i = some (some v) → ls[i]? = some (.val (ai_cv ad xa v))
def ai_LI (n : Nat) (L : List (Option AV)) : Prop := ∀ (i : Nat) (v : AV), ai_nth L i = some (some v) → ai_vr n v
def ai_SI (n : Nat) (S : List AV) : Prop := ∀ v ∈ S, ai_vr n v
def ai_cs : Nat → Nat
  | 0 => 0
  | n + 1 => ai_cs n + (ai_l (n : Int)).toNat
theorem sh_ok : ∀ c : Int, ai_k c < 50 → ai_l c = (ai_nf (ai_k c) : Int) := by
  intro c h
  have key : ai_shl.all (fun q => decide (50 ≤ q.1) || decide (q.2 = ai_nf q.1)) = true := by decide +kernel
  unfold ai_k at h ⊢
  unfold ai_l
  cases hq : ai_nth ai_shl c.toNat with
  | none => rw [hq] at h; simp at h
  | some q =>
    rw [hq] at h
    rw [nth_eq] at hq
    have := List.all_eq_true.mp key q (List.mem_of_getElem? hq)
    simp only [Bool.or_eq_true, decide_eq_true_eq] at this
    simp only [Option.getD_some] at h ⊢
    rcases this with z | z
    · omega
    · rw [z]
theorem nf_at {a : Nat} (h : a < 13) : ∃ C T, vwCl[a]? = some (C, T, ai_nf a) := by
  unfold ai_nf
  rw [nth_eq]
  cases hq : vwCl[a]? with
  | none => rw [List.getElem?_eq_none_iff] at hq; simp [vwCl] at hq; omega
  | some q => obtain ⟨C, T, N⟩ := q; exact ⟨C, T, rfl⟩
theorem nf_0 {a : Nat} (h : 13 ≤ a) : ai_nf a = 0 := by
  unfold ai_nf
  rw [nth_eq, List.getElem?_eq_none_iff.mpr (by simp [vwCl]; omega)]
theorem ws_get {cid : Nat → ClassId} {ad : Nat → Nat} {n : Nat} {hr h : HP} {c : Nat} (hc : c < n) : (ai_ws cid ad n hr h)[c]? = some (ad c, ai_ce cid ad hr h (c : Int)) := by
  simp [ai_ws, hc]
theorem ws_len {cid : Nat → ClassId} {ad : Nat → Nat} {n : Nat} {hr h : HP} : (ai_ws cid ad n hr h).length = n := by simp [ai_ws]
/-- one cell is written -/
theorem ws_set {cid : Nat → ClassId} {ad : Nat → Nat} {n : Nat} {hr h hr' h' : HP} {c : Nat} {e : va_E} (he : c < n → ai_ce cid ad hr' h' (c : Int) = e) (ho : ∀ q : Nat, q < n → q ≠ c → ai_ce cid ad hr' h' (q : Int) = ai_ce cid ad hr h (q : Int)) : (ai_ws cid ad n hr h).set c (ad c, e) = ai_ws cid ad n hr' h' := by
  apply List.ext_getElem?
  intro k
  by_cases hk : k < n
  · rw [ws_get hk]
    by_cases hc : k = c
    · subst hc
      rw [List.getElem?_set_self (by rw [ws_len]; exact hk), he hk]
    · rw [List.getElem?_set_ne (Ne.symm hc), ws_get hk, ho k hk hc]
  · rw [List.getElem?_eq_none_iff.mpr (by rw [List.length_set, ws_len]; omega), List.getElem?_eq_none_iff.mpr (by rw [ws_len]; omega)]
theorem ce_obj {cid : Nat → ClassId} {ad : Nat → Nat} {hr h : HP} {c : Int} {a : Nat} (hk : ai_k c = a) (ha : a < 50) : ai_ce cid ad hr h c = .inr (a, ai_fs ad a hr h c) := by
  subst hk; simp [ai_ce, ha]
theorem ce_arr {cid : Nat → ClassId} {ad : Nat → Nat} {hr h : HP} {c : Int} {t : Nat} (hk : ai_k c = 50 + t) : ai_ce cid ad hr h c = .inl (cid t, (ai_l c).toNat, ai_ar ad t hr h c) := by
  simp [ai_ce, hk]
/-- the fields and rows of a cell speak of this cell alone -/
theorem ce_same {cid : Nat → ClassId} {ad : Nat → Nat} {hr h hr' h' : HP} {c : Int} (g : ∀ j, hr' c j = hr c j) (g2 : ∀ j, h' c j = h c j) : ai_ce cid ad hr' h' c = ai_ce cid ad hr h c := by
  have e1 : hr' c = hr c := funext g
  have e2 : h' c = h c := funext g2
  simp only [ai_ce, ai_fs, ai_fv, ai_ar, e1, e2]
theorem fs_get {ad : Nat → Nat} {a : Nat} {hr h : HP} {c : Int} {b : Nat} (hb : b < ai_nf a) : (ai_fs ad a hr h c)[b]? = some (ai_fv ad (ai_ft a b) hr h c (b : Int)) := by
  simp [ai_fs, hb]
theorem fs_len {ad : Nat → Nat} {a : Nat} {hr h : HP} {c : Int} : (ai_fs ad a hr h c).length = ai_nf a := by simp [ai_fs]
theorem fs_set {ad : Nat → Nat} {a : Nat} {hr h hr' h' : HP} {c : Int} {b : Nat} {v : Value} (hb : ai_fv ad (ai_ft a b) hr' h' c (b : Int) = v) (ho : ∀ i : Nat, i ≠ b → hr' c (i : Int) = hr c (i : Int) ∧ h' c (i : Int) = h c (i : Int)) : (ai_fs ad a hr h c).set b v = ai_fs ad a hr' h' c := by
  apply List.ext_getElem?
  intro k
  by_cases hk : k < ai_nf a
  · rw [fs_get hk]
    by_cases hc : k = b
    · subst hc
      rw [List.getElem?_set_self (by rw [fs_len]; exact hk), hb]
    · rw [List.getElem?_set_ne (Ne.symm hc), fs_get hk]
      unfold ai_fv
      rw [(ho k hc).1, (ho k hc).2]
  · rw [List.getElem?_eq_none_iff.mpr (by rw [List.length_set, fs_len]; omega), List.getElem?_eq_none_iff.mpr (by rw [fs_len]; omega)]
theorem ok_nat {n : Nat} {x : Int} {k : Nat} (h : ai_ok n x k) : ∃ c : Nat, x = (c : Int) ∧ c < n ∧ ai_k (c : Int) = k := by
  obtain ⟨h1, h2, h3⟩ := h
  refine ⟨x.toNat, (Int.toNat_of_nonneg h1).symm, by omega, ?_⟩
  rw [Int.toNat_of_nonneg h1]; exact h3
theorem ro_nat (ad : Nat → Nat) (c : Nat) : ai_ro ad (c : Int) = some (ad c) := by
  unfold ai_ro
  rw [if_neg (by omega)]
  simp
theorem cv_ref (ad xa : Nat → Nat) (c : Nat) : ai_cv ad xa (2, (c : Int)) = .ref (ad c) := by
  show va_rf (ai_ro ad (c : Int)) = _
  rw [ro_nat]; rfl
theorem cv_ext {ad ad' xa : Nat → Nat} {n : Nat} (he : ∀ c, c < n → ad' c = ad c) {v : AV} (hv : ai_vr n v) : ai_cv ad' xa v = ai_cv ad xa v := by
  unfold ai_cv
  unfold ai_vr at hv
  split
  · rfl
  · rfl
  · rename_i x
    simp only at hv
    unfold ai_ro
    by_cases hx : x < 0
    · simp [hx]
    · rw [if_neg hx, if_neg hx, he x.toNat (by omega)]
  · rfl
  · rfl
theorem vr_le {n n' : Nat} (h : n ≤ n') {v : AV} (hv : ai_vr n v) : ai_vr n' v := by
  unfold ai_vr at hv ⊢
  split <;> simp_all
  omega
theorem i32_of (x : Int32) : i32 x.toInt := ⟨x.le_toInt, by have := x.toInt_lt; omega⟩
theorem i64_of (x : Int64) : i64 x.toInt := ⟨x.le_toInt, by have := x.toInt_lt; omega⟩
theorem of_i32 {x : Int} (h : i32 x) : (Int32.ofInt x).toInt = x := Int32.toInt_ofInt_of_le (by have := h.1; omega) (by have := h.2; omega)
theorem of_i64 {x : Int} (h : i64 x) : (Int64.ofInt x).toInt = x := Int64.toInt_ofInt_of_le (by have := h.1; omega) (by have := h.2; omega)
theorem w32_of (x : Int) : Int32.ofInt (w32 x) = Int32.ofInt x := Int32.ofInt_toInt _
theorem w64_of (x : Int) : Int64.ofInt (w64 x) = Int64.ofInt x := Int64.ofInt_toInt _
theorem e_lt {x y : Int} (hx : i32 x) (hy : i32 y) : Int32.ofInt x < Int32.ofInt y ↔ x < y := by
  rw [Int32.lt_iff_toInt_lt, of_i32 hx, of_i32 hy]
theorem e_le {x y : Int} (hx : i32 x) (hy : i32 y) : Int32.ofInt x ≤ Int32.ofInt y ↔ x ≤ y := by
  rw [Int32.le_iff_toInt_le, of_i32 hx, of_i32 hy]
theorem e_eq {x y : Int} (hx : i32 x) (hy : i32 y) : Int32.ofInt x = Int32.ofInt y ↔ x = y := by
  rw [← Int32.toInt_inj, of_i32 hx, of_i32 hy]
theorem e_in {i : Int} {N : Int} (h0 : 0 ≤ i) (hN : i < N) (hi : i32 i) : vp_in (Int32.ofInt i) N.toNat := by
  rw [vp_in_iff, of_i32 hi]; omega
theorem e_cl {i : Int} (hi : i32 i) : (Int32.ofInt i).toNatClampNeg = i.toNat := by
  show (Int32.ofInt i).toInt.toNat = _
  rw [of_i32 hi]
