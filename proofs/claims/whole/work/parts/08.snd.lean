/-! every step of the small machine is a step of the real one -/
section SND
variable {p : Program} {l : Launch} {e : Env} {R : Room} {s : State} {m : MethodId} {args : Array Value} {below : List Frame} {meth : Method} {c : Code}
def ai_PS (p : Program) (l : Launch) (e : Env) (R : Room) (s : State) (m : MethodId) (args : Array Value) (below : List Frame) (meth : Method) (c : Code) (D : va_G) (cid : Nat → ClassId) (B0 : Nat) (xa : Nat → Nat) (nL n0 lim : Nat) (ad0 : Nat → Nat) (gx gy : Nat) (Qf : State → Prop) : KP := fun pc L S n hr h =>
  ∀ (ad : Nat → Nat) (H : Heap) (locs : List Loc) (ls : Array Slot), n0 ≤ n → n ≤ lim → (∀ q, q < n0 → ad q = ad0 q) → ai_W D cid B0 ad n hr h H → ai_IH n hr h → ai_LR ad xa ls nL L → ai_LI n L → ai_SI n S → va_S (fun q : Nat => B0 ≤ q) s.heap H locs →
    W p l e R s m args below meth c H locs (n - n0 + gx) (ai_cs n - ai_cs n0 + gy) Qf (F0 m pc ls (S.map (ai_cv ad xa)))
/-- how it ends -/
def ai_QR (p : Program) (l : Launch) (e : Env) (R : Room) (s : State) (m : MethodId) (args : Array Value) (below : List Frame) (meth : Method) (c : Code) (D : va_G) (cid : Nat → ClassId) (B0 : Nat) (xa : Nat → Nat) (n0 lim : Nat) (ad0 : Nat → Nat) (gx gy : Nat) (Qf : State → Prop) (cc : ByteArray) (ins : Instr) (r : AV) (st : List AV) (n : Nat) (hr h : HP) : Prop :=
  ∀ (ad : Nat → Nat) (H : Heap) (locs : List Loc) (ls : Array Slot) (pc : Nat), n0 ≤ n → n ≤ lim → (∀ q, q < n0 → ad q = ad0 q) → ai_W D cid B0 ad n hr h H → ai_IH n hr h → ai_vr n r → va_S (fun q : Nat => B0 ≤ q) s.heap H locs → decode cc pc = .ok (ins, 1) →
    W p l e R s m args below meth c H locs (n - n0 + gx) (ai_cs n - ai_cs n0 + gy) Qf (F0 m pc ls (st.map (ai_cv ad xa)))
theorem inv_i1 {S k} (h : ai_i1 S k) : ∃ x R, S = (0, x) :: R ∧ k x R := by
  unfold ai_i1 at h; split at h <;> first | exact ⟨_, _, rfl, h⟩ | exact h.elim
theorem inv_i2 {S k} (h : ai_i2 S k) : ∃ x y R, S = (0, y) :: (0, x) :: R ∧ k x y R := by
  unfold ai_i2 at h; split at h <;> first | exact ⟨_, _, _, rfl, h⟩ | exact h.elim
theorem inv_l1 {S k} (h : ai_l1 S k) : ∃ x R, S = (1, x) :: R ∧ k x R := by
  unfold ai_l1 at h; split at h <;> first | exact ⟨_, _, rfl, h⟩ | exact h.elim
theorem inv_l2 {S k} (h : ai_l2 S k) : ∃ x y R, S = (1, y) :: (1, x) :: R ∧ k x y R := by
  unfold ai_l2 at h; split at h <;> first | exact ⟨_, _, _, rfl, h⟩ | exact h.elim
theorem inv_r1 {S k} (h : ai_r1 S k) : ∃ x R, S = (2, x) :: R ∧ k x R := by
  unfold ai_r1 at h; split at h <;> first | exact ⟨_, _, rfl, h⟩ | exact h.elim
theorem inv_lint {L i k} (h : ai_lint L i k) : ∃ x, ai_nth L i = some (some (0, x)) ∧ k x := by
  unfold ai_lint at h; split at h <;> first | exact ⟨_, by assumption, h⟩ | exact h.elim
theorem inv_llong {L i k} (h : ai_llong L i k) : ∃ x, ai_nth L i = some (some (1, x)) ∧ k x := by
  unfold ai_llong at h; split at h <;> first | exact ⟨_, by assumption, h⟩ | exact h.elim
theorem inv_lref {L i k} (h : ai_lref L i k) : (∃ x, ai_nth L i = some (some (2, x)) ∧ k (2, x)) ∨ ∃ x, ai_nth L i = some (some (4, x)) ∧ k (4, x) := by
  unfold ai_lref at h; split at h
  · exact Or.inl ⟨_, by assumption, h⟩
  · exact Or.inr ⟨_, by assumption, h⟩
  · exact h.elim
theorem SI_cons {n v S} : ai_SI n (v :: S) ↔ ai_vr n v ∧ ai_SI n S := by
  unfold ai_SI; simp
theorem nth_set {α : Type} (L : List α) (i j : Nat) (v : α) : ai_nth (ai_set L i v) j = if j = i ∧ i < L.length then some v else ai_nth L j := by
  rw [nth_eq, nth_eq, set_eq]
  by_cases h : j = i
  · subst h
    by_cases h2 : j < L.length
    · simp [h2]
    · simp [h2]
  · rw [List.getElem?_set_ne (Ne.symm h)]
    simp [h]
theorem len_set {α : Type} (L : List α) (i : Nat) (v : α) : (ai_set L i v).length = L.length := by rw [set_eq, List.length_set]
theorem clr_nth (L : List (Option AV)) (i j : Nat) (v : AV) (h : ai_nth (ai_clr L i) j = some (some v)) : ai_nth L j = some (some v) ∧ ¬ (j = i ∧ v.1 = 1) := by
  unfold ai_clr at h
  split at h
  · rename_i x hx
    rw [nth_set] at h
    split at h
    · cases h
    · rename_i hn
      refine ⟨h, fun q => hn ⟨q.1, ?_⟩⟩
      rw [nth_eq] at hx
      exact (List.getElem?_eq_some_iff.mp hx).1
  · rename_i hx
    refine ⟨h, fun q => ?_⟩
    obtain ⟨q1, q2⟩ := q
    subst q1
    obtain ⟨t, x⟩ := v
    simp only at q2
    subst q2
    exact hx x h
theorem clr_len (L : List (Option AV)) (i : Nat) : (ai_clr L i).length = L.length := by
  unfold ai_clr; split <;> first | rw [len_set] | rfl
theorem clp_nth (L : List (Option AV)) (i j : Nat) (v : AV) (h : ai_nth (ai_clp L i) j = some (some v)) : ai_nth L j = some (some v) ∧ ¬ (j + 1 = i ∧ v.1 = 1) := by
  cases i with
  | zero => exact ⟨h, by omega⟩
  | succ i =>
    obtain ⟨h1, h2⟩ := clr_nth L i j v h
    exact ⟨h1, fun q => h2 ⟨by omega, q.2⟩⟩
theorem clp_len (L : List (Option AV)) (i : Nat) : (ai_clp L i).length = L.length := by
  cases i with
  | zero => rfl
  | succ i => exact clr_len L i
theorem cat_cv {ad xa : Nat → Nat} {v : AV} : (ai_cv ad xa v).category = 2 ↔ v.1 = 1 := by
  obtain ⟨t, x⟩ := v
  match t with
  | 0 => simp [ai_cv, Value.category]
  | 1 => simp [ai_cv, Value.category]
  | 2 =>
    have h : (va_rf (ai_ro ad x)).category = 1 := by cases ai_ro ad x <;> rfl
    show (va_rf (ai_ro ad x)).category = 2 ↔ 2 = 1
    rw [h]; simp
  | 3 => simp [ai_cv, Value.category]
  | 4 => simp [ai_cv, Value.category]
  | t + 5 => simp [ai_cv, Value.category]
/-- the told locals as a list -/
def ai_ll (ad xa : Nat → Nat) : Nat → List (Option AV) → List (Nat × Value)
  | _, [] => []
  | i, none :: L => ai_ll ad xa (i + 1) L
  | i, some v :: L => (i, ai_cv ad xa v) :: ai_ll ad xa (i + 1) L
theorem ll_mem {ad xa : Nat → Nat} : ∀ (L : List (Option AV)) (i : Nat) (q : Nat × Value), q ∈ ai_ll ad xa i L ↔ ∃ j v, ai_nth L j = some (some v) ∧ q = (i + j, ai_cv ad xa v)
  | [], i, q => by simp [ai_ll, ai_nth]
  | none :: L, i, q => by
    rw [ai_ll, ll_mem L (i + 1) q]
    constructor
    · rintro ⟨j, v, h1, h2⟩
      exact ⟨j + 1, v, h1, by rw [h2]; congr 1; omega⟩
    · rintro ⟨j, v, h1, h2⟩
      cases j with
      | zero => simp [ai_nth] at h1
      | succ j => exact ⟨j, v, h1, by rw [h2]; congr 1; omega⟩
  | some w :: L, i, q => by
    rw [ai_ll, List.mem_cons, ll_mem L (i + 1) q]
    constructor
    · rintro (h | ⟨j, v, h1, h2⟩)
      · exact ⟨0, w, rfl, h⟩
      · exact ⟨j + 1, v, h1, by rw [h2]; congr 1; omega⟩
    · rintro ⟨j, v, h1, h2⟩
      cases j with
      | zero => simp [ai_nth] at h1; subst h1; exact Or.inl h2
      | succ j => exact Or.inr ⟨j, v, h1, by rw [h2]; congr 1; omega⟩
theorem LR_has {ad xa : Nat → Nat} {ls : Array Slot} {nL : Nat} {L : List (Option AV)} (h : ai_LR ad xa ls nL L) : lv_has ls nL (ai_ll ad xa 0 L) := by
  obtain ⟨h1, h2, h3, h4⟩ := h
  refine ⟨h2, h3, fun q hq => ?_⟩
  obtain ⟨j, v, a1, a2⟩ := (ll_mem L 0 q).mp hq
  subst a2
  simpa using h4 j v a1
theorem LR_ist {ad xa : Nat → Nat} {ls ls' : Array Slot} {nL i : Nat} {L : List (Option AV)} {v : AV} (h : ai_LR ad xa ls nL L) (hv : ¬ v.1 = 1) (h2 : lv_has ls' nL ((i, ai_cv ad xa v) :: (ai_ll ad xa 0 L).filter (fun q => !(q.1 == i) && !(q.1 + 1 == i && q.2.category == 2)))) : ai_LR ad xa ls' nL (ai_ist L i v) := by
  obtain ⟨a1, a2, a3⟩ := h2
  refine ⟨by rw [ai_ist, len_set, clp_len, h.1], a1, a2, fun j w hj => ?_⟩
  unfold ai_ist at hj
  rw [nth_set] at hj
  split at hj
  · rename_i hji
    cases hj
    rw [hji.1]
    exact a3 _ List.mem_cons_self
  · rename_i hji
    have hlen : j < L.length := by
      rw [nth_eq] at hj
      have := (List.getElem?_eq_some_iff.mp hj).1
      rwa [clp_len] at this
    have hne : j ≠ i := fun q => hji ⟨q, by rw [clp_len, ← q]; exact hlen⟩
    obtain ⟨b1, b2⟩ := clp_nth L i j w hj
    refine a3 (j, ai_cv ad xa w) (List.mem_cons_of_mem _ (List.mem_filter.mpr ⟨(ll_mem L 0 _).mpr ⟨j, w, b1, by simp⟩, ?_⟩))
    simp only [Bool.and_eq_true, Bool.not_eq_true', beq_eq_false_iff_ne, ne_eq, Bool.and_eq_false_iff]
    refine ⟨hne, ?_⟩
    by_cases hq : j + 1 = i
    · exact Or.inr fun z => b2 ⟨hq, cat_cv.mp z⟩
    · exact Or.inl hq
theorem LR_lst {ad xa : Nat → Nat} {ls ls' : Array Slot} {nL i : Nat} {L : List (Option AV)} {v : AV} (h : ai_LR ad xa ls nL L) (hi : i + 1 < nL) (h2 : lv_has ls' nL ((i, ai_cv ad xa v) :: (ai_ll ad xa 0 L).filter (fun q => !(q.1 == i) && (!(q.1 == i + 1) && !(q.1 + 1 == i && q.2.category == 2))))) : ai_LR ad xa ls' nL (ai_lst L i v) := by
  obtain ⟨a1, a2, a3⟩ := h2
  refine ⟨by rw [ai_lst, len_set, len_set, clp_len, h.1], a1, a2, fun j w hj => ?_⟩
  unfold ai_lst at hj
  rw [nth_set] at hj
  split at hj
  · cases hj
  · rename_i hji1
    rw [len_set, clp_len, h.1] at hji1
    have hn1 : j ≠ i + 1 := fun q => hji1 ⟨q, hi⟩
    rw [nth_set] at hj
    split at hj
    · rename_i hji
      cases hj
      rw [hji.1]
      exact a3 _ List.mem_cons_self
    · rename_i hji
      rw [clp_len, h.1] at hji
      have hne : j ≠ i := fun q => hji ⟨q, by omega⟩
      obtain ⟨b1, b2⟩ := clp_nth L i j w hj
      refine a3 (j, ai_cv ad xa w) (List.mem_cons_of_mem _ (List.mem_filter.mpr ⟨(ll_mem L 0 _).mpr ⟨j, w, b1, by simp⟩, ?_⟩))
      simp only [Bool.and_eq_true, Bool.not_eq_true', beq_eq_false_iff_ne, ne_eq, Bool.and_eq_false_iff]
      refine ⟨hne, hn1, ?_⟩
      by_cases hq : j + 1 = i
      · exact Or.inr fun z => b2 ⟨hq, cat_cv.mp z⟩
      · exact Or.inl hq
theorem LI_ist {n i : Nat} {L : List (Option AV)} {v : AV} (h : ai_LI n L) (hv : ai_vr n v) : ai_LI n (ai_ist L i v) := by
  intro j w hj
  unfold ai_ist at hj
  rw [nth_set] at hj
  split at hj
  · cases hj; exact hv
  · exact h j w (clp_nth L i j w hj).1
theorem LI_lst {n i : Nat} {L : List (Option AV)} {v : AV} (h : ai_LI n L) (hv : ai_vr n v) : ai_LI n (ai_lst L i v) := by
  intro j w hj
  unfold ai_lst at hj
  rw [nth_set] at hj
  split at hj
  · cases hj
  · rw [nth_set] at hj
    split at hj
    · cases hj; exact hv
    · exact h j w (clp_nth L i j w hj).1
theorem LR_ext {ad ad' xa : Nat → Nat} {ls : Array Slot} {nL n : Nat} {L : List (Option AV)} (h : ai_LR ad xa ls nL L) (hi : ai_LI n L) (he : ∀ c, c < n → ad' c = ad c) : ai_LR ad' xa ls nL L :=
  ⟨h.1, h.2.1, h.2.2.1, fun i v hv => by rw [cv_ext he (hi i v hv)]; exact h.2.2.2 i v hv⟩
theorem LI_le {n n' : Nat} {L : List (Option AV)} (h : ai_LI n L) (hn : n ≤ n') : ai_LI n' L := fun i v hv => vr_le hn (h i v hv)
theorem SI_le {n n' : Nat} {S : List AV} (h : ai_SI n S) (hn : n ≤ n') : ai_SI n' S := fun v hv => vr_le hn (h v hv)
theorem map_ext {ad ad' xa : Nat → Nat} {n : Nat} {S : List AV} (h : ai_SI n S) (he : ∀ c, c < n → ad' c = ad c) : S.map (ai_cv ad' xa) = S.map (ai_cv ad xa) := List.map_congr_left fun v hv => cv_ext he (h v hv)
theorem LR_fg {ad xa : Nat → Nat} {ls : Array Slot} {nL : Nat} {L L' : List (Option AV)} (h : ai_LR ad xa ls nL L) (g : ai_fg L' L) : ai_LR ad xa ls nL L' :=
  ⟨g.1.trans h.1, h.2.1, h.2.2.1, fun i v hv => h.2.2.2 i v (g.2 i v hv)⟩
theorem LI_fg {n : Nat} {L L' : List (Option AV)} (h : ai_LI n L) (g : ai_fg L' L) : ai_LI n L' := fun i v hv => h i v (g.2 i v hv)
end SND
