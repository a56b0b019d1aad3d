-- deps: 18 19 20 21 23 24 25 26 27 28 29 22 30 31 32 33 34 35 36 38 40 47 51 67 68 69 70 73 74 75 78 80 85 88 89 91 93
/-! all small machines: pure -/
/-- numbers with P below N -/
theorem cnt_list (P : Nat → Prop) : ∀ N, ∃ l, nod l ∧ (∀ x, x ∈ l ↔ x < N ∧ P x) ∧ l.length = cntP P N
  | 0 => ⟨[], fun i j a b => absurd b (Nat.not_lt_zero j), fun x => ⟨fun q => (by cases q), fun q => by omega⟩, rfl⟩
  | N + 1 => by
    obtain ⟨l, l1, l2, l3⟩ := cnt_list P N
    by_cases z : P N
    · refine ⟨l ++ [N], nod_add l1 fun q => by have := (l2 N).mp q; omega, fun x => ?_, by rw [List.length_append, cntP_y z, l3]; rfl⟩
      rw [List.mem_append, List.mem_singleton, l2]
      constructor
      · rintro (q | q)
        · exact ⟨by omega, q.2⟩
        · subst q; exact ⟨by omega, z⟩
      · intro q
        by_cases y : x = N
        · exact Or.inr y
        · exact Or.inl ⟨by omega, q.2⟩
    · refine ⟨l, l1, fun x => ?_, by rw [cntP_n z]; exact l3⟩
      rw [l2]
      refine ⟨fun q => ⟨by omega, q.2⟩, fun q => ⟨?_, q.2⟩⟩
      have : x ≠ N := fun y => z (y ▸ q.2)
      omega
theorem nod_map {f : Nat → Nat} : ∀ {l : List Nat}, nod l → (∀ x ∈ l, ∀ y ∈ l, f x = f y → x = y) → nod (l.map f) := by
  intro l h g i j hij hj q
  have hj' : j < l.length := by rw [List.length_map] at hj; exact hj
  rw [List.getElem?_map, List.getElem?_map, List.getElem?_eq_getElem (show i < l.length by omega), List.getElem?_eq_getElem hj'] at q
  simp only [Option.map_some, Option.some.injEq] at q
  have e := g _ (List.getElem_mem (show i < l.length by omega)) _ (List.getElem_mem hj') q
  exact h i j hij hj' (by rw [List.getElem?_eq_getElem (show i < l.length by omega), List.getElem?_eq_getElem hj', e])
theorem cnt_le {P R : Nat → Prop} {N : Nat} {s : Nat → Nat} (h1 : ∀ x, x < N → s x < N) (h2 : ∀ x, x < N → s (s x) = x) (h : ∀ x, x < N → P x → R (s x)) : cntP P N ≤ cntP R N := by
  obtain ⟨l, l1, l2, l3⟩ := cnt_list P N
  obtain ⟨m, m1, m2, m3⟩ := cnt_list R N
  rw [← l3, ← m3]
  have n1 : nod (l.map s) := nod_map l1 fun x hx y hy q => by
    have a := h2 x ((l2 x).mp hx).1
    have b := h2 y ((l2 y).mp hy).1
    rw [← a, ← b, q]
  have := nod_len n1 (m := m) fun y hy => by
    obtain ⟨x, hx, rfl⟩ := List.mem_map.mp hy
    have := (l2 x).mp hx
    exact (m2 _).mpr ⟨h1 x this.1, h x this.1 this.2⟩
  rw [List.length_map] at this
  exact this
theorem cnt_sw {P R : Nat → Prop} {N : Nat} {s : Nat → Nat} (h1 : ∀ x, x < N → s x < N) (h2 : ∀ x, x < N → s (s x) = x) (h : ∀ x, x < N → (P x ↔ R (s x))) : cntP P N = cntP R N := by
  refine Nat.le_antisymm (cnt_le h1 h2 fun x hx q => (h x hx).mp q) (cnt_le h1 h2 fun x hx q => (h (s x) (h1 x hx)).mpr (by rw [h2 x hx]; exact q))
/-- the two bits of all m digits change places -/
def sw : Nat → Nat → Nat
  | 0, _ => 0
  | m + 1, c => 2 * (c % 2) + c % 4 / 2 + 4 * sw m (c / 4)
theorem sw_lt : ∀ m c, sw m c < 4 ^ m
  | 0, c => Nat.one_pos
  | m + 1, c => by
    have := sw_lt m (c / 4)
    rw [sw, Nat.pow_succ]; omega
theorem sw_sw : ∀ m c, c < 4 ^ m → sw m (sw m c) = c
  | 0, c, h => by rw [Nat.pow_zero] at h; rw [sw]; omega
  | m + 1, c, h => by
    rw [Nat.pow_succ] at h
    have ih := sw_sw m (c / 4) (by omega)
    have e : sw (m + 1) c / 4 = sw m (c / 4) := by rw [sw]; omega
    have e4 : sw (m + 1) c = 2 * (c % 2) + c % 4 / 2 + 4 * sw m (c / 4) := rfl
    show 2 * (sw (m + 1) c % 2) + sw (m + 1) c % 4 / 2 + 4 * sw m (sw (m + 1) c / 4) = c
    rw [e, ih]
    generalize sw (m + 1) c = x at *
    rcases (by omega : c % 4 = 0 ∨ c % 4 = 1 ∨ c % 4 = 2 ∨ c % 4 = 3) with q | q | q | q <;> omega
theorem sw_at : ∀ m d c, d < m → sw m c / 4 ^ d % 4 = 2 * (c / 4 ^ d % 2) + c / 4 ^ d % 4 / 2
  | 0, d, c, h => by omega
  | m + 1, 0, c, h => by rw [sw, Nat.pow_zero, Nat.div_one, Nat.div_one]; omega
  | m + 1, d + 1, c, h => by
    have ih := sw_at m d (c / 4) (by omega)
    have e : sw (m + 1) c / 4 = sw m (c / 4) := by rw [sw]; omega
    have p : ∀ x, x / 4 ^ (d + 1) = x / 4 / 4 ^ d := fun x => by rw [Nat.pow_succ, Nat.mul_comm, Nat.div_div_eq_div_mul]
    rw [p, p, e]; exact ih
section
variable {S I : Nat} {t o t' o' t'' o'' : Int → Int}
/-- where and what, by the class, by the reference -/
def sC (k c d : Nat) : Nat × Nat := (if k = 2 then c / (2 * k) ^ d / 2 % 2 else 0, c / (2 * k) ^ d % 2)
def sR (k c d : Nat) : Nat × Nat := (c / (2 * k) ^ d % k, c / (2 * k) ^ d / k % 2)
def sMt (k I : Nat) (F : Nat → Nat × Nat) : Int → Int := fun a => if a / 3 < (k : Int) ∧ a % 3 < (I : Int) then ((F ((a / 3).toNat * I + (a % 3).toNat)).1 : Int) else 0
def sMo (k I : Nat) (F : Nat → Nat × Nat) : Int → Int := fun a => if a / 3 < (k : Int) ∧ a % 3 < (I : Int) then ((F ((a / 3).toNat * I + (a % 3).toNat)).2 : Int) else 0
/-- a machine that says so -/
def isSm (k I : Nat) (F : Nat → Nat × Nat) (t' o' : Int → Int) : Prop := ∀ p i : Nat, p < k → i < I → t' (3 * (p : Int) + (i : Int)) = ((F (p * I + i)).1 : Int) ∧ o' (3 * (p : Int) + (i : Int)) = ((F (p * I + i)).2 : Int)
theorem sM_is {k : Nat} (hI : I ≤ 3) (F : Nat → Nat × Nat) : isSm k I F (sMt k I F) (sMo k I F) := fun p i hp hi => by
  unfold sMt sMo
  have e1 : (3 * (p : Int) + (i : Int)) / 3 = (p : Int) := by omega
  have e2 : (3 * (p : Int) + (i : Int)) % 3 = (i : Int) := by omega
  rw [e1, e2, if_pos ⟨by omega, by omega⟩, if_pos ⟨by omega, by omega⟩, Int.toNat_natCast, Int.toNat_natCast]
  exact ⟨rfl, rfl⟩
theorem isSm_eq {k : Nat} {F : Nat → Nat × Nat} (hk : 0 < k) (hI : I ≤ 3) (hF : ∀ d, (F d).1 < k) (h1 : isSm k I F t' o') (h2 : isSm k I F t'' o'') : ∀ w, wok I w → dS t' 0 w = dS t'' 0 w ∧ (0 ≤ dS t' 0 w ∧ dS t' 0 w < (k : Int)) ∧ aS t' o' 0 w = aS t'' o'' 0 w := by
  refine w_ind hI ?_ ?_
  · rw [dS_0, dS_0, aS_0, aS_0]
    exact ⟨rfl, ⟨by omega, by omega⟩, rfl⟩
  · intro v j h3 h4 h5 ih
    obtain ⟨i1, i2, i3⟩ := ih
    obtain ⟨p, hp⟩ := Int.eq_ofNat_of_zero_le i2.1
    have a := h1 p j (by omega) h3
    have b := h2 p j (by omega) h3
    have f := hF (p * I + j)
    rw [dS_c _ _ _ h4, dS_c _ _ _ h4, aS_c _ _ _ _ h4, aS_c _ _ _ _ h4, ← i1, ← i3, hp, a.1, a.2, b.1, b.2]
    exact ⟨rfl, ⟨by omega, by omega⟩, rfl⟩
theorem isSm_UL {k : Nat} {F : Nat → Nat × Nat} (hk : 0 < k) (hI : I ≤ 3) (hF : ∀ d, (F d).1 < k) (h1 : isSm k I F t' o') (h2 : isSm k I F t'' o'') : UL I t o t' o' 0 0 = UL I t o t'' o'' 0 0 := by
  unfold UL
  refine fw_ext fun w => ?_
  constructor
  · rintro ⟨a, b⟩
    exact ⟨a, by rw [← (isSm_eq hk hI hF h1 h2 w a).2.2]; exact b⟩
  · rintro ⟨a, b⟩
    exact ⟨a, by rw [(isSm_eq hk hI hF h1 h2 w a).2.2]; exact b⟩
theorem isSm_FA (hS : S ≤ 6) (hm : mok t o) (hc : clo S t) {k e su : Nat} {F : Nat → Nat × Nat} (hk : 0 < k) (hI : I ≤ 3) (he : e < 3) (hsu : su < 2) (hF : ∀ d, (F d).1 < k) (h1 : isSm k I F t' o') (h2 : isSm k I F t'' o'') : FA S I t o e su t' o' ↔ FA S I t o e su t'' o'' := by
  have ok : ∀ w ∈ SWl S I t o e su, aS t' o' 0 w = aS t'' o'' 0 w := fun w hw => by
    unfold SWl at hw; rw [if_pos hsu] at hw
    exact (isSm_eq hk hI hF h1 h2 w (LFr_ok hS hI hm hc he hw).1).2.2
  unfold FA
  constructor
  · rintro ⟨w, a, b⟩; exact ⟨w, a, by rw [← ok w a]; exact b⟩
  · rintro ⟨w, a, b⟩; exact ⟨w, a, by rw [ok w a]; exact b⟩
/-- an equal one fails no test -/
theorem UL_FA (hS : S ≤ 6) (hI : I ≤ 3) (hm : mok t o) (hc : clo S t) {e su : Nat} (he : e < 3) (hsu : su < 2) (h : UL I t o t' o' 0 0 = -2) : ¬ FA S I t o e su t' o' := by
  rintro ⟨w, a, b⟩
  unfold SWl at a; rw [if_pos hsu] at a
  have wk := (LFr_ok hS hI hm hc he a).1
  rcases fw_cases (fun w => wok I w ∧ aS t o 0 w ≠ aS t' o' 0 w) with ⟨x, x1, x2, x3⟩ | ⟨x1, x2⟩
  · unfold UL at h; omega
  · exact x2 w ⟨wk, b⟩
/-- how many there are, pass, are equal -/
def sN (I k : Nat) : Nat := (2 * k) ^ (k * I)
noncomputable def sPa (S I : Nat) (t o : Int → Int) (e su k : Nat) : Nat := cntP (fun c => ¬ FA S I t o e su (sMt k I (sC k c)) (sMo k I (sC k c))) (sN I k)
noncomputable def sEq (I : Nat) (t o : Int → Int) (k : Nat) : Nat := cntP (fun c => UL I t o (sMt k I (sC k c)) (sMo k I (sC k c)) 0 0 = -2) (sN I k)
theorem sC_lt {k c d : Nat} (hk : k = 1 ∨ k = 2) : (sC k c d).1 < k ∧ (sC k c d).2 < 2 := by
  unfold sC; rcases hk with rfl | rfl
  · refine ⟨?_, Nat.mod_lt _ (by decide)⟩
    show (if (1 : Nat) = 2 then c / (2 * 1) ^ d / 2 % 2 else 0) < 1
    rw [if_neg (by decide)]; decide
  · refine ⟨?_, Nat.mod_lt _ (by decide)⟩
    show (if (2 : Nat) = 2 then c / (2 * 2) ^ d / 2 % 2 else 0) < 2
    rw [if_pos rfl]; exact Nat.mod_lt _ (by decide)
theorem sR_lt {k c d : Nat} (hk : k = 1 ∨ k = 2) : (sR k c d).1 < k ∧ (sR k c d).2 < 2 := by
  unfold sR; exact ⟨Nat.mod_lt _ (by omega), Nat.mod_lt _ (by decide)⟩
theorem sN_b {k : Nat} (hI : I ≤ 3) (hk : k = 1 ∨ k = 2) : sN I k ≤ 4096 := by
  unfold sN
  rcases hk with rfl | rfl
  · have : (2 * 1) ^ (1 * I) ≤ (2 * 1) ^ 3 := Nat.pow_le_pow_right (by decide) (by omega)
    omega
  · have : (2 * 2) ^ (2 * I) ≤ (2 * 2) ^ 6 := Nat.pow_le_pow_right (by decide) (by omega)
    omega
/-- a code's machine by the class is that of another code by the reference -/
theorem sRC {k c d : Nat} (hk : k = 1 ∨ k = 2) (hd : d < k * I) : sR k (if k = 2 then sw (k * I) c else c) d = sC k c d := by
  rcases hk with rfl | rfl
  · unfold sR sC
    rw [if_neg (by decide), if_neg (by decide), Nat.mod_one, Nat.div_one]
  · have := sw_at (2 * I) d c hd
    unfold sR sC
    rw [if_pos rfl, if_pos rfl, show 2 * 2 = 4 from rfl]
    have aux : ∀ x y : Nat, x % 4 = 2 * (y % 2) + y % 4 / 2 → x % 2 = y / 2 % 2 ∧ x / 2 % 2 = y % 2 := fun x y q => by rcases (by omega : y % 4 = 0 ∨ y % 4 = 1 ∨ y % 4 = 2 ∨ y % 4 = 3) with g | g | g | g <;> omega
    exact Prod.ext (aux _ _ this).1 (aux _ _ this).2
theorem sR_is {k c : Nat} (hI : I ≤ 3) (hk : k = 1 ∨ k = 2) : isSm k I (sC k c) (sMt k I (sR k (if k = 2 then sw (k * I) c else c))) (sMo k I (sR k (if k = 2 then sw (k * I) c else c))) := fun p i hp hi => by
  have := sM_is (k := k) hI (sR k (if k = 2 then sw (k * I) c else c)) p i hp hi
  rw [sRC hk (by
    have : (p + 1) * I ≤ k * I := Nat.mul_le_mul_right I (by omega)
    rw [Nat.succ_mul] at this; omega)] at this
  exact this
theorem sSw {k : Nat} (hk : k = 1 ∨ k = 2) : (∀ x, x < sN I k → (if k = 2 then sw (k * I) x else x) < sN I k) ∧ ∀ x, x < sN I k → (if k = 2 then sw (k * I) (if k = 2 then sw (k * I) x else x) else (if k = 2 then sw (k * I) x else x)) = x := by
  rcases hk with rfl | rfl
  · exact ⟨fun x h => by rw [if_neg (by decide)]; exact h, fun x h => by rw [if_neg (by decide), if_neg (by decide)]⟩
  · exact ⟨fun x h => by rw [if_pos rfl]; exact sw_lt _ _, fun x h => by rw [if_pos rfl, if_pos rfl]; exact sw_sw _ _ h⟩
theorem sPa_R (hS : S ≤ 6) (hm : mok t o) (hc : clo S t) {k e su : Nat} (hI : I ≤ 3) (hk : k = 1 ∨ k = 2) (he : e < 3) (hsu : su < 2) : cntP (fun c => ¬ FA S I t o e su (sMt k I (sR k c)) (sMo k I (sR k c))) (sN I k) = sPa S I t o e su k := by
  have s := sSw (I := I) hk
  refine (cnt_sw s.1 s.2 fun x hx => ?_).symm
  exact not_congr (isSm_FA hS hm hc (by omega) hI he hsu (fun d => (sC_lt hk).1) (sM_is hI _) (sR_is hI hk))
theorem sEq_R {k : Nat} (hI : I ≤ 3) (hk : k = 1 ∨ k = 2) : cntP (fun c => UL I t o (sMt k I (sR k c)) (sMo k I (sR k c)) 0 0 = -2) (sN I k) = sEq I t o k := by
  have s := sSw (I := I) hk
  refine (cnt_sw s.1 s.2 fun x hx => ?_).symm
  rw [isSm_UL (by omega) hI (fun d => (sC_lt hk).1) (sM_is hI _) (sR_is hI hk)]
end
