/-! going through spots in the order of words: pure -/
section BFS
variable {ni LIM dead : Nat} {st : Nat → Nat → Nat} {s0 : Nat}
def sg (st : Nat → Nat → Nat) (s0 : Nat) (w : Nat) : Nat := if h : w = 0 then s0 else st (sg st s0 (w / 4)) (w % 4 - 1)
termination_by w
decreasing_by omega
theorem sg_0 : sg st s0 0 = s0 := by unfold sg; simp
theorem sg_s {w : Nat} (h : w ≠ 0) : sg st s0 w = st (sg st s0 (w / 4)) (w % 4 - 1) := by rw [sg, dif_neg h]
theorem sg_c (v j : Nat) (hj : j < 3) : sg st s0 (4 * v + j + 1) = st (sg st s0 v) j := by
  rw [sg_s (by omega)]
  congr 2 <;> omega
theorem wok_c {m v j : Nat} (hj : j < 3) : wok m (4 * v + j + 1) ↔ (j < m ∧ wok m v) := by
  rw [wok_s (by omega), show (4 * v + j + 1) / 4 = v by omega, show (4 * v + j + 1) % 4 = j + 1 by omega]
  exact ⟨fun h => ⟨by omega, h.2⟩, fun h => ⟨⟨by omega, by omega⟩, h.2⟩⟩
/-- the queue: spots and the first words that come to them; hd and i: whose input is looked at now -/
def BI (ni LIM dead : Nat) (st : Nat → Nat → Nat) (s0 : Nat) (sp pa : Nat → Nat) (tail hd i : Nat) : Prop :=
  ni ≤ 3 ∧ 1 ≤ tail ∧ pa 0 = 0 ∧ sp 0 = s0 ∧ (∀ k, k < tail → wok ni (pa k) ∧ sg st s0 (pa k) = sp k ∧ sp k ≠ dead) ∧ (∀ j k, j < k → k < tail → pa j < pa k) ∧ (∀ j k, j < k → k < tail → sp j ≠ sp k) ∧ hd ≤ tail ∧ i ≤ ni ∧
  (∀ k j, k < tail → j < ni → (k < hd ∨ (k = hd ∧ j < i)) → 4 * pa k + j + 1 < LIM → st (sp k) j ≠ dead → ∃ k2, k2 < tail ∧ sp k2 = st (sp k) j ∧ pa k2 ≤ 4 * pa k + j + 1) ∧
  (hd < tail → ∀ k, k < tail → pa k < 4 * pa hd + i + 1)
theorem BI_0 {sp pa : Nat → Nat} (hn : ni ≤ 3) (h0 : s0 ≠ dead) (hp : pa 0 = 0) (hs : sp 0 = s0) : BI ni LIM dead st s0 sp pa 1 0 0 := by
  refine ⟨hn, by omega, hp, hs, fun k hk => ?_, fun j k h1 h2 => by omega, fun j k h1 h2 => by omega, by omega, by omega, fun k j h1 h2 h3 => by omega, fun _ k hk => ?_⟩
  · have : k = 0 := by omega
    subst this
    rw [hp, hs]
    exact ⟨wok_0 ni, sg_0, h0⟩
  · have : k = 0 := by omega
    subst this
    omega
/-- the next of the queue -/
theorem BI_n {sp pa : Nat → Nat} {tail hd : Nat} (h : BI ni LIM dead st s0 sp pa tail hd ni) (hh : hd < tail) : BI ni LIM dead st s0 sp pa tail (hd + 1) 0 := by
  obtain ⟨a1, a2, a3, a4, a5, a6, a7, a8, a9, a10, a11⟩ := h
  refine ⟨a1, a2, a3, a4, a5, a6, a7, by omega, by omega, fun k j h1 h2 h3 => a10 k j h1 h2 (by omega), fun h k hk => ?_⟩
  have := a11 hh k hk
  have := a6 hd (hd + 1) (by omega) h
  omega
/-- a spot that was come to already, or that isn't kept -/
theorem BI_o {sp pa : Nat → Nat} {tail hd i : Nat} (h : BI ni LIM dead st s0 sp pa tail hd i) (hh : hd < tail) (hi : i < ni) (ho : 4 * pa hd + i + 1 < LIM → st (sp hd) i ≠ dead → ∃ k, k < tail ∧ sp k = st (sp hd) i) : BI ni LIM dead st s0 sp pa tail hd (i + 1) := by
  obtain ⟨a1, a2, a3, a4, a5, a6, a7, a8, a9, a10, a11⟩ := h
  refine ⟨a1, a2, a3, a4, a5, a6, a7, a8, by omega, fun k j h1 h2 h3 h4 h5 => ?_, fun h k hk => by have := a11 h k hk; omega⟩
  by_cases hq : k = hd ∧ j = i
  · obtain ⟨rfl, rfl⟩ := hq
    obtain ⟨k2, b1, b2⟩ := ho h4 h5
    exact ⟨k2, b1, b2, by have := a11 hh k2 b1; omega⟩
  · exact a10 k j h1 h2 (by omega) h4 h5
/-- a new spot -/
theorem BI_p {sp pa sp' pa' : Nat → Nat} {tail hd i : Nat} (h : BI ni LIM dead st s0 sp pa tail hd i) (hh : hd < tail) (hi : i < ni) (hd0 : st (sp hd) i ≠ dead) (hnew : ∀ k, k < tail → sp k ≠ st (sp hd) i) (hs : ∀ k, sp' k = if k = tail then st (sp hd) i else sp k) (hp : ∀ k, pa' k = if k = tail then 4 * pa hd + i + 1 else pa k) : BI ni LIM dead st s0 sp' pa' (tail + 1) hd (i + 1) := by
  obtain ⟨a1, a2, a3, a4, a5, a6, a7, a8, a9, a10, a11⟩ := h
  have es : ∀ k, k < tail → sp' k = sp k := fun k hk => by rw [hs, if_neg (by omega)]
  have ep : ∀ k, k < tail → pa' k = pa k := fun k hk => by rw [hp, if_neg (by omega)]
  have et : sp' tail = st (sp hd) i := by rw [hs, if_pos rfl]
  have eq : pa' tail = 4 * pa hd + i + 1 := by rw [hp, if_pos rfl]
  refine ⟨a1, by omega, by rw [ep 0 (by omega)]; exact a3, by rw [es 0 (by omega)]; exact a4, fun k hk => ?_, fun j k h1 h2 => ?_, fun j k h1 h2 => ?_, by omega, by omega, fun k j h1 h2 h3 h4 h5 => ?_, fun _ k hk => ?_⟩
  · by_cases hq : k = tail
    · subst hq
      rw [et, eq]
      obtain ⟨b1, b2, b3⟩ := a5 hd hh
      exact ⟨(wok_c (by omega)).mpr ⟨hi, b1⟩, by rw [sg_c _ _ (by omega), b2], hd0⟩
    · rw [es k (by omega), ep k (by omega)]
      exact a5 k (by omega)
  · by_cases hq : k = tail
    · subst hq
      rw [eq, ep j h1]
      exact a11 hh j h1
    · rw [ep j (by omega), ep k (by omega)]
      exact a6 j k h1 (by omega)
  · by_cases hq : k = tail
    · subst hq
      rw [et, es j h1]
      exact hnew j h1
    · rw [es j (by omega), es k (by omega)]
      exact a7 j k h1 (by omega)
  · have hk : k < tail := by omega
    rw [es k hk] at h5 ⊢
    rw [ep k hk] at h4 ⊢
    by_cases hq : k = hd ∧ j = i
    · obtain ⟨rfl, rfl⟩ := hq
      exact ⟨tail, by omega, et, by rw [eq]; omega⟩
    · obtain ⟨k2, b1, b2, b3⟩ := a10 k j hk h2 (by omega) h4 h5
      exact ⟨k2, by omega, by rw [es k2 b1]; exact b2, by rw [ep k2 b1]; exact b3⟩
  · rw [ep hd hh]
    by_cases hq : k = tail
    · subst hq
      rw [eq]; omega
    · rw [ep k (by omega)]
      have := a11 hh k (by omega)
      omega
/-- all words ahead are stood for by the queue -/
theorem BI_r {sp pa : Nat → Nat} {tail hd i : Nat} (h : BI ni LIM dead st s0 sp pa tail hd i) (hdd : ∀ j, st dead j = dead) : ∀ w : Nat, wok ni w → w < LIM → sg st s0 w ≠ dead → (hd < tail → w < 4 * pa hd + i + 1) → ∃ k, k < tail ∧ sp k = sg st s0 w ∧ pa k ≤ w := by
  obtain ⟨a1, a2, a3, a4, a5, a6, a7, a8, a9, a10, a11⟩ := h
  intro w
  induction w using Nat.strongRecOn with
  | ind w ih =>
    intro h1 h2 h3 h4
    by_cases hw : w = 0
    · subst hw
      exact ⟨0, by omega, by rw [sg_0]; exact a4, by omega⟩
    · have e1 := (wok_s hw).mp h1
      have e2 := sg_s (st := st) (s0 := s0) hw
      have hv : sg st s0 (w / 4) ≠ dead := fun q => h3 (by rw [e2, q]; exact hdd _)
      obtain ⟨k, b1, b2, b3⟩ := ih (w / 4) (by omega) e1.2 (by omega) hv (fun q => by have := h4 q; omega)
      have hbefore : k < hd ∨ (k = hd ∧ w % 4 - 1 < i) := by
        by_cases q : hd < tail
        · have q2 := h4 q
          by_cases q3 : k < hd
          · exact Or.inl q3
          · by_cases q4 : k = hd
            · subst q4; exact Or.inr ⟨rfl, by omega⟩
            · have := a6 hd k (by omega) b1
              omega
        · exact Or.inl (by omega)
      obtain ⟨k2, c1, c2, c3⟩ := a10 k (w % 4 - 1) b1 (by omega) hbefore (by omega) (by rw [b2, ← e2]; exact h3)
      exact ⟨k2, c1, by rw [c2, b2, ← e2], by omega⟩
end BFS
/-- different small numbers are few -/
theorem few {N : Nat} : ∀ (t : Nat) (f : Nat → Nat), (∀ k, k < t → f k < N) → (∀ j k, j < k → k < t → f j ≠ f k) → t ≤ N := by
  induction N with
  | zero => intro t f h1 _; cases t with
            | zero => omega
            | succ t => have := h1 0 (by omega); omega
  | succ N ih =>
    intro t f h1 h2
    by_cases hq : ∃ k, k < t ∧ f k = N
    · obtain ⟨k0, c1, c2⟩ := hq
      have := ih (t - 1) (fun k => if k < k0 then f k else f (k + 1)) (fun k hk => by
        by_cases q : k < k0
        · have e1 := h1 k (by omega); have e2 := h2 k k0 q c1
          simp only [if_pos q]; omega
        · have e1 := h1 (k + 1) (by omega); have e2 := h2 k0 (k + 1) (by omega) (by omega)
          simp only [if_neg q]; omega) (fun j k hjk hk => by
        by_cases q : k < k0
        · simp only [if_pos q, if_pos (show j < k0 by omega)]; exact h2 j k hjk (by omega)
        · by_cases q2 : j < k0
          · simp only [if_neg q, if_pos q2]; exact h2 j (k + 1) (by omega) (by omega)
          · simp only [if_neg q, if_neg q2]; exact h2 (j + 1) (k + 1) (by omega) (by omega))
      omega
    · exact Nat.le_succ_of_le (ih t f (fun k hk => by
        have e1 := h1 k hk
        have e2 : f k ≠ N := fun z => hq ⟨k, hk, z⟩
        omega) h2)
