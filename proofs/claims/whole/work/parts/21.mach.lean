/-! Arrays.fill; Machine: its rows -/
theorem sp_J_fill {Q : RP} {x v : Int} {n : Nat} {hr h : HP} (hx : ai_ok n x 50) (hQ : Q (9, 0) n hr (ai_fl h x (ai_l x) (fun _ => v))) : f_J_fill [(2, x), (0, v)] n hr h Q := by
  apply e_J_fill
  refine ⟨hx, ?_⟩
  have hl := l_le x
  have := lup (P := fun k => p_J_fill_5 (n + 0) (ai_q 0 n Q) x v k (ai_l x) n hr (ai_fl h x k (fun _ => v))) (N := ai_l x) ?_ ?_ hl.1
  · rw [fl_0] at this; exact this
  · exact b_J_fill_5 ⟨fun _ => q_at rfl hQ, fun z => by omega⟩
  · intro k h1 h2 ih
    refine b_J_fill_5 ⟨fun z => by omega, fun _ => ⟨hx, h1, h2, ?_⟩⟩
    rw [w32_id (by omega) (by omega), fl_s (F := fun _ => v) h1]
    exact ih
theorem sp_M_still {Q : RP} {m a b : Int} {n : Nat} {hr h : HP} (hm : mrow hr m n) (hQ : Q (9, 0) n hr (ai_fl (ai_fl (ai_up (ai_up h m 2 a) m 3 b) (m + 1) 24 (fun j => j / 3)) (m + 2) 24 (fun _ => 0))) : f_M_still [(2, m), (0, a), (0, b)] n hr h Q := by
  obtain ⟨r1, r2, r3, r4, r5, r6, r7⟩ := hm
  apply e_M_still
  refine ⟨r1, r1, ?_⟩
  have := lup (P := fun k => p_M_still_12 (n + 0) (ai_q 0 n Q) m k n hr (ai_fl (ai_fl (ai_up (ai_up h m 2 a) m 3 b) (m + 1) k (fun j => j / 3)) (m + 2) k (fun _ => 0))) (N := 24) ?_ ?_ (by omega)
  · rw [fl_0, fl_0] at this; exact this
  · exact b_M_still_12 ⟨fun _ => q_at rfl hQ, fun z => by omega⟩
  · intro k h1 h2 ih
    refine b_M_still_12 ⟨fun z => by omega, fun _ => ?_⟩
    simp only [r1, r2, r3, r4, r5, r6, r7, true_and]
    refine ⟨by omega, h1, h2, h1, h2, ?_⟩
    rw [w32_id (by omega) (by omega), div_i h1 (by omega) (by omega) (by omega), fl2_s (F := fun j => j / 3) (G := fun _ => 0) h1 (by omega)]
    exact ih
/-- what telling rows of arcs makes of a place of 'to' and of 'out' -/
def tlT (row to : Int → Int) (j : Int) : Int := if row j = -1 then to j else row j / 16
def tlO (row out : Int → Int) (j : Int) : Int := if row j = -1 then out j else row j % 16
theorem sp_M_tellArcs {Q : RP} {m x : Int} {n : Nat} {hr h : HP} (hm : mrow hr m n) (hx : ai_ok n x 50) (hxl : ai_l x = 24) (hx1 : x ≠ m + 1) (hx2 : x ≠ m + 2) (hrow : ∀ j, 0 ≤ j → j < 24 → -1 ≤ h x j ∧ h x j < 256) (hQ : Q (9, 0) n hr (ai_fl (ai_fl h (m + 1) 24 (tlT (h x) (h (m + 1)))) (m + 2) 24 (tlO (h x) (h (m + 2))))) : f_M_tellArcs [(2, m), (2, x)] n hr h Q := by
  obtain ⟨r1, r2, r3, r4, r5, r6, r7⟩ := hm
  apply e_M_tellArcs
  have := lup (P := fun k => p_M_tellArcs_2 (n + 0) (ai_q 0 n Q) m x k n hr (ai_fl (ai_fl h (m + 1) k (tlT (h x) (h (m + 1)))) (m + 2) k (tlO (h x) (h (m + 2))))) (N := 24) ?_ ?_ (by omega)
  · rw [fl_0, fl_0] at this; exact this
  · exact b_M_tellArcs_2 ⟨fun _ => q_at rfl hQ, fun z => by omega⟩
  · intro k h1 h2 ih
    have e1 : ∀ j, (ai_fl (ai_fl h (m + 1) k (tlT (h x) (h (m + 1)))) (m + 2) k (tlO (h x) (h (m + 2)))) x j = h x j := fun j => by rw [fl_out hx2, fl_out hx1]
    have hv := hrow k h1 h2
    refine b_M_tellArcs_2 ⟨fun z => by omega, fun _ => ⟨hx, fun z => by omega, fun _ => ⟨hx, h1, by omega, fun z => ?_, fun z => ?_⟩⟩⟩
    · rw [e1] at z
      rw [w32_id (by omega) (by omega)]
      have e2 := fl_keep (h := h) (x := m + 1) (F := tlT (h x) (h (m + 1))) h1 (by unfold tlT; rw [if_pos z])
      have e3 := fl_keep (h := ai_fl h (m + 1) k (tlT (h x) (h (m + 1)))) (x := m + 2) (F := tlO (h x) (h (m + 2))) h1 (by unfold tlO; rw [if_pos z, fl_out (by omega)])
      rw [e2, e3] at ih
      exact ih
    · simp only [e1] at z ⊢
      simp only [r1, r2, r3, r4, r5, r6, r7, hx, hxl, true_and]
      refine ⟨h1, h2, h1, h2, h1, h2, h1, h2, ?_⟩
      rw [w32_id (by omega) (by omega), up_oth (Or.inl hx1), e1, shr_4 (by omega) (by omega), and_15 (by omega) (by omega)]
      have e4 := fl2_s (h := h) (x := m + 1) (y := m + 2) (F := tlT (h x) (h (m + 1))) (G := tlO (h x) (h (m + 2))) h1 (by omega)
      rw [show tlT (h x) (h (m + 1)) k = h x k / 16 by unfold tlT; rw [if_neg z], show tlO (h x) (h (m + 2)) k = h x k % 16 by unfold tlO; rw [if_neg z]] at e4
      rw [e4]
      exact ih
theorem sp_M_has {Q : RP} {m p i : Int} {n : Nat} {hr h : HP} (hm : mrow hr m n) (hQ : Q (0, if 0 ≤ p ∧ p < h m 2 ∧ 0 ≤ i ∧ i < h m 3 then 1 else 0) n hr h) : f_M_has [(2, m), (0, p), (0, i)] n hr h Q := by
  obtain ⟨r1, r2, r3, r4, r5, r6, r7⟩ := hm
  have hno : ¬ (0 ≤ p ∧ p < h m 2 ∧ 0 ≤ i ∧ i < h m 3) → Q (0, 0) n hr h := fun z => by rwa [if_neg z] at hQ
  apply e_M_has
  refine ⟨fun z => ⟨Or.inl rfl, q_at rfl (hno (by omega))⟩, fun z => ⟨r1, fun z2 => ⟨Or.inl rfl, q_at rfl (hno (by omega))⟩, fun z2 => ⟨fun z3 => ⟨Or.inl rfl, q_at rfl (hno (by omega))⟩, fun z3 => ⟨r1, fun z4 => ⟨Or.inl rfl, q_at rfl (hno (by omega))⟩, fun z4 => ⟨Or.inr rfl, q_at rfl ?_⟩⟩⟩⟩⟩
  rwa [if_pos ⟨z, z2, z3, z4⟩] at hQ
theorem sp_M_part {Q : RP} {m p i w : Int} {n : Nat} {hr h : HP} (hm : mrow hr m n) (hp : 0 ≤ p ∧ p < 8) (hi : 0 ≤ i ∧ i < 3) (hQ : Q (0, if w = 0 then h (m + 1) (3 * p + i) else h (m + 2) (3 * p + i)) n hr h) : f_M_part [(2, m), (0, p), (0, i), (0, w)] n hr h Q := by
  obtain ⟨r1, r2, r3, r4, r5, r6, r7⟩ := hm
  have e1 : w32 (w32 (p * 3) + i) = 3 * p + i := by rw [w32_id (x := p * 3) (by omega) (by omega), w32_id (by omega) (by omega)]; omega
  apply e_M_part
  simp only [r1, r2, r3, r4, r5, r6, r7, e1, true_and]
  refine ⟨fun z => ⟨by omega, by omega, q_at rfl ?_⟩, fun z => ⟨by omega, by omega, q_at rfl ?_⟩⟩
  · rwa [if_neg z] at hQ
  · rwa [if_pos z] at hQ
theorem sp_M_set {Q : RP} {m p i t o : Int} {n : Nat} {hr h : HP} (hm : mrow hr m n) (hp : 0 ≤ p ∧ p < 8) (hi : 0 ≤ i ∧ i < 3) (hQ : Q (9, 0) n hr (ai_up (ai_up h (m + 1) (3 * p + i) t) (m + 2) (3 * p + i) o)) : f_M_set [(2, m), (0, p), (0, i), (0, t), (0, o)] n hr h Q := by
  obtain ⟨r1, r2, r3, r4, r5, r6, r7⟩ := hm
  have e1 : w32 (w32 (p * 3) + i) = 3 * p + i := by rw [w32_id (x := p * 3) (by omega) (by omega), w32_id (by omega) (by omega)]; omega
  apply e_M_set
  simp only [r1, r2, r3, r4, r5, r6, r7, e1, true_and]
  exact ⟨by omega, by omega, by omega, by omega, q_at rfl hQ⟩
theorem sp_M_copyArcs {Q : RP} {m o : Int} {n : Nat} {hr h : HP} (hm : mrow hr m n) (ho : mrow hr o n) (hmo : o + 2 < m ∨ m + 2 < o) (hQ : Q (9, 0) n hr (ai_fl (ai_fl h (m + 1) 24 (h (o + 1))) (m + 2) 24 (h (o + 2)))) : f_M_copyArcs [(2, m), (2, o)] n hr h Q := by
  obtain ⟨r1, r2, r3, r4, r5, r6, r7⟩ := hm
  obtain ⟨s1, s2, s3, s4, s5, s6, s7⟩ := ho
  apply e_M_copyArcs
  simp only [r1, r2, r3, r4, r5, r6, r7, s1, s2, s3, s4, s5, s6, s7, true_and]
  refine ⟨by omega, by omega, by omega, by omega, by omega, by omega, by omega, by omega, by omega, by omega, q_at rfl ?_⟩
  rw [cp_fl (by omega), cp_fl (by omega)]
  have : (fun j => ai_fl h (m + 1) 24 (fun j => h (o + 1) j) (o + 2) j) = h (o + 2) := by
    funext j; rw [fl_out (by omega)]
  rw [this]
  exact hQ
