-- deps: 18 19 20 21 22 23 24 25 26 27 28 29 30 31 32 33 34 35 9S
/-! the class reads a text's pieces -/
def sg8 (x : Int) : Int := if x < 128 then x else x - 256
theorem sg8_c (x : Int) : (x < 128 ∧ sg8 x = x) ∨ (128 ≤ x ∧ sg8 x = x - 256) := by unfold sg8; split <;> omega
/-- the tape -/
def TPc (T : Int → Int) (h : HP) : Prop := ∀ j : Int, 0 ≤ j → j < 700 → (0 ≤ T j ∧ T j < 256) ∧ h 2 j = sg8 (T j)
theorem TPc_fr {T : Int → Int} {h h1 : HP} (H : TPc T h) (e : h1 2 = h 2) : TPc T h1 := by unfold TPc; rw [e]; exact H
section
variable {Q : RP} {n : Nat} {hr h : HP} {T : Int → Int} {N : Nat}
/-- a piece is at hand -/
def RTk (T : Int → Int) (N a : Nat) (h : HP) : Prop := h 1 5 = (N : Int) ∧ h 1 6 = ((tok T N a).2.2.2 : Int) ∧ h 1 7 = ((tok T N a).1 : Int) ∧ ((tok T N a).1 = 1 ∨ (tok T N a).1 = 2 → h 1 8 = ((tok T N a).2.1 : Int)) ∧ h 1 9 = ((tok T N a).2.2.1 : Int)
def RTp (T : Int → Int) (N p : Nat) (h : HP) : Prop := h 1 6 = ((tkP T N p).2.2.2 : Int) ∧ h 1 7 = ((tkP T N p).1 : Int) ∧ ((tkP T N p).1 = 1 ∨ (tkP T N p).1 = 2 → h 1 8 = ((tkP T N p).2.1 : Int)) ∧ h 1 9 = ((tkP T N p).2.2.1 : Int)
abbrev RPs : List (Int × Int) := [(1, 6), (1, 7), (1, 8), (1, 9)]
theorem R_203 {p : Nat} (V : CW n hr) (P : TPc T h) (hN : N ≤ 700) (hp : p ≤ N) (a5 : h 1 5 = (N : Int)) (a6 : h 1 6 = (p : Int)) (a7 : h 1 7 = if p < N then 4 else 0) (a8 : h 1 8 = 0) (a9 : h 1 9 = (p : Int)) (nl : p < N → ¬ isL (T (p : Int)) = true) (hQ : ∀ h1, EX [] RPs h h1 → RTp T N p h1 → Q (9, 0) n hr h1) : p_R_advance_203 (n + 0) (ai_q 0 n Q) 1 n hr h := by
  have b := rn_bd (P := isD) (T := T) hp
  have main := lupN (N := rn isD T N p - p) (P := fun k => ∀ h1, EX [] RPs h h1 → h1 1 6 = (p : Int) + (k : Int) → h1 1 7 = (if k = 0 then (if p < N then 4 else 0) else 2) → h1 1 8 = (nb T p k : Int) → h1 1 9 = (p : Int) → p_R_advance_203 (n + 0) (ai_q 0 n Q) 1 n hr h1) ?_ ?_
  · exact main h EX_rf (by rw [a6]; omega) a7 a8 a9
  · intro h1 e1 c6 c7 c8 c9
    have c5 : h1 1 5 = (N : Int) := by rw [e1 1 5 (by decide) (by decide)]; exact a5
    have P1 := TPc_fr P (EX_fn e1 (c := 2) (by decide) (by decide))
    have hQ1 := hQ h1 e1
    refine b_R_advance_203 ?_
    rcases Nat.lt_or_ge (rn isD T N p) N with y | y
    · have dd : (p : Int) + ((rn isD T N p - p : Nat) : Int) = ((rn isD T N p : Nat) : Int) := by omega
      rw [dd] at c6
      have t := P1 ((rn isD T N p : Nat) : Int) (by omega) (by omega)
      have s := sg8_c (T ((rn isD T N p : Nat) : Int))
      have nd := b.2.2.1 y
      rw [isD_i] at nd
      simp (disch := omega) only [ok_1 V.1, cr_1_0 V, c5, c6, c9, t.2, up_same, up_oth, w32_id, true_and]
      by_cases z : rn isD T N p = p
      · rw [z] at t s nd c6 y dd ⊢
        have d : ¬ isD (T (p : Int)) = true := by rw [isD_i]; exact nd
        have hO : ∀ v : Int, v = ((if T (p : Int) = 59 then 3 else 4 : Nat) : Int) → ai_q 0 n Q (9, 0) n hr (ai_up (ai_up h1 1 7 v) 1 6 ((p : Int) + 1)) := fun v hv => by
          have H := hQ (ai_up (ai_up h1 1 7 v) 1 6 ((p : Int) + 1)) (EX_upp (EX_upp e1 (by decide)) (by decide)) ⟨?_, ?_, ?_, ?_⟩
          · exact (by first | exact q_at rfl (H) | exact (H))
          · rw [up_same, tkP_O y (nl y) d]; unfold tkO; dsimp only; omega
          · rw [up_oth (by omega), up_same, tkP_O y (nl y) d]; exact hv
          · rw [tkP_O y (nl y) d]; unfold tkO; dsimp only; intro q; exfalso; revert q; split <;> omega
          · rw [up_oth (by omega), up_oth (by omega), tkP_O y (nl y) d]; exact c9
        have k59 : T (p : Int) = 59 → sg8 (T (p : Int)) = 59 := fun q => by omega
        have n59 : sg8 (T (p : Int)) = 59 → T (p : Int) = 59 := fun q => by omega
        refine ⟨fun q => by omega, fun _ => ?_⟩
        repeat (refine ⟨by omega, ?_⟩)
        refine ⟨fun q => ⟨fun q2 => by omega, fun _ => ⟨fun q2 => by omega, fun _ => ?_⟩⟩, fun q => ?_⟩
        · repeat (refine ⟨by omega, ?_⟩)
          exact ⟨fun q3 => hO 4 (by rw [if_neg (fun r => q3 (k59 r))]; rfl), fun q3 => hO 3 (by rw [if_pos (n59 q3)]; rfl)⟩
        · repeat (refine ⟨by omega, ?_⟩)
          refine ⟨fun q4 => ⟨fun q2 => by omega, fun _ => ⟨fun q2 => by omega, fun _ => ?_⟩⟩, fun q4 => by omega⟩
          repeat (refine ⟨by omega, ?_⟩)
          exact ⟨fun q3 => hO 4 (by rw [if_neg (fun r => q3 (k59 r))]; rfl), fun q3 => hO 3 (by rw [if_pos (n59 q3)]; rfl)⟩
      · have pd : isD (T (p : Int)) = true := b.2.2.2 p (Nat.le_refl _) (by omega)
        have fin : Q (9, 0) n hr h1 := hQ1 (by
          unfold RTp
          rw [tkP_D (by omega) (nl (by omega)) pd]
          unfold tkD
          dsimp only
          refine ⟨c6, ?_, fun _ => c8, c9⟩
          rw [c7, if_neg (by omega)]; rfl)
        refine ⟨fun q => by omega, fun _ => ?_⟩
        repeat (refine ⟨by omega, ?_⟩)
        refine ⟨fun q => ⟨fun q2 => (by first | exact q_at rfl (fin) | exact (fin)), fun q2 => by omega⟩, fun q => ?_⟩
        repeat (refine ⟨by omega, ?_⟩)
        exact ⟨fun q4 => ⟨fun q2 => (by first | exact q_at rfl (fin) | exact (fin)), fun q2 => by omega⟩, fun q4 => by omega⟩
    · have z : rn isD T N p = N := by omega
      rw [z] at c6 c7 c8
      have dd : (p : Int) + ((N - p : Nat) : Int) = (N : Int) := by omega
      rw [dd] at c6
      have fin : Q (9, 0) n hr h1 := hQ1 (by
        unfold RTp
        by_cases w : p < N
        · have pd : isD (T (p : Int)) = true := b.2.2.2 p (Nat.le_refl _) (by omega)
          rw [tkP_D (by omega) (nl (by omega)) pd]
          unfold tkD
          dsimp only
          rw [z]
          refine ⟨c6, ?_, fun _ => c8, c9⟩
          rw [c7, if_neg (by omega)]; rfl
        · rw [tkP_0 (by omega)]
          dsimp only
          refine ⟨by rw [c6]; omega, ?_, fun q => by omega, c9⟩
          rw [c7, if_pos (by omega), if_neg w]; rfl)
      simp (disch := omega) only [ok_1 V.1, cr_1_0 V, c5, c6, c9, true_and]
      exact ⟨fun _ => ⟨fun q => (by first | exact q_at rfl (fin) | exact (fin)), fun q => ⟨fun _ => (by first | exact q_at rfl (fin) | exact (fin)), fun q => by omega⟩⟩, fun q => by omega⟩
  · intro k hk ih h1 e1 c6 c7 c8 c9
    have c5 : h1 1 5 = (N : Int) := by rw [e1 1 5 (by decide) (by decide)]; exact a5
    have P1 := TPc_fr P (EX_fn e1 (c := 2) (by decide) (by decide))
    have t := P1 ((p : Int) + (k : Int)) (by omega) (by omega)
    have s := sg8_c (T ((p : Int) + (k : Int)))
    have d := isD_i.mp (b.2.2.2 (p + k) (by omega) (by omega))
    rw [show ((p + k : Nat) : Int) = (p : Int) + (k : Int) by omega] at d
    have vb := nb_lt (T := T) (p := p) k fun i i1 i2 => b.2.2.2 i i1 (by omega)
    refine b_R_advance_203 ?_
    simp (disch := omega) only [ok_1 V.1, cr_1_0 V, c5, c6, c8, t.2, up_same, up_oth, w32_id, true_and]
    repeat (first | refine ⟨by omega, ?_⟩ | refine fun (_ : (_ : Int) ≤ _) => ?_ | refine fun (_ : (_ : Int) < _) => ?_ | refine fun (_ : (_ : Int) = _) => ?_ | refine fun (_ : (_ : Int) ≠ _) => ?_)
    refine ⟨fun q => ?_, fun q => ?_⟩
    · refine ih _ (EX_upp (EX_upp (EX_upp e1 (by decide)) (by decide)) (by decide)) ?_ ?_ ?_ ?_
      · rw [up_same]; omega
      · rw [up_oth (by omega), up_same, if_neg (by omega)]
      · rw [up_oth (by omega), up_oth (by omega), up_same]
        show _ = ((if _ then _ else _ : Nat) : Int)
        rw [if_pos (by omega)]
      · rw [up_oth (by omega), up_oth (by omega), up_oth (by omega)]; exact c9
    · repeat (refine ⟨by omega, ?_⟩)
      refine ih _ (EX_upp (EX_upp (EX_upp e1 (by decide)) (by decide)) (by decide)) ?_ ?_ ?_ ?_
      · rw [up_same]; omega
      · rw [up_oth (by omega), up_same, if_neg (by omega)]
      · rw [up_oth (by omega), up_oth (by omega), up_same]
        show _ = ((if _ then _ else _ : Nat) : Int)
        rw [if_neg (by omega)]
        omega
      · rw [up_oth (by omega), up_oth (by omega), up_oth (by omega)]; exact c9
/-- a letter more -/
theorem or_ltr {x d k : Nat} (hk : k < 6) (hx : x < 32 ^ k) (hd : d < 32) : i_or ((x * 32 ^ (6 - k) : Nat) : Int) (i_shl (d : Int) (25 - 5 * (k : Int))) = (((32 * x + d) * 32 ^ (6 - (k + 1)) : Nat) : Int) := by
  have e : 25 - 5 * (k : Int) = ((25 - 5 * k : Nat) : Int) := by omega
  have h1 : d * 2 ^ (25 - 5 * k) < 2 ^ (30 - 5 * k) := by
    have : (2 : Nat) ^ (30 - 5 * k) = 32 * 2 ^ (25 - 5 * k) := by rw [show 30 - 5 * k = 5 + (25 - 5 * k) by omega, Nat.pow_add]
    rw [this]
    exact Nat.mul_lt_mul_of_pos_right hd (Nat.pow_pos (by decide))
  have h2 : (2 : Nat) ^ (30 - 5 * k) ≤ 2 ^ 30 := Nat.pow_le_pow_right (by decide) (by omega)
  have e6 : (32 : Nat) ^ (6 - k) = 2 ^ (30 - 5 * k) := by rw [show (32 : Nat) = 2 ^ 5 by decide, ← Nat.pow_mul]; congr 1; omega
  have e5 : (32 : Nat) ^ (6 - (k + 1)) = 2 ^ (25 - 5 * k) := by rw [show (32 : Nat) = 2 ^ 5 by decide, ← Nat.pow_mul]; congr 1; omega
  have h3 : x * 2 ^ (30 - 5 * k) + 2 ^ (30 - 5 * k) ≤ 2 ^ 30 := by
    have : (x + 1) * 2 ^ (30 - 5 * k) ≤ 32 ^ k * 2 ^ (30 - 5 * k) := Nat.mul_le_mul_right _ hx
    have e7 : (32 : Nat) ^ k * 2 ^ (30 - 5 * k) = 2 ^ 30 := by rw [show (32 : Nat) = 2 ^ 5 by decide, ← Nat.pow_mul, ← Nat.pow_add]; congr 1; omega
    rw [e7, Nat.add_mul, Nat.one_mul] at this
    exact this
  rw [e, shl_n (by omega) (by omega), e6, or_add h1 (by omega), e5]
  congr 1
  have : (2 : Nat) ^ (30 - 5 * k) = 32 * 2 ^ (25 - 5 * k) := by rw [show 30 - 5 * k = 5 + (25 - 5 * k) by omega, Nat.pow_add]
  rw [this, Nat.add_mul, Nat.mul_comm 32 x, Nat.mul_assoc]
theorem i_or_0 {x : Nat} (hx : x < 2 ^ 31) : i_or (x : Int) 0 = (x : Int) := by
  have := or_n (x := x) (y := 0) hx (by decide)
  rw [Nat.or_zero] at this
  exact this
/-- the letters read so far -/
def nvw (T : Int → Int) (p e k : Nat) : Nat := if k ≤ 6 then nv T p e k * 32 ^ (6 - k) else nv T p e 6
theorem nvw_0 (T : Int → Int) (p e : Nat) : nvw T p e 0 = 0 := by
  unfold nvw; rw [if_pos (by omega), show nv T p e 0 = 0 from rfl, Nat.zero_mul]
theorem R_88 {p : Nat} (V : CW n hr) (P : TPc T h) (hN : N ≤ 700) (hp : p ≤ N) (a5 : h 1 5 = (N : Int)) (a6 : h 1 6 = (p : Int)) (a7 : h 1 7 = if p < N then 4 else 0) (a8 : h 1 8 = 0) (a9 : h 1 9 = (p : Int)) (hQ : ∀ h1, EX [] RPs h h1 → RTp T N p h1 → Q (9, 0) n hr h1) : p_R_advance_88 (n + 0) (ai_q 0 n Q) 1 25 n hr h := by
  have b := rn_bd (P := isL) (T := T) hp
  have main := lupN (N := rn isL T N p - p) (P := fun k => ∀ h1, EX [] RPs h h1 → h1 1 6 = (p : Int) + (k : Int) → h1 1 7 = (if k = 0 then (if p < N then 4 else 0) else if k ≤ 6 then 1 else 4) → h1 1 8 = (nvw T p (rn isL T N p) k : Int) → h1 1 9 = (p : Int) → p_R_advance_88 (n + 0) (ai_q 0 n Q) 1 (25 - 5 * (k : Int)) n hr h1) ?_ ?_
  · exact main h EX_rf (by rw [a6]; omega) a7 (by rw [nvw_0]; exact a8) a9
  · intro h1 e1 c6 c7 c8 c9
    have c5 : h1 1 5 = (N : Int) := by rw [e1 1 5 (by decide) (by decide)]; exact a5
    have P1 := TPc_fr P (EX_fn e1 (c := 2) (by decide) (by decide))
    refine b_R_advance_88 ?_
    by_cases z : rn isL T N p = p
    · rw [z, Nat.sub_self] at c6 c7 c8
      have nl : p < N → ¬ isL (T (p : Int)) = true := fun q => by have := b.2.2.1 (by omega); rw [z] at this; exact this
      have g : p_R_advance_203 (n + 0) (ai_q 0 n Q) 1 n hr h1 := R_203 V P1 hN hp c5 (by rw [c6]; omega) (by rw [c7, if_pos rfl]) (by rw [c8, nvw_0]; rfl) c9 nl fun h2 e2 r2 => hQ h2 (EX_tr e1 e2) r2
      have c6' : h1 1 6 = (p : Int) := by rw [c6]; omega
      by_cases w : p < N
      · have t := P1 (p : Int) (by omega) (by omega)
        have s := sg8_c (T (p : Int))
        have ni := nl w
        rw [isL_i] at ni
        simp (disch := omega) only [ok_1 V.1, cr_1_0 V, c5, c6', c9, t.2, true_and]
        refine ⟨fun q => by omega, fun _ => ?_⟩
        repeat (refine ⟨by omega, ?_⟩)
        refine ⟨fun q => ⟨fun _ => g, fun q2 => by omega⟩, fun q => ?_⟩
        repeat (refine ⟨by omega, ?_⟩)
        exact ⟨fun q3 => ⟨fun _ => g, fun q2 => by omega⟩, fun q3 => by omega⟩
      · simp (disch := omega) only [ok_1 V.1, cr_1_0 V, c5, c6', c9, true_and]
        exact ⟨fun q => ⟨fun _ => g, fun q2 => by omega⟩, fun q => by omega⟩
    · have pl : isL (T (p : Int)) = true := b.2.2.2 p (Nat.le_refl _) (by omega)
      have dd : (p : Int) + ((rn isL T N p - p : Nat) : Int) = ((rn isL T N p : Nat) : Int) := by omega
      rw [dd] at c6
      have fin : Q (9, 0) n hr h1 := hQ h1 e1 (by
        unfold RTp
        rw [tkP_L (by omega) pl]
        unfold tkL
        dsimp only
        refine ⟨c6, ?_, fun q => ?_, c9⟩
        · rw [c7, if_neg (by omega)]
          by_cases y : rn isL T N p ≤ p + 6
          · rw [if_pos (by omega), if_pos y]; rfl
          · rw [if_neg (by omega), if_neg y]; rfl
        · have y : rn isL T N p ≤ p + 6 := Classical.byContradiction fun y => by rw [if_neg y] at q; omega
          rw [c8]
          unfold nvw
          rw [if_pos (by omega)]
          have := nv_pad (T := T) (p := p) (e := rn isL T N p) (m := rn isL T N p - p) (by omega) (6 - (rn isL T N p - p))
          rw [show rn isL T N p - p + (6 - (rn isL T N p - p)) = 6 by omega] at this
          rw [this])
      rcases Nat.lt_or_ge (rn isL T N p) N with y | y
      · have t := P1 ((rn isL T N p : Nat) : Int) (by omega) (by omega)
        have s := sg8_c (T ((rn isL T N p : Nat) : Int))
        have ni := b.2.2.1 y
        rw [isL_i] at ni
        simp (disch := omega) only [ok_1 V.1, cr_1_0 V, c5, c6, c9, t.2, true_and]
        refine ⟨fun q => by omega, fun _ => ?_⟩
        repeat (refine ⟨by omega, ?_⟩)
        refine ⟨fun q => ⟨fun q2 => by omega, fun _ => (by first | exact q_at rfl (fin) | exact (fin))⟩, fun q => ?_⟩
        repeat (refine ⟨by omega, ?_⟩)
        exact ⟨fun q3 => ⟨fun q2 => by omega, fun _ => (by first | exact q_at rfl (fin) | exact (fin))⟩, fun q3 => by omega⟩
      · simp (disch := omega) only [ok_1 V.1, cr_1_0 V, c5, c6, c9, true_and]
        exact ⟨fun q => ⟨fun q2 => by omega, fun _ => (by first | exact q_at rfl (fin) | exact (fin))⟩, fun q => by omega⟩
  · intro k hk ih h1 e1 c6 c7 c8 c9
    have c5 : h1 1 5 = (N : Int) := by rw [e1 1 5 (by decide) (by decide)]; exact a5
    have P1 := TPc_fr P (EX_fn e1 (c := 2) (by decide) (by decide))
    have t := P1 ((p : Int) + (k : Int)) (by omega) (by omega)
    have s := sg8_c (T ((p : Int) + (k : Int)))
    have d := isL_i.mp (b.2.2.2 (p + k) (by omega) (by omega))
    rw [show ((p + k : Nat) : Int) = (p : Int) + (k : Int) by omega] at d
    obtain ⟨c, hc⟩ := Int.eq_ofNat_of_zero_le (show 0 ≤ T ((p : Int) + (k : Int)) - 96 by omega)
    have vb := nv_lt (T := T) (p := p) (e := rn isL T N p) b.2.2.2 k
    have nx := nv_y (T := T) (p := p) (e := rn isL T N p) (k := k) (by omega)
    rw [hc, Int.toNat_natCast] at nx
    have e97 : sg8 (T ((p : Int) + (k : Int))) - 97 + 1 = (c : Int) := by omega
    have st : ∀ (v kd : Int) (h2 : HP), h2 = ai_up (ai_up (ai_up h1 1 8 v) 1 7 kd) 1 6 ((p : Int) + (k : Int) + 1) → v = (nvw T p (rn isL T N p) (k + 1) : Int) → kd = (if k + 1 ≤ 6 then 1 else 4) → p_R_advance_88 (n + 0) (ai_q 0 n Q) 1 (25 - 5 * (k : Int) + -5) n hr h2 := by
      intro v kd h2 e2 ev ek
      rw [show 25 - 5 * (k : Int) + -5 = 25 - 5 * ((k + 1 : Nat) : Int) by omega, e2]
      refine ih _ (EX_upp (EX_upp (EX_upp e1 (by decide)) (by decide)) (by decide)) ?_ ?_ ?_ ?_
      · rw [up_same]; omega
      · rw [up_oth (by omega), up_same, if_neg (by omega)]; exact ek
      · rw [up_oth (by omega), up_oth (by omega), up_same]; exact ev
      · rw [up_oth (by omega), up_oth (by omega), up_oth (by omega)]; exact c9
    refine b_R_advance_88 ?_
    rcases Nat.lt_or_ge k 6 with k6 | k6
    · have e8 : i_or (h1 1 8) (i_shl (c : Int) (25 - 5 * (k : Int))) = (nvw T p (rn isL T N p) (k + 1) : Int) := by
        rw [c8]
        unfold nvw
        rw [if_pos (by omega), if_pos (by omega), nx]
        exact or_ltr k6 vb (by omega)
      simp (disch := omega) only [ok_1 V.1, cr_1_0 V, c5, c6, t.2, up_same, up_oth, w32_id, e97, e8, true_and]
      repeat (first | refine ⟨by omega, ?_⟩ | refine fun (_ : (_ : Int) ≤ _) => ?_ | refine fun (_ : (_ : Int) < _) => ?_ | refine fun (_ : (_ : Int) = _) => ?_ | refine fun (_ : (_ : Int) ≠ _) => ?_)
      exact ⟨fun q => st _ _ _ rfl rfl (by rw [if_pos (by omega)]), fun q => by omega⟩
    · have v6 := nv_lt (T := T) (p := p) (e := rn isL T N p) b.2.2.2 6
      have e32 : (32 : Nat) ^ 6 = 1073741824 := by decide
      have e8 : i_or (h1 1 8) 0 = (nvw T p (rn isL T N p) (k + 1) : Int) := by
        rw [c8]
        unfold nvw
        rw [if_neg (show ¬ k + 1 ≤ 6 by omega)]
        by_cases y : k ≤ 6
        · have : k = 6 := by omega
          subst this
          rw [if_pos (by omega), Nat.sub_self, Nat.pow_zero, Nat.mul_one]
          exact i_or_0 (by omega)
        · rw [if_neg y]
          exact i_or_0 (by omega)
      simp (disch := omega) only [ok_1 V.1, cr_1_0 V, c5, c6, t.2, up_same, up_oth, w32_id, e8, true_and]
      repeat (first | refine ⟨by omega, ?_⟩ | refine fun (_ : (_ : Int) ≤ _) => ?_ | refine fun (_ : (_ : Int) < _) => ?_ | refine fun (_ : (_ : Int) = _) => ?_ | refine fun (_ : (_ : Int) ≠ _) => ?_)
      exact ⟨fun _ => ⟨fun q => by omega, fun q => st _ _ _ rfl rfl (by rw [if_neg (by omega)])⟩, fun q => by omega⟩
theorem sp_R_advance {a : Nat} (V : CW n hr) (P : TPc T h) (hN : N ≤ 700) (ha : a ≤ N) (a5 : h 1 5 = (N : Int)) (a6 : h 1 6 = (a : Int)) (hQ : ∀ h1, EX [] RPs h h1 → RTk T N a h1 → Q (9, 0) n hr h1) : f_R_advance [(2, 1)] n hr h Q := by
  have b := rn_bd (P := isB) (T := T) ha
  apply e_R_advance
  have main := lupN (N := rn isB T N a - a) (P := fun k => ∀ h1, EX [] RPs h h1 → h1 1 6 = (a : Int) + (k : Int) → p_R_advance_0 (n + 0) (ai_q 0 n Q) 1 n hr h1) ?_ ?_
  · exact main h EX_rf (by rw [a6]; omega)
  · intro h1 e1 c6
    have c5 : h1 1 5 = (N : Int) := by rw [e1 1 5 (by decide) (by decide)]; exact a5
    have P1 := TPc_fr P (EX_fn e1 (c := 2) (by decide) (by decide))
    have dd : (a : Int) + ((rn isB T N a - a : Nat) : Int) = ((rn isB T N a : Nat) : Int) := by omega
    rw [dd] at c6
    have et : tok T N a = tkP T N (rn isB T N a) := rfl
    unfold RTk at hQ
    rw [et] at hQ
    generalize rn isB T N a = p at *
    have go : ∀ kd : Int, kd = (if p < N then 4 else 0) → p_R_advance_88 (n + 0) (ai_q 0 n Q) 1 25 n hr (ai_up (ai_up (ai_up h1 1 9 (p : Int)) 1 8 0) 1 7 kd) := fun kd hk => by
      have e2 : EX [] RPs h (ai_up (ai_up (ai_up h1 1 9 (p : Int)) 1 8 0) 1 7 kd) := EX_upp (EX_upp (EX_upp e1 (by decide)) (by decide)) (by decide)
      refine R_88 V (TPc_fr P (EX_fn e2 (by decide) (by decide))) hN b.2.1 ?_ ?_ ?_ ?_ ?_ fun h3 e3 r3 => hQ h3 (EX_tr e2 e3) ⟨?_, r3⟩
      · rw [e2 1 5 (by decide) (by decide)]; exact a5
      · simp (disch := omega) only [up_oth]; exact c6
      · rw [up_same]; exact hk
      · rw [up_oth (by omega), up_same]
      · rw [up_oth (by omega), up_oth (by omega), up_same]
      · rw [e3 1 5 (by decide) (by decide), e2 1 5 (by decide) (by decide)]; exact a5
    refine b_R_advance_0 ?_
    rcases Nat.lt_or_ge p N with y | y
    · have t := P1 (p : Int) (by omega) (by omega)
      have s := sg8_c (T (p : Int))
      have ni := b.2.2.1 y
      rw [isB_i] at ni
      simp (disch := omega) only [ok_1 V.1, cr_1_0 V, c5, c6, t.2, up_oth, true_and]
      repeat (first | refine ⟨by omega, ?_⟩ | refine fun (_ : (_ : Int) ≤ _) => ?_ | refine fun (_ : (_ : Int) < _) => ?_ | refine fun (_ : (_ : Int) = _) => ?_ | refine fun (_ : (_ : Int) ≠ _) => ?_)
      exact ⟨fun q => ⟨fun q2 => by omega, fun _ => go 4 (by rw [if_pos y])⟩, fun q => by omega⟩
    · simp (disch := omega) only [ok_1 V.1, cr_1_0 V, c5, c6, up_oth, true_and]
      exact ⟨fun _ => ⟨fun _ => go 0 (by rw [if_neg (by omega)]), fun q => by omega⟩, fun q => by omega⟩
  · intro k hk ih h1 e1 c6
    have c5 : h1 1 5 = (N : Int) := by rw [e1 1 5 (by decide) (by decide)]; exact a5
    have P1 := TPc_fr P (EX_fn e1 (c := 2) (by decide) (by decide))
    have t := P1 ((a : Int) + (k : Int)) (by omega) (by omega)
    have s := sg8_c (T ((a : Int) + (k : Int)))
    have d := isB_i.mp (b.2.2.2 (a + k) (by omega) (by omega))
    rw [show ((a + k : Nat) : Int) = (a : Int) + (k : Int) by omega] at d
    refine b_R_advance_0 ?_
    simp (disch := omega) only [ok_1 V.1, cr_1_0 V, c5, c6, t.2, w32_id, true_and]
    have nx := ih (ai_up h1 1 6 ((a : Int) + (k : Int) + 1)) (EX_upp e1 (by decide)) (by rw [up_same]; omega)
    rcases d with d | d
    · have e10 : sg8 (T ((a : Int) + (k : Int))) = 10 := by omega
      refine ⟨fun q => by omega, fun _ => ⟨by omega, by omega, fun _ => nx, fun q => by omega⟩⟩
    · repeat (first | refine ⟨by omega, ?_⟩ | refine fun (_ : (_ : Int) ≤ _) => ?_ | refine fun (_ : (_ : Int) < _) => ?_ | refine fun (_ : (_ : Int) = _) => ?_ | refine fun (_ : (_ : Int) ≠ _) => ?_)
      exact nx
end
