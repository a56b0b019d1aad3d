-- deps: 18 19 20 21 22 23 24 25 26 27 28 29 30 31 32 33 34 35 9S 9U
/-! the reference: a piece -/
def srtN (k : TK) : Int := if k.1 = 0 then 4 else if k.1 = 1 then (if wi k.2.1 < 0 then 1 else 0) else if k.1 = 2 then 2 else if k.1 = 3 then 3 else 5
def vln (k : TK) : Int := if k.1 = 1 ∧ 0 ≤ wi k.2.1 then wi k.2.1 else (k.2.1 : Int)
theorem wi_r (v : Nat) : -1 ≤ wi v ∧ wi v ≤ 6 := by
  unfold wi
  repeat (first | omega | split)
section
variable {Q : RP} {n : Nat} {hr h : HP} {T : Int → Int} {N : Nat}
def NTs (k : TK) (h : HP) : Prop := h 138 12 = (k.2.2.2 : Int) ∧ h 138 13 = (k.2.2.1 : Int) ∧ h 138 14 = srtN k ∧ (k.1 = 1 ∨ k.1 = 2 → h 138 15 = vln k)
abbrev NPp : List (Int × Int) := [(138, 12), (138, 13), (138, 14), (138, 15)]
theorem N_tok64 {p : Nat} (W : NW n hr) (P : TPn T h) (hN : N ≤ 700) (hp : p < N) (pl : isL (T (p : Int)) = true) (c11 : h 138 11 = (N : Int)) (c12 : h 138 12 = (p : Int)) (c13 : h 138 13 = (p : Int)) (hQ : ∀ h1, EX [] NPp h h1 → NTs (tkP T N p) h1 → Q (9, 0) n hr h1) : p_N_token_64 (n + 0) (ai_q 0 n Q) 138 n hr h := by
  have b := rn_bd (P := isL) (T := T) (n := N) (a := p) (by omega)
  have b2 : p < rn isL T N p := by
    have := rn_bd (P := isL) (T := T) (n := N) (a := p + 1) (by omega)
    rw [rn_y ⟨hp, pl⟩]; omega
  rw [tkP_L hp pl] at hQ
  unfold tkL at hQ
  generalize rn isL T N p = e at *
  have main := lupN (N := e - p) (P := fun k => ∀ h1, EX [] [(138, 12)] h h1 → h1 138 12 = (p : Int) + (k : Int) → p_N_token_64 (n + 0) (ai_q 0 n Q) 138 n hr h1) ?_ ?_
  · exact main h EX_rf (by rw [c12]; omega)
  · intro h1 e1 d12
    have d11 : h1 138 11 = (N : Int) := by rw [e1 138 11 (by decide) (by decide)]; exact c11
    have d13 : h1 138 13 = (p : Int) := by rw [e1 138 13 (by decide) (by decide)]; exact c13
    have P1 := TPn_fr P (EX_fn e1 (c := 139) (by decide) (by decide))
    rw [show (p : Int) + ((e - p : Nat) : Int) = (e : Int) by omega] at d12
    have E1 : EX [] NPp h h1 := EX_le e1 (by decide) (by decide)
    refine b_N_token_64 ⟨n0 W, sp_N_here W (by rw [d12, d11]; omega) ?_⟩
    dsimp only
    have ns : ¬ (97 ≤ (if h1 138 12 < h1 138 11 then h1 139 (h1 138 12) else -1) ∧ (if h1 138 12 < h1 138 11 then h1 139 (h1 138 12) else -1) ≤ 122) := by
      rw [d12, d11]
      by_cases y : (e : Int) < (N : Int)
      · rw [if_pos y, (P1 (e : Int) (by omega) (by omega)).2]
        have := b.2.2.1 (by omega)
        rw [isL_i] at this
        exact this
      · rw [if_neg y]; omega
    refine sp_N_isSmall (fun q => absurd q ns) (fun _ => ⟨fun _ => ⟨n0 W, ?_⟩, fun q => absurd rfl q⟩)
    refine sp_N_wordHere W P1 b2 (by omega) d12 d13 b.2.2.2 ?_
    dsimp only
    simp (disch := omega) only [n0 W, up_same, up_oth, d12, d13, w32_id, true_and]
    by_cases y : e ≤ p + 6
    · rw [if_pos y] at hQ ⊢
      have wr := wi_r (nv T p e 6)
      have hs : srtN (1, nv T p e 6, p, e) = if wi (nv T p e 6) < 0 then 1 else 0 := rfl
      have hv1 : 0 ≤ wi (nv T p e 6) → vln (1, nv T p e 6, p, e) = wi (nv T p e 6) := fun q => if_pos ⟨rfl, q⟩
      have hv0 : ¬ 0 ≤ wi (nv T p e 6) → vln (1, nv T p e 6, p, e) = (nv T p e 6 : Int) := fun q => if_neg fun r => q r.2
      by_cases z : wi (nv T p e 6) = -1
      · refine ⟨fun _ => ⟨fun _ => ⟨fun q => absurd rfl q, fun _ => ?_⟩, fun q => by omega⟩, fun q => absurd z q⟩
        have e2 : EX [] NPp h (ai_up (ai_up h1 138 15 (wi (nv T p e 6))) 138 14 1) := EX_upp (EX_upp E1 (by decide)) (by decide)
        refine sp_N_nameHere W (TPn_fr P (EX_fn e2 (by decide) (by decide))) b2 (by omega) (by simp (disch := omega) only [up_oth]; exact d12) (by simp (disch := omega) only [up_oth]; exact d13) b.2.2.2 ?_
        refine q_at rfl (hQ _ (EX_upp e2 (by decide)) ⟨?_, ?_, ?_, fun _ => ?_⟩)
        · simp (disch := omega) only [up_oth]; exact d12
        · simp (disch := omega) only [up_oth]; exact d13
        · rw [up_oth (by omega), up_same, hs, if_pos (by omega)]
        · rw [up_same, hv0 (by omega)]
      · refine ⟨fun q => absurd q z, fun _ => ⟨fun _ => ?_, fun q => by omega⟩⟩
        refine q_at rfl (hQ _ (EX_upp (EX_upp E1 (by decide)) (by decide)) ⟨?_, ?_, ?_, fun _ => ?_⟩)
        · simp (disch := omega) only [up_oth]; exact d12
        · simp (disch := omega) only [up_oth]; exact d13
        · rw [up_same, hs, if_neg (by omega)]
        · rw [up_oth (by omega), up_same, hv1 (by omega)]
    · rw [if_neg y] at hQ ⊢
      refine ⟨fun _ => ⟨fun q => by omega, fun _ => ⟨fun _ => ?_, fun q => by omega⟩⟩, fun q => absurd rfl q⟩
      refine q_at rfl (hQ _ (EX_upp (EX_upp E1 (by decide)) (by decide)) ⟨?_, ?_, ?_, fun q => by have q' : (4 : Nat) = 1 ∨ (4 : Nat) = 2 := q; omega⟩)
      · simp (disch := omega) only [up_oth]; exact d12
      · simp (disch := omega) only [up_oth]; exact d13
      · rw [up_same]; rfl
  · intro k hk ih h1 e1 d12
    have d11 : h1 138 11 = (N : Int) := by rw [e1 138 11 (by decide) (by decide)]; exact c11
    have P1 := TPn_fr P (EX_fn e1 (c := 139) (by decide) (by decide))
    have l := isL_i.mp (b.2.2.2 (p + k) (by omega) (by omega))
    rw [show ((p + k : Nat) : Int) = (p : Int) + (k : Int) by omega] at l
    refine b_N_token_64 ⟨n0 W, sp_N_here W (by rw [d12, d11]; omega) ?_⟩
    dsimp only
    have is : 97 ≤ (if h1 138 12 < h1 138 11 then h1 139 (h1 138 12) else -1) ∧ (if h1 138 12 < h1 138 11 then h1 139 (h1 138 12) else -1) ≤ 122 := by
      rw [d12, d11, if_pos (by omega), (P1 _ (by omega) (by omega)).2]; exact l
    refine sp_N_isSmall (fun _ => ⟨fun q => absurd q (by decide), fun _ => ?_⟩) (fun q => absurd is q)
    simp (disch := omega) only [n0 W, d12, w32_id, true_and]
    exact ih _ (EX_upp e1 (by decide)) (by rw [up_same]; omega)
theorem N_tok162 {p : Nat} (W : NW n hr) (P : TPn T h) (hN : N ≤ 700) (hp : p < N) (nl : ¬ isL (T (p : Int)) = true) (pd : isD (T (p : Int)) = true) (c11 : h 138 11 = (N : Int)) (c12 : h 138 12 = (p : Int)) (c13 : h 138 13 = (p : Int)) (c14 : h 138 14 = 2) (c15 : h 138 15 = 0) (hQ : ∀ h1, EX [] NPp h h1 → NTs (tkP T N p) h1 → Q (9, 0) n hr h1) : p_N_token_162 (n + 0) (ai_q 0 n Q) 138 n hr h := by
  have b := rn_bd (P := isD) (T := T) (n := N) (a := p) (by omega)
  rw [tkP_D hp nl pd] at hQ
  unfold tkD at hQ
  generalize rn isD T N p = e at *
  have main := lupN (N := e - p) (P := fun k => ∀ h1, EX [] [(138, 12), (138, 15)] h h1 → h1 138 12 = (p : Int) + (k : Int) → h1 138 15 = (nb T p k : Int) → p_N_token_162 (n + 0) (ai_q 0 n Q) 138 n hr h1) ?_ ?_
  · exact main h EX_rf (by rw [c12]; omega) c15
  · intro h1 e1 d12 d15
    have d11 : h1 138 11 = (N : Int) := by rw [e1 138 11 (by decide) (by decide)]; exact c11
    have P1 := TPn_fr P (EX_fn e1 (c := 139) (by decide) (by decide))
    rw [show (p : Int) + ((e - p : Nat) : Int) = (e : Int) by omega] at d12
    refine b_N_token_162 ⟨n0 W, sp_N_here W (by rw [d12, d11]; omega) ?_⟩
    dsimp only
    have ns : ¬ (48 ≤ (if h1 138 12 < h1 138 11 then h1 139 (h1 138 12) else -1) ∧ (if h1 138 12 < h1 138 11 then h1 139 (h1 138 12) else -1) ≤ 57) := by
      rw [d12, d11]
      by_cases y : (e : Int) < (N : Int)
      · rw [if_pos y, (P1 (e : Int) (by omega) (by omega)).2]
        have := b.2.2.1 (by omega)
        rw [isD_i] at this
        exact this
      · rw [if_neg y]; omega
    refine sp_N_isDigit (fun q => absurd q ns) (fun _ => ⟨fun _ => ?_, fun q => absurd rfl q⟩)
    refine q_at rfl (hQ _ (EX_le e1 (by decide) (by decide)) ⟨d12, ?_, ?_, fun _ => ?_⟩)
    · rw [e1 138 13 (by decide) (by decide)]; exact c13
    · rw [e1 138 14 (by decide) (by decide)]; exact c14
    · rw [d15]; rfl
  · intro k hk ih h1 e1 d12 d15
    have d11 : h1 138 11 = (N : Int) := by rw [e1 138 11 (by decide) (by decide)]; exact c11
    have P1 := TPn_fr P (EX_fn e1 (c := 139) (by decide) (by decide))
    have l := isD_i.mp (b.2.2.2 (p + k) (by omega) (by omega))
    rw [show ((p + k : Nat) : Int) = (p : Int) + (k : Int) by omega] at l
    have vb := nb_lt (T := T) (p := p) k fun i i1 i2 => b.2.2.2 i i1 (by omega)
    have t := P1 ((p : Int) + (k : Int)) (by omega) (by omega)
    obtain ⟨c, hc⟩ := Int.eq_ofNat_of_zero_le (show 0 ≤ T ((p : Int) + (k : Int)) - 48 by omega)
    have eb := nb_s T p k
    rw [hc, Int.toNat_natCast] at eb
    refine b_N_token_162 ⟨n0 W, sp_N_here W (by rw [d12, d11]; omega) ?_⟩
    dsimp only
    have is : 48 ≤ (if h1 138 12 < h1 138 11 then h1 139 (h1 138 12) else -1) ∧ (if h1 138 12 < h1 138 11 then h1 139 (h1 138 12) else -1) ≤ 57 := by
      rw [d12, d11, if_pos (by omega), t.2]; exact l
    refine sp_N_isDigit (fun _ => ⟨fun q => absurd q (by decide), fun _ => ⟨n0 W, ?_⟩⟩) (fun q => absurd is q)
    rw [d15]
    refine ⟨fun q => ⟨n0 W, n0 W, sp_N_here W (by rw [d12, d11]; omega) ?_⟩, fun q => ?_⟩
    · dsimp only
      rw [d12, d11, if_pos (by omega), t.2]
      simp (disch := omega) only [n0 W, up_oth, up_same, d12, w32_id, true_and]
      rw [if_neg (by omega)] at eb
      refine ih _ (EX_upp (EX_upp e1 (by decide)) (by decide)) (by rw [up_same]; omega) ?_
      rw [up_oth (by omega), up_same, eb]
      omega
    · simp (disch := omega) only [n0 W, up_oth, up_same, d12, d15, w32_id, true_and]
      rw [if_pos (by omega)] at eb
      refine ih _ (EX_upp (EX_upp e1 (by decide)) (by decide)) (by rw [up_same]; omega) ?_
      rw [up_oth (by omega), up_same, eb]
theorem sp_N_token {a : Nat} (W : NW n hr) (P : TPn T h) (hN : N ≤ 700) (ha : a ≤ N) (c11 : h 138 11 = (N : Int)) (c12 : h 138 12 = (a : Int)) (hQ : ∀ h1, EX [] NPp h h1 → NTs (tok T N a) h1 → Q (9, 0) n hr h1) : f_N_token [(2, 138)] n hr h Q := by
  have b := rn_bd (P := isB) (T := T) ha
  apply e_N_token
  have main := lupN (N := rn isB T N a - a) (P := fun k => ∀ h1, EX [] [(138, 12)] h h1 → h1 138 12 = (a : Int) + (k : Int) → p_N_token_0 (n + 0) (ai_q 0 n Q) 138 n hr h1) ?_ ?_
  · exact main h EX_rf (by rw [c12]; omega)
  · intro h1 e1 d12
    have d11 : h1 138 11 = (N : Int) := by rw [e1 138 11 (by decide) (by decide)]; exact c11
    have P1 := TPn_fr P (EX_fn e1 (c := 139) (by decide) (by decide))
    rw [show (a : Int) + ((rn isB T N a - a : Nat) : Int) = ((rn isB T N a : Nat) : Int) by omega] at d12
    have et : tok T N a = tkP T N (rn isB T N a) := rfl
    rw [et] at hQ
    generalize rn isB T N a = p at *
    have hh : (if h1 138 12 < h1 138 11 then h1 139 (h1 138 12) else -1) = if (p : Int) < (N : Int) then T (p : Int) else -1 := by
      rw [d12, d11]
      by_cases y : (p : Int) < (N : Int)
      · rw [if_pos y, if_pos y, (P1 (p : Int) (by omega) (by omega)).2]
      · rw [if_neg y, if_neg y]
    have E1 : EX [] NPp h (ai_up h1 138 13 (p : Int)) := EX_upp (EX_le e1 (by decide) (by decide)) (by decide)
    have P2 := TPn_fr P (EX_fn E1 (c := 139) (by decide) (by decide))
    have k11 : (ai_up h1 138 13 (p : Int)) 138 11 = (N : Int) := by rw [up_oth (by omega)]; exact d11
    have k12 : (ai_up h1 138 13 (p : Int)) 138 12 = (p : Int) := by rw [up_oth (by omega)]; exact d12
    have hh2 : (if (ai_up h1 138 13 (p : Int)) 138 12 < (ai_up h1 138 13 (p : Int)) 138 11 then (ai_up h1 138 13 (p : Int)) 139 ((ai_up h1 138 13 (p : Int)) 138 12) else -1) = if (p : Int) < (N : Int) then T (p : Int) else -1 := by
      rw [k12, k11]
      by_cases y : (p : Int) < (N : Int)
      · rw [if_pos y, if_pos y, (P2 (p : Int) (by omega) (by omega)).2]
      · rw [if_neg y, if_neg y]
    refine b_N_token_0 ⟨n0 W, sp_N_here W (by rw [d12, d11]; omega) ?_⟩
    dsimp only
    rw [hh]
    rcases Nat.lt_or_ge p N with y | y
    · have nbk := b.2.2.1 y
      rw [isB_i] at nbk
      have t := P1 (p : Int) (by omega) (by omega)
      rw [if_pos (show (p : Int) < (N : Int) by omega)]
      refine ⟨fun q => by omega, fun _ => ⟨n0 W, sp_N_here W (by rw [d12, d11]; omega) ?_⟩⟩
      dsimp only
      rw [hh, if_pos (show (p : Int) < (N : Int) by omega)]
      refine ⟨fun _ => ?_, fun q => by omega⟩
      simp (disch := omega) only [n0 W, d12, true_and]
      refine sp_N_here W (by rw [k12, k11]; omega) ?_
      dsimp only
      rw [hh2, if_pos (show (p : Int) < (N : Int) by omega)]
      refine ⟨fun _ => ?_, fun q => by omega⟩
      refine sp_N_isSmall (fun q => ⟨fun z => absurd z (by decide), fun _ => ?_⟩) (fun q => ⟨fun _ => ?_, fun z => absurd rfl z⟩)
      · exact N_tok64 W P2 hN y (isL_i.mpr q) k11 k12 up_same fun h2 e2 s2 => hQ h2 (EX_tr E1 e2) s2
      · have nl : ¬ isL (T (p : Int)) = true := by rw [isL_i]; exact q
        refine sp_N_isDigit (fun q2 => ⟨fun z => absurd z (by decide), fun _ => ?_⟩) (fun q2 => ⟨fun _ => ?_, fun z => absurd rfl z⟩)
        · simp (disch := omega) only [n0 W, true_and]
          have E2 : EX [] NPp h (ai_up (ai_up (ai_up h1 138 13 (p : Int)) 138 14 2) 138 15 0) := EX_upp (EX_upp E1 (by decide)) (by decide)
          refine N_tok162 W (TPn_fr P (EX_fn E2 (by decide) (by decide))) hN y nl (isD_i.mpr q2) ?_ ?_ ?_ ?_ up_same fun h2 e2 s2 => hQ h2 (EX_tr E2 e2) s2
          · simp (disch := omega) only [up_oth]; exact d11
          · simp (disch := omega) only [up_oth]; exact d12
          · simp (disch := omega) only [up_oth, up_same]
          · simp (disch := omega) only [up_oth, up_same]
        · have nd : ¬ isD (T (p : Int)) = true := by rw [isD_i]; exact q2
          rw [tkP_O y nl nd] at hQ
          unfold tkO at hQ
          simp (disch := omega) only [n0 W, up_oth, up_same, d12, w32_id, true_and]
          refine ⟨fun z => ?_, fun z => ?_⟩
          · rw [if_neg z] at hQ
            refine q_at rfl (hQ _ (EX_upp (EX_upp E1 (by decide)) (by decide)) ⟨?_, ?_, ?_, fun r => by have r' : (4 : Nat) = 1 ∨ (4 : Nat) = 2 := r; omega⟩)
            · rw [up_same]; dsimp only; omega
            · simp (disch := omega) only [up_oth, up_same]
            · simp (disch := omega) only [up_oth, up_same]; rfl
          · rw [if_pos z] at hQ
            refine q_at rfl (hQ _ (EX_upp (EX_upp E1 (by decide)) (by decide)) ⟨?_, ?_, ?_, fun r => by have r' : (3 : Nat) = 1 ∨ (3 : Nat) = 2 := r; omega⟩)
            · rw [up_same]; dsimp only; omega
            · simp (disch := omega) only [up_oth, up_same]
            · simp (disch := omega) only [up_oth, up_same]; rfl
    · rw [if_neg (show ¬ (p : Int) < (N : Int) by omega)]
      refine ⟨fun q => absurd q (by decide), fun _ => ⟨n0 W, sp_N_here W (by rw [d12, d11]; omega) ?_⟩⟩
      dsimp only
      rw [hh, if_neg (show ¬ (p : Int) < (N : Int) by omega)]
      refine ⟨fun _ => ?_, fun q => absurd q (by decide)⟩
      simp (disch := omega) only [n0 W, d12, true_and]
      refine sp_N_here W (by rw [k12, k11]; omega) ?_
      dsimp only
      rw [hh2, if_neg (show ¬ (p : Int) < (N : Int) by omega)]
      refine ⟨fun q => absurd rfl q, fun _ => ?_⟩
      rw [tkP_0 y] at hQ
      refine ⟨n0 W, q_at rfl (hQ _ (EX_upp E1 (by decide)) ⟨?_, ?_, ?_, fun r => by have r' : (0 : Nat) = 1 ∨ (0 : Nat) = 2 := r; omega⟩)⟩
      · rw [up_oth (by omega)]; exact k12
      · rw [up_oth (by omega), up_same]
      · rw [up_same]; rfl
  · intro k hk ih h1 e1 d12
    have d11 : h1 138 11 = (N : Int) := by rw [e1 138 11 (by decide) (by decide)]; exact c11
    have P1 := TPn_fr P (EX_fn e1 (c := 139) (by decide) (by decide))
    have l := isB_i.mp (b.2.2.2 (a + k) (by omega) (by omega))
    rw [show ((a + k : Nat) : Int) = (a : Int) + (k : Int) by omega] at l
    have t := P1 ((a : Int) + (k : Int)) (by omega) (by omega)
    have nx := ih (ai_up h1 138 12 ((a : Int) + (k : Int) + 1)) (EX_upp e1 (by decide)) (by rw [up_same]; omega)
    refine b_N_token_0 ⟨n0 W, sp_N_here W (by rw [d12, d11]; omega) ?_⟩
    dsimp only
    rw [d12, d11, if_pos (by omega), t.2]
    refine ⟨fun q => ?_, fun q => ⟨n0 W, sp_N_here W (by rw [d12, d11]; omega) ?_⟩⟩
    · simp (disch := omega) only [n0 W, d12, w32_id, true_and]
      exact nx
    · dsimp only
      rw [d12, d11, if_pos (by omega), t.2]
      refine ⟨fun q2 => by omega, fun q2 => ?_⟩
      simp (disch := omega) only [n0 W, d12, w32_id, true_and]
      exact nx
end
