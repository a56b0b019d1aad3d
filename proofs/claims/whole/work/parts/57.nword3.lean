-- deps: 18 19 20 21 23 24 25 26 27 28 29 22 30 31 32 33 34 35 36 37 38 39 40 47 48 50 51 52 53 54
/-! the reference: words for all -/
section
variable {Q : RP} {n : Nat} {hr h : HP} {S I : Nat} {t o : Int → Int}
theorem sp_N_isOf {wh w : Nat} (W : NW n hr) (T : TV S I t o) (X : NX S I t o h) (P : NP S I t o h) (hwh : wh < 3) (hw : wok I w) (hl : wlen w ≤ 8) (h1 : fOK t o (RMk S I t) wh w → Q (0, 1) n hr h) (h0 : ¬ fOK t o (RMk S I t) wh w → Q (0, 0) n hr h) : f_N_isOf [(2, 138), (0, (wh : Int)), (0, (w : Int))] n hr h Q := by
  obtain ⟨hS, hI, hm, hc, hT⟩ := T
  have wk := wl15 (show wlen w ≤ 15 by omega)
  have w3 := wok3 hI hw
  have pair : ∀ a b : Nat, (if wh = 0 then aS t o (a : Int) w ≠ aS t o (b : Int) w else if wh = 1 then (aS t o (a : Int) w = aS t o (b : Int) w → dS t (a : Int) w = dS t (b : Int) w) else dS t (a : Int) w = dS t (b : Int) w) ↔ ((wh = 0 → aS t o (a : Int) w ≠ aS t o (b : Int) w) ∧ (wh = 1 → aS t o (a : Int) w = aS t o (b : Int) w → dS t (a : Int) w = dS t (b : Int) w) ∧ (wh = 2 → dS t (a : Int) w = dS t (b : Int) w)) := by
    intro a b
    by_cases z : wh = 0
    · rw [if_pos z]; exact ⟨fun q => ⟨fun _ => q, fun y => by omega, fun y => by omega⟩, fun q => q.1 z⟩
    · rw [if_neg z]
      by_cases z1 : wh = 1
      · rw [if_pos z1]; exact ⟨fun q => ⟨fun y => by omega, fun _ => q, fun y => by omega⟩, fun q => q.2.1 z1⟩
      · rw [if_neg z1]; exact ⟨fun q => ⟨fun y => by omega, fun y => by omega, fun _ => q⟩, fun q => q.2.2 (by omega)⟩
  apply e_N_isOf
  have ok : ∀ a b : Nat, ((wh = 0 → aS t o (a : Int) w ≠ aS t o (b : Int) w) ∧ (wh = 1 → aS t o (a : Int) w = aS t o (b : Int) w → dS t (a : Int) w = dS t (b : Int) w) ∧ (wh = 2 → dS t (a : Int) w = dS t (b : Int) w)) → ((wh = 0 → aS t o (b : Int) w ≠ aS t o (a : Int) w) ∧ (wh = 1 → aS t o (b : Int) w = aS t o (a : Int) w → dS t (b : Int) w = dS t (a : Int) w) ∧ (wh = 2 → dS t (b : Int) w = dS t (a : Int) w)) := fun a b ⟨q1, q2, q3⟩ => ⟨fun y e => q1 y e.symm, fun y e => (q2 y e.symm).symm, fun y => (q3 y).symm⟩
  have main := lupN (N := S) (P := fun a => (∀ x y : Nat, x < a → y < x → RD I t x → RD I t y → ((wh = 0 → aS t o (x : Int) w ≠ aS t o (y : Int) w) ∧ (wh = 1 → aS t o (x : Int) w = aS t o (y : Int) w → dS t (x : Int) w = dS t (y : Int) w) ∧ (wh = 2 → dS t (x : Int) w = dS t (y : Int) w))) → p_N_isOf_2 (n + 0) (ai_q 0 n Q) 138 (wh : Int) (w : Int) (a : Int) n hr h) ?_ ?_
  · exact main fun x y hx => by omega
  · intro e
    refine b_N_isOf_2 ⟨n0 W, sp_N_states W ⟨fun _ => ⟨Or.inr rfl, q_at rfl (h1 fun a b hab ha hb => ?_)⟩, fun z => ?_⟩⟩
    · rw [pair]
      have ra := (RMk_tb S I t a).mp ha
      have rb := (RMk_tb S I t b).mp hb
      rcases Nat.lt_or_ge b a with y | y
      · exact e a b ra.1 y ra.2 rb.2
      · exact ok b a (e b a rb.1 (by omega) rb.2 ra.2)
    · dsimp only at z; rw [X.1] at z; omega
  · intro a ha iha e
    refine b_N_isOf_2 ⟨n0 W, sp_N_states W ⟨fun z => ?_, fun _ => ?_⟩⟩
    · dsimp only at z; rw [X.1] at z; omega
    · have loop := lupN (N := a) (P := fun b => (∀ y : Nat, y < b → RD I t a → RD I t y → ((wh = 0 → aS t o (a : Int) w ≠ aS t o (y : Int) w) ∧ (wh = 1 → aS t o (a : Int) w = aS t o (y : Int) w → dS t (a : Int) w = dS t (y : Int) w) ∧ (wh = 2 → dS t (a : Int) w = dS t (y : Int) w))) → p_N_isOf_13 (n + 0) (ai_q 0 n Q) 138 (wh : Int) (w : Int) (a : Int) (b : Int) n hr h) ?_ ?_
      · exact loop fun y hy => by omega
      · intro e2
        refine b_N_isOf_13 ⟨fun _ => ?_, fun z => by omega⟩
        rw [w32_id (by omega) (by omega)]
        refine iha fun x y hx hy rx ry => ?_
        by_cases q : x = a
        · subst q; exact e2 y hy rx ry
        · exact e x y (by omega) hy rx ry
      · intro b hb ihb e2
        have ea := P.1 a ha
        have eb := P.1 b (by omega)
        have next : (RD I t a → RD I t b → ((wh = 0 → aS t o (a : Int) w ≠ aS t o (b : Int) w) ∧ (wh = 1 → aS t o (a : Int) w = aS t o (b : Int) w → dS t (a : Int) w = dS t (b : Int) w) ∧ (wh = 2 → dS t (a : Int) w = dS t (b : Int) w))) → p_N_isOf_13 (n + 0) (ai_q 0 n Q) 138 (wh : Int) (w : Int) (a : Int) (w32 ((b : Int) + 1)) n hr h := by
          intro q
          rw [w32_id (by omega) (by omega)]
          refine ihb fun y hy ra ry => ?_
          by_cases q2 : y = b
          · subst q2; exact q ra ry
          · exact e2 y (by omega) ra ry
        refine b_N_isOf_13 ⟨fun z => by omega, fun _ => ⟨n0 W, sp_N_isReached W (by omega) (fun za => ?_) (fun za => ?_)⟩⟩
        · rw [ea] at za
          refine ⟨fun q => absurd q (by decide), fun _ => ⟨n0 W, sp_N_isReached W (by omega) (fun zb => ?_) (fun zb => ?_)⟩⟩
          · rw [eb] at zb
            refine ⟨fun _ => ?_, fun q => absurd q (by decide)⟩
            have bad : ((wh = 0 ∧ aS t o (a : Int) w = aS t o (b : Int) w) ∨ (wh = 1 ∧ aS t o (a : Int) w = aS t o (b : Int) w ∧ dS t (a : Int) w ≠ dS t (b : Int) w) ∨ (wh = 2 ∧ dS t (a : Int) w ≠ dS t (b : Int) w)) → ((0 : Int) = 0 ∨ (0 : Int) = 1) ∧ ai_q 0 n Q (0, 0) n hr h := by
              intro q
              refine ⟨Or.inl rfl, q_at rfl (h0 fun g => ?_)⟩
              have := g a b (by omega) ((RMk_tb S I t a).mpr ⟨ha, za⟩) ((RMk_tb S I t b).mpr ⟨by omega, zb⟩)
              rw [pair] at this
              obtain ⟨t1, t2, t3⟩ := this
              rcases q with ⟨q1, q2⟩ | ⟨q1, q2, q3⟩ | ⟨q1, q2⟩
              · exact t1 q1 q2
              · exact q3 (t2 q1 q2)
              · exact q2 (t3 q1)
            refine ⟨n0 W, sp_N_ans W (by omega) hm (r24_z X.2.2.1) (r24_z X.2.2.2) (by omega) wk w3 ⟨n0 W, sp_N_ans W (by omega) hm (r24_z X.2.2.1) (r24_z X.2.2.2) (by omega) wk w3 ?_⟩⟩
            refine ⟨fun z => ?_, fun z => ?_⟩
            · have z' : aS t o (a : Int) w ≠ aS t o (b : Int) w := fun q => z (lcmp0.mpr q)
              refine ⟨n0 W, sp_N_lead W (by omega) hm (r24_z X.2.2.1) (r24_z X.2.2.2) (by omega) wk w3 ⟨n0 W, sp_N_lead W (by omega) hm (r24_z X.2.2.1) (r24_z X.2.2.2) (by omega) wk w3 ?_⟩⟩
              refine ⟨fun z2 => ?_, fun z2 => ?_⟩ <;> dsimp only at z2
              · refine ⟨fun w0 => ⟨fun w1 => ?_, fun w1 => ?_⟩, fun w0 => ?_⟩
                · exact ⟨fun q => absurd rfl q, fun _ => bad (by omega)⟩
                · exact ⟨fun _ => next fun _ _ => ⟨fun _ => z', fun _ q => (z' q).elim, fun q => by omega⟩, fun q => absurd rfl q⟩
                · exact ⟨fun _ => next fun _ _ => ⟨fun _ => z', fun q => by omega, fun q => by omega⟩, fun q => absurd rfl q⟩
              · refine ⟨fun w0 => ⟨fun w1 => ?_, fun w1 => ?_⟩, fun w0 => ?_⟩
                · exact ⟨fun _ => next fun _ _ => ⟨fun _ => z', fun _ _ => z2, fun _ => z2⟩, fun q => absurd q (by decide)⟩
                · exact ⟨fun _ => next fun _ _ => ⟨fun _ => z', fun _ _ => z2, fun _ => z2⟩, fun q => absurd rfl q⟩
                · exact ⟨fun _ => next fun _ _ => ⟨fun _ => z', fun _ _ => z2, fun _ => z2⟩, fun q => absurd rfl q⟩
            · have z' : aS t o (a : Int) w = aS t o (b : Int) w := lcmp0.mp z
              refine ⟨n0 W, sp_N_lead W (by omega) hm (r24_z X.2.2.1) (r24_z X.2.2.2) (by omega) wk w3 ⟨n0 W, sp_N_lead W (by omega) hm (r24_z X.2.2.1) (r24_z X.2.2.2) (by omega) wk w3 ?_⟩⟩
              refine ⟨fun z2 => ?_, fun z2 => ?_⟩ <;> dsimp only at z2
              · refine ⟨fun w0 => ⟨fun w1 => ?_, fun w1 => ?_⟩, fun w0 => ?_⟩
                · exact ⟨fun q => absurd rfl q, fun _ => bad (Or.inr (Or.inr ⟨by omega, z2⟩))⟩
                · exact ⟨fun q => absurd q (by decide), fun _ => ⟨fun q => absurd rfl q, fun _ => bad (Or.inr (Or.inl ⟨by omega, z', z2⟩))⟩⟩
                · exact ⟨fun q => absurd q (by decide), fun _ => bad (Or.inl ⟨by omega, z'⟩)⟩
              · refine ⟨fun w0 => ⟨fun w1 => ?_, fun w1 => ?_⟩, fun w0 => ?_⟩
                · exact ⟨fun _ => next fun _ _ => ⟨fun q => by omega, fun _ _ => z2, fun _ => z2⟩, fun q => absurd q (by decide)⟩
                · exact ⟨fun q => absurd q (by decide), fun _ => ⟨fun _ => next fun _ _ => ⟨fun q => by omega, fun _ _ => z2, fun _ => z2⟩, fun q => absurd q (by decide)⟩⟩
                · exact ⟨fun q => absurd q (by decide), fun _ => bad (Or.inl ⟨by omega, z'⟩)⟩
          · rw [eb] at zb
            exact ⟨fun q => absurd rfl q, fun _ => next fun _ q => by unfold RD at q; omega⟩
        · rw [ea] at za
          exact ⟨fun _ => next fun q => by unfold RD at q; omega, fun q => absurd rfl q⟩
def NFa (S I : Nat) (t o : Int → Int) (h : HP) : Prop := ∀ w : Nat, w < 3 → h 172 (w : Int) = 0 ∨ (h 172 (w : Int) = 1 ∧ h 171 (w : Int) = FAw I t o (RMk S I t) w)
theorem sp_N_word {wh : Int} (W : NW n hr) (T : TV S I t o) (X : NX S I t o h) (P : NP S I t o h) (G : NFa S I t o h) (hQ1 : (0 ≤ wh ∧ wh < 3 ∧ 0 < S) → ∀ h1, EX [171, 172] [(138, 0)] h h1 → NFa S I t o h1 → Q (0, FAw I t o (RMk S I t) wh.toNat) n hr h1) (hQ0 : ¬ (0 ≤ wh ∧ wh < 3 ∧ 0 < S) → Q (0, -1) n hr (ai_up h 138 0 0)) : f_N_word [(2, 138), (0, wh)] n hr h Q := by
  have TT := T
  obtain ⟨hS, hI, hm, hc, hT⟩ := T
  have X1 := NX_1 (v := 0) X
  apply e_N_word
  refine ⟨n0 W, fun z => q_at rfl (hQ0 (by omega)), fun z => ⟨fun z2 => q_at rfl (hQ0 (by omega)), fun z2 => ⟨n0 W, sp_N_states W ⟨fun z3 => ?_, fun z3 => q_at rfl (hQ0 ?_)⟩⟩⟩⟩
  · dsimp only at z3; rw [X1.1] at z3
    obtain ⟨v, rfl⟩ := Int.eq_ofNat_of_zero_le z
    have hQ1 := hQ1 ⟨by omega, by omega, by omega⟩
    have e0 : EX [171, 172] [(138, 0)] h (ai_up h 138 0 0) := EX_upp EX_rf (by decide)
    have g172 : (ai_up h 138 0 0) 172 = h 172 := EX_fn EX_1 (by decide) (by decide)
    have g171 : (ai_up h 138 0 0) 171 = h 171 := EX_fn EX_1 (by decide) (by decide)
    simp (disch := omega) only [n0 W, nr_54 W, nr_55 W, g172, g171, true_and, or_true]
    repeat (refine ⟨by omega, ?_⟩)
    refine ⟨fun z4 => ?_, fun z4 => ?_⟩
    · repeat (refine ⟨by omega, ?_⟩)
      have fin : ∀ (h1 : HP), EX [171, 172] [(138, 0)] h h1 → (∀ x : Nat, x ≠ v → h1 172 (x : Int) = h 172 (x : Int) ∧ h1 171 (x : Int) = h 171 (x : Int)) → h1 172 (v : Int) = 1 → h1 171 (v : Int) = FAw I t o (RMk S I t) v → Q (0, h1 171 (v : Int)) n hr h1 := by
        intro h1 e1 e2 e3 e4
        rw [e4]
        refine hQ1 h1 e1 fun x hx => ?_
        by_cases y : x = v
        · subst y; exact Or.inr ⟨e3, e4⟩
        · rw [(e2 x y).1, (e2 x y).2]; exact G x hx
      have p8 : (4 : Nat) ^ 8 = 65536 := by decide
      have words : ∀ (m w : Nat), 262144 - w ≤ m → w < 262144 → wok I w → ∀ (h1 : HP), EX [171, 172] [(138, 0)] h h1 → (∀ x : Nat, x ≠ v → h1 172 (x : Int) = h 172 (x : Int) ∧ h1 171 (x : Int) = h 171 (x : Int)) → h1 172 (v : Int) = 1 → (h1 171 (v : Int) = FAw I t o (RMk S I t) v ∧ h1 171 (v : Int) ≠ -2 ∨ (h1 171 (v : Int) = -2 ∧ ∀ x, x < w → wok I x → wlen x ≤ 8 → ¬ fOK t o (RMk S I t) v x)) → p_N_word_56 (n + 0) (ai_q 0 n Q) 138 (v : Int) (w : Int) n hr h1 := by
        intro m
        induction m with
        | zero => intro w hw hw2; omega
        | succ m ih =>
          intro w hw hw2 hwk h1 e1 e2 e3 e4
          have X2 := NX_fr X e1 (by decide) (by decide)
          have P2 := NP_fr P e1 (by decide) (by decide)
          refine b_N_word_56 ?_
          simp (disch := omega) only [n0 W, nr_54 W, true_and]
          repeat (refine ⟨by omega, ?_⟩)
          refine ⟨fun y => ?_, fun y => ?_⟩
          · repeat (refine ⟨by omega, ?_⟩)
            have := fin h1 e1 e2 e3 (e4.elim (fun q => q.1) (fun q => (y q.1).elim))
            exact (by first | exact q_at rfl (this) | exact (this))
          · have none : ∀ x, x < w → wok I x → wlen x ≤ 8 → ¬ fOK t o (RMk S I t) v x := e4.elim (fun q => (q.2 y).elim) (fun q => q.2)
            refine sp_N_long1 (by omega) ⟨fun y2 => ?_, fun y2 => ?_⟩
            · dsimp only at y2
              have : FAw I t o (RMk S I t) v = -2 := fw_no fun x g => none x (wlen_lt (by omega)) g.1 g.2.1 g.2.2
              have := fin h1 e1 e2 e3 (by rw [y, this])
              simp (disch := omega) only [n0 W, nr_54 W, true_and]
              repeat (refine ⟨by omega, ?_⟩)
              exact (by first | exact q_at rfl (this) | exact (this))
            · dsimp only at y2
              have hl : wlen w ≤ 8 := by omega
              have hw8 : w < 65536 := by have := wlen_le.mp hl; omega
              refine ⟨n0 W, sp_N_isOf W TT X2 P2 (by omega) hwk hl (fun g => ?_) (fun g => ?_)⟩
              · have fa : FAw I t o (RMk S I t) v = (w : Int) := fw_at ⟨hwk, hl, g⟩ fun x hx q => none x hx q.1 q.2.1 q.2.2
                refine ⟨fun q => absurd q (by decide), fun _ => ?_⟩
                simp (disch := omega) only [n0 W, nr_54 W, true_and]
                repeat (refine ⟨by omega, ?_⟩)
                have e1' : EX [171, 172] [(138, 0)] h (ai_up h1 171 (v : Int) (w : Int)) := EX_upc e1 (by decide)
                have X3 := NX_fr X e1' (by decide) (by decide)
                have e2' : ∀ x : Nat, x ≠ v → (ai_up h1 171 (v : Int) (w : Int)) 172 (x : Int) = h 172 (x : Int) ∧ (ai_up h1 171 (v : Int) (w : Int)) 171 (x : Int) = h 171 (x : Int) := fun x hx => by
                  rw [up_oth (Or.inl (by decide)), up_oth (Or.inr (by omega))]; exact e2 x hx
                have e3' : (ai_up h1 171 (v : Int) (w : Int)) 172 (v : Int) = 1 := by rw [up_oth (Or.inl (by decide))]; exact e3
                have e4' : (ai_up h1 171 (v : Int) (w : Int)) 171 (v : Int) = FAw I t o (RMk S I t) v := by rw [up_same, fa]
                refine sp_N_inputs W ⟨fun y3 => ?_, fun y3 => ?_⟩
                · dsimp only at y3; rw [X3.2.1] at y3
                  have ab := aft_b (show 1 ≤ I by omega) w
                  obtain ⟨o1, o2, o3⟩ := aft_ok (show 1 ≤ I by omega) hI w hwk
                  refine ⟨n0 W, sp_N_after W X3.2.1 (by omega) hI (by omega) ?_⟩
                  exact ih (aft I w) (by omega) (by omega) o1 _ e1' e2' e3' (Or.inl ⟨e4', by rw [e4', fa]; omega⟩)
                · have := fin _ e1' e2' e3' e4'
                  simp (disch := omega) only [n0 W, nr_54 W, true_and]
                  repeat (refine ⟨by omega, ?_⟩)
                  exact (by first | exact q_at rfl (this) | exact (this))
              · refine ⟨fun _ => ⟨n0 W, sp_N_inputs W ⟨fun y3 => ?_, fun y3 => ?_⟩⟩, fun q => absurd rfl q⟩
                · dsimp only at y3; rw [X2.2.1] at y3
                  have ab := aft_b (show 1 ≤ I by omega) w
                  obtain ⟨o1, o2, o3⟩ := aft_ok (show 1 ≤ I by omega) hI w hwk
                  refine ⟨n0 W, sp_N_after W X2.2.1 (by omega) hI (by omega) ?_⟩
                  refine ih (aft I w) (by omega) (by omega) o1 h1 e1 e2 e3 (Or.inr ⟨y, fun x hx hxk hxl => ?_⟩)
                  rcases Nat.lt_trichotomy x w with q | q | q
                  · exact none x q hxk hxl
                  · subst q; exact g
                  · exact (o3 x q hx hxk).elim
                · dsimp only at y3; rw [X2.2.1] at y3
                  have I0 : I = 0 := by omega
                  have w0 : w = 0 := wok_m0 (by rw [← I0]; exact hwk)
                  have : FAw I t o (RMk S I t) v = -2 := fw_no fun x q => by
                    have x0 : x = 0 := wok_m0 (by rw [← I0]; exact q.1)
                    rw [x0] at q; rw [w0] at g
                    exact g q.2.2
                  have := fin h1 e1 e2 e3 (by rw [y, this])
                  simp (disch := omega) only [n0 W, nr_54 W, true_and]
                  repeat (refine ⟨by omega, ?_⟩)
                  exact (by first | exact q_at rfl (this) | exact (this))
      refine words 262144 0 (by omega) (by omega) (wok_0 I) _ (EX_upc (EX_upc e0 (by decide)) (by decide)) (fun x hx => ?_) ?_ (Or.inr ⟨up_same, fun x hx => by omega⟩)
      · refine ⟨?_, ?_⟩ <;> simp (disch := omega) only [up_oth]
      · rw [up_oth (Or.inl (by decide)), up_same]
    · repeat (refine ⟨by omega, ?_⟩)
      rcases G v (by omega) with q | ⟨q1, q2⟩
      · exact (z4 q).elim
      · have := hQ1 _ e0 fun x hx => by rw [g172, g171]; exact G x hx
        rw [q2]
        exact (by first | exact q_at rfl (this) | exact (this))
  · dsimp only at z3; rw [X1.1] at z3; omega
end
