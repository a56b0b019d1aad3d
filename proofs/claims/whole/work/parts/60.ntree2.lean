-- deps: 18 19 20 21 23 24 25 26 27 28 29 22 30 31 32 33 34 35 36 37 38 39 40 41 47 48 50 51 52 53 55 58 59
/-! the reference: the search for a tree -/
/-- what lies above a depth stays -/
def FM (D : Nat) (h h1 : HP) : Prop := EX [168, 169, 170] [] h h1 ∧ (∀ j : Int, j < 6 * (D : Int) + 6 → h1 168 j = h 168 j) ∧ ∀ j : Int, j < (D : Int) → h1 169 j = h 169 j ∧ h1 170 j = h 170 j
theorem cst1 (v : Nat) : (v : Int) = ((v + 1 : Nat) : Int) - 1 := by omega
theorem FM_rf {D : Nat} {h : HP} : FM D h h := ⟨EX_rf, fun _ _ => rfl, fun _ _ => ⟨rfl, rfl⟩⟩
theorem FM_tr {D D' : Nat} {h h1 h2 : HP} (a : FM D h h1) (b : FM D' h1 h2) (hD : D ≤ D') : FM D h h2 := ⟨EX_tr a.1 b.1, fun j hj => (b.2.1 j (by omega)).trans (a.2.1 j hj), fun j hj => by
  rw [(b.2.2 j (by omega)).1, (b.2.2 j (by omega)).2]; exact a.2.2 j hj⟩
theorem VK_fr {S D set : Nat} {h h1 : HP} (H : VK S h D set) (e : ∀ a : Nat, a < 6 → h1 168 (6 * (D : Int) + (a : Int)) = h 168 (6 * (D : Int) + (a : Int))) : VK S h1 D set := by
  obtain ⟨a1, a2, a3⟩ := H
  refine ⟨fun a ha => by rw [e a ha]; exact a1 a ha, fun a b hab hb q => ?_, fun p => ?_⟩
  · rw [e a (by omega), e b hb] at q; rw [e a (by omega)]; exact a2 a b hab hb q
  · rw [a3 p]
    exact ⟨fun ⟨a, h1, h2⟩ => ⟨a, h1, by rw [e a h1]; exact h2⟩, fun ⟨a, h1, h2⟩ => ⟨a, h1, by rw [← e a h1]; exact h2⟩⟩
section
variable {Q : RP} {n : Nat} {hr h : HP} {S I : Nat} {t o : Int → Int}
/-- an output does -/
def okO (S : Nat) (t o : Int → Int) (P : Nat → Prop) (set i : Nat) (v : Int) : Prop := ∀ s : Nat, set.testBit s = true → o (3 * (s : Int) + (i : Int)) = v → ¬ mrg t (LK S o set s i) i ∧ P (FAz S t (LK S o set s i) i)
theorem cst2 {v c : Nat} (h : 10 - v = c + 1) : 10 - (v + 1) = c := by omega
theorem cst3 {v c : Nat} (h : 10 - v = c + 1) : v + 1 ≤ 10 := by omega
theorem N_isTree_node (W : NW n hr) (T : TV S I t o) (X : NX S I t o h) {most : Nat} (hmost : most ≤ 8) : ∀ (e D set i : Nat) (h1 : HP), D + e = most → 1 ≤ e → VK S h1 D set → two set → i < I → EX [168, 169, 170] [] h h1 → h1 169 (D : Int) = (i : Int) → h1 170 (D : Int) = -1 →
    (∀ (h2 : HP) (i' : Nat), FM D h1 h2 → h2 169 (D : Int) = (i' : Int) → i ≤ i' → i' < I → OKt S t o (TR S I t o (e - 1)) set i' → (∀ x, i ≤ x → x < i' → ¬ OKt S t o (TR S I t o (e - 1)) set x) → p_N_isTree_16 (n + 0) (ai_q 0 n Q) 138 (most : Int) ((D : Int) - 1) n hr h2) →
    (∀ h2 : HP, FM D h1 h2 → (∀ x, i ≤ x → x < I → ¬ OKt S t o (TR S I t o (e - 1)) set x) → p_N_isTree_96 (n + 0) (ai_q 0 n Q) 138 (most : Int) ((D : Int) - 1) n hr h2) → p_N_isTree_16 (n + 0) (ai_q 0 n Q) 138 (most : Int) (D : Int) n hr h1 := by
  have TT := T
  obtain ⟨hS, hI, hm, hc, hTT⟩ := T
  intro e
  induction e with
  | zero => intro D set i h1 _ h0; omega
  | succ e ihe =>
    intro D set i h1 hD _ hV htw hi
    have hset : ∀ x, set.testBit x = true → x < S := fun x hx => by
      obtain ⟨a, ha, hb⟩ := (hV.2.2 x).mp hx
      rcases hV.1 a ha with q | ⟨p, p1, p2⟩
      · omega
      · omega
    -- input by input
    have inputs : ∀ (d i : Nat), I - i = d → i < I → ∀ h1 : HP, VK S h1 D set → EX [168, 169, 170] [] h h1 → h1 169 (D : Int) = (i : Int) → h1 170 (D : Int) = -1 →
        (∀ (h2 : HP) (i' : Nat), FM D h1 h2 → h2 169 (D : Int) = (i' : Int) → i ≤ i' → i' < I → OKt S t o (TR S I t o e) set i' → (∀ x, i ≤ x → x < i' → ¬ OKt S t o (TR S I t o e) set x) → p_N_isTree_16 (n + 0) (ai_q 0 n Q) 138 (most : Int) ((D : Int) - 1) n hr h2) →
        (∀ h2 : HP, FM D h1 h2 → (∀ x, i ≤ x → x < I → ¬ OKt S t o (TR S I t o e) set x) → p_N_isTree_96 (n + 0) (ai_q 0 n Q) 138 (most : Int) ((D : Int) - 1) n hr h2) → p_N_isTree_16 (n + 0) (ai_q 0 n Q) 138 (most : Int) (D : Int) n hr h1 := by
      intro d
      induction d with
      | zero => intro i hd hi2; omega
      | succ d ihd =>
        intro i hd hi h1 hV1 e1 t1 q1 succ fail
        -- this input fails
        have bad : ∀ h2 : HP, FM D h1 h2 → h2 169 (D : Int) = (i : Int) → ¬ OKt S t o (TR S I t o e) set i → p_N_isTree_96 (n + 0) (ai_q 0 n Q) 138 (most : Int) (D : Int) n hr h2 := by
          intro h2 f t2 nok
          have X2 := NX_fr X (EX_tr e1 f.1) (by decide) (by decide)
          refine b_N_isTree_96 ⟨fun z => by omega, fun _ => ?_⟩
          simp (disch := omega) only [n0 W, nr_52 W, t2, true_and]
          repeat (refine ⟨by omega, ?_⟩)
          refine sp_N_inputs W ?_
          simp (disch := omega) only [n0 W, nr_52 W, nr_53 W, t2, X2.2.1, w32_id, true_and]
          refine ⟨fun z => ⟨fun _ => ?_, fun z2 => by omega⟩, fun z => ?_⟩
          · repeat (refine ⟨by omega, ?_⟩)
            have f3 : FM D h1 (ai_up (ai_up h2 169 (D : Int) ((i : Int) + 1)) 170 (D : Int) (-1)) := FM_tr f ⟨EX_upc (EX_upc EX_rf (by decide)) (by decide), fun j _ => by simp (disch := omega) only [up_oth], fun j hj => by simp (disch := omega) only [up_oth]; exact ⟨trivial, trivial⟩⟩ (Nat.le_refl D)
            refine ihd (i + 1) (by omega) (by omega) _ (VK_fr hV1 fun a ha => f3.2.1 _ (by omega)) (EX_tr e1 f3.1) (by rw [up_oth (Or.inl (by decide)), up_same]; omega) up_same (fun h4 i' g1 g2 g3 g4 g5 g6 => ?_) (fun h4 g1 g2 => ?_)
            · refine succ h4 i' (FM_tr f3 g1 (Nat.le_refl _)) g2 (by omega) g4 g5 fun x hx1 hx2 => ?_
              by_cases y : x = i
              · subst y; exact nok
              · exact g6 x (by omega) hx2
            · refine fail h4 (FM_tr f3 g1 (Nat.le_refl _)) fun x hx1 hx2 => ?_
              by_cases y : x = i
              · subst y; exact nok
              · exact g2 x (by omega) hx2
          · rw [show (D : Int) + -1 = (D : Int) - 1 by omega]
            refine fail h2 f fun x hx1 hx2 => ?_
            have : x = i := by omega
            subst this; exact nok
        -- output by output
        have outs : ∀ (c : Nat) (v : Nat), 10 - v = c → v ≤ 10 → ∀ h2 : HP, FM D h1 h2 → h2 169 (D : Int) = (i : Int) → h2 170 (D : Int) = (v : Int) - 1 → (∀ y : Nat, y < v → okO S t o (TR S I t o e) set i (y : Int)) → p_N_isTree_16 (n + 0) (ai_q 0 n Q) 138 (most : Int) (D : Int) n hr h2 := by
          intro c
          induction c with
          | zero =>
            intro v hv hv2 h2 f t2 q2 ok
            have v10 : v = 10 := by omega
            have okt : OKt S t o (TR S I t o e) set i := fun s hs => by
              have hx := hset s hs
              have := (hm (3 * (s : Int) + (i : Int)) (by omega) (by omega)).2
              obtain ⟨y, hy⟩ := Int.eq_ofNat_of_zero_le this.1
              exact ok y (by omega) s hs hy
            refine b_N_isTree_16 ⟨fun z => by omega, fun _ => ?_⟩
            simp (disch := omega) only [n0 W, nr_53 W, q2, w32_id, true_and]
            repeat (refine ⟨by omega, ?_⟩)
            refine fun _ => ?_
            rw [show (D : Int) + -1 = (D : Int) - 1 by omega]
            exact succ h2 i f t2 (Nat.le_refl _) hi okt fun x h1' h2' => by omega
          | succ c ihc =>
            intro v hv hv2 h2 f t2 q2 ok
            refine b_N_isTree_16 ⟨fun z => by omega, fun _ => ?_⟩
            simp (disch := omega) only [n0 W, nr_53 W, q2, w32_id, true_and]
            repeat (refine ⟨by omega, ?_⟩)
            refine ⟨fun _ => ?_, fun z => by omega⟩
            repeat (refine ⟨by omega, ?_⟩)
            rw [show (v : Int) - 1 + 1 = (v : Int) by omega]
            have f3 : FM D h1 (ai_up h2 170 (D : Int) (v : Int)) := FM_tr f ⟨EX_upc EX_rf (by decide), fun j _ => by simp (disch := omega) only [up_oth], fun j hj => by simp (disch := omega) only [up_oth]; exact ⟨trivial, trivial⟩⟩ (Nat.le_refl D)
            have V3 := VK_fr hV1 fun a ha => f3.2.1 _ (show 6 * (D : Int) + (a : Int) < 6 * (D : Int) + 6 by omega)
            have X3 := NX_fr X (EX_tr e1 f3.1) (by decide) (by decide)
            have t3 : (ai_up h2 170 (D : Int) (v : Int)) 169 (D : Int) = (i : Int) := by rw [up_oth (Or.inl (by decide))]; exact t2
            have q3 : (ai_up h2 170 (D : Int) (v : Int)) 170 (D : Int) = (v : Int) := up_same
            generalize ai_up h2 170 (D : Int) (v : Int) = h3 at f3 V3 X3 t3 q3 ⊢
            refine sp_N_answersSo W TT X3 (by omega) hi V3 t3 q3 fun h4 e4 r4 k4 => ?_
            have f4 : FM D h1 h4 := FM_tr f3 ⟨EX_le e4 (by decide) (by decide), fun j hj => r4 j (by omega), fun j _ => by
              rw [EX_fn e4 (c := 169) (by decide) (by decide), EX_fn e4 (c := 170) (by decide) (by decide)]; exact ⟨rfl, rfl⟩⟩ (Nat.le_refl D)
            have t4 : h4 169 (D : Int) = (i : Int) := by rw [EX_fn e4 (c := 169) (by decide) (by decide)]; exact t3
            have q4 : h4 170 (D : Int) = (v : Int) := by rw [EX_fn e4 (c := 170) (by decide) (by decide)]; exact q3
            -- who answers so, by places
            have al : ∀ a : Nat, a < 6 → AL o h3 D i (v : Int) a → ∃ p : Nat, p < S ∧ h3 168 (6 * (D : Int) + (a : Int)) = (p : Int) ∧ set.testBit p = true ∧ o (3 * (p : Int) + (i : Int)) = (v : Int) := by
              intro a ha g
              rcases V3.1 a ha with q | ⟨p, p1, p2⟩
              · exact (g.1 q).elim
              · refine ⟨p, p1, p2, (V3.2.2 p).mpr ⟨a, ha, p2⟩, ?_⟩
                have := g.2; rwa [p2] at this
            have la : ∀ p : Nat, set.testBit p = true → o (3 * (p : Int) + (i : Int)) = (v : Int) → ∃ a : Nat, a < 6 ∧ h3 168 (6 * (D : Int) + (a : Int)) = (p : Int) ∧ AL o h3 D i (v : Int) a := by
              intro p hp ho
              obtain ⟨a, ha, hb⟩ := (V3.2.2 p).mp hp
              exact ⟨a, ha, hb, by rw [hb]; omega, by rw [hb]; exact ho⟩
            have c2 := cntP_2 (P := AL o h3 D i (v : Int)) (n := 6)
            have next : okO S t o (TR S I t o e) set i (v : Int) → ∀ h5 : HP, FM D h1 h5 → h5 169 (D : Int) = (i : Int) → h5 170 (D : Int) = (v : Int) → p_N_isTree_16 (n + 0) (ai_q 0 n Q) 138 (most : Int) (D : Int) n hr h5 := by
              intro g h5 f5 t5 q5
              have hv1 := cst1 v
              have hc1 := cst2 hv
              refine ihc (v + 1) hc1 (cst3 hv) h5 f5 t5 (q5.trans hv1) fun y hy => ?_
              by_cases yy : y = v
              · subst yy; exact g
              · exact ok y (by omega)
            refine ⟨fun z => ?_, fun z => ?_⟩
            · dsimp only at z
              obtain ⟨a, b, hab, hb, ga, gb⟩ := c2.mp (by omega)
              obtain ⟨p, p1, p2, p3, p4⟩ := al a (by omega) ga
              obtain ⟨q, q1, q2', q3', q4'⟩ := al b hb gb
              have pq : p ≠ q := fun w => by
                subst w
                have := V3.2.1 a b hab hb (p2.trans q2'.symm)
                omega
              have lkp : (LK S o set p i).testBit p = true := LK_tb.mpr ⟨p1, p3, rfl⟩
              have lkq : (LK S o set p i).testBit q = true := LK_tb.mpr ⟨q1, q3', q4'.trans p4.symm⟩
              have tp := hc (p : Int) i (by omega) (by omega) (by omega)
              have tq := hc (q : Int) i (by omega) (by omega) (by omega)
              have twF : ¬ mrg t (LK S o set p i) i → two (FAs S t (LK S o set p i) i) := fun g => by
                have tne : t (3 * (p : Int) + (i : Int)) ≠ t (3 * (q : Int) + (i : Int)) := fun w => g ⟨p, q, pq, lkp, lkq, w⟩
                exact ⟨(t (3 * (p : Int) + (i : Int))).toNat, (t (3 * (q : Int) + (i : Int))).toNat, by omega, FAs_tb.mpr ⟨p, p1, lkp, rfl⟩, FAs_tb.mpr ⟨q, q1, lkq, rfl⟩⟩
              refine ⟨fun ze => ?_, fun ze => ⟨n0 W, ?_⟩⟩
              · -- no input is left
                have e0 : e = 0 := by omega
                refine bad h4 f4 t4 fun g => ?_
                obtain ⟨g1, g2⟩ := g p p3
                rw [(FAz_two hS hc (by omega)).1 (twF g1), e0] at g2
                exact g2 (twF g1)
              · rw [show (D : Int) + 1 = ((D + 1 : Nat) : Int) by omega]
                refine sp_N_leftAt W (by omega) (fun dis => ?_) (fun ndis => ?_)
                · -- a depth more
                  refine ⟨fun w => ?_, fun _ => ?_⟩
                  · exfalso
                    dsimp only at w
                    have : 2 ≤ cntP (fun a : Nat => h4 168 (6 * ((D + 1 : Nat) : Int) + (a : Int)) ≠ -1) 6 := cntP_2.mpr ⟨a, b, hab, hb, by rw [(k4 a (by omega)).1 ga, p2]; omega, by rw [(k4 b hb).1 gb, q2']; omega⟩
                    omega
                  · have nm : ¬ mrg t (LK S o set p i) i := by
                      rintro ⟨x, y, xy, lx, ly, txy⟩
                      obtain ⟨x1, x2, x3⟩ := LK_tb.mp lx
                      obtain ⟨y1, y2, y3⟩ := LK_tb.mp ly
                      obtain ⟨ax, ax1, ax2, ax3⟩ := la x x2 (x3.trans p4)
                      obtain ⟨ay, ay1, ay2, ay3⟩ := la y y2 (y3.trans p4)
                      have ne : ax ≠ ay := fun w => by subst w; omega
                      have kx := (k4 ax ax1).1 ax3
                      have ky := (k4 ay ay1).1 ay3
                      rw [ax2] at kx; rw [ay2] at ky
                      have tx := hc (x : Int) i (by omega) (by omega) (by omega)
                      rcases Nat.lt_or_ge ax ay with w | w
                      · have := dis ax ay w ay1 (by rw [kx, ky]; exact txy)
                        rw [kx] at this; omega
                      · have := dis ay ax (by omega) ax1 (by rw [kx, ky]; exact txy.symm)
                        rw [ky] at this; omega
                    have tw2 := twF nm
                    simp (disch := omega) only [n0 W, nr_52 W, nr_53 W, w32_id, true_and]
                    repeat (refine ⟨by omega, ?_⟩)
                    have F5 : FM (D + 1) h4 (ai_up (ai_up h4 169 ((D + 1 : Nat) : Int) 0) 170 ((D + 1 : Nat) : Int) (-1)) := ⟨EX_upc (EX_upc EX_rf (by decide)) (by decide), fun j _ => by simp (disch := omega) only [up_oth], fun j hj => by simp (disch := omega) only [up_oth]; exact ⟨trivial, trivial⟩⟩
                    have V5 : VK S (ai_up (ai_up h4 169 ((D + 1 : Nat) : Int) 0) 170 ((D + 1 : Nat) : Int) (-1)) (D + 1) (FAs S t (LK S o set p i) i) := by
                      refine VK_fr (h := h4) ⟨fun a ha => ?_, dis, fun y => ?_⟩ fun a ha => F5.2.1 _ (by omega)
                      · by_cases w : AL o h3 D i (v : Int) a
                        · obtain ⟨x, x1, x2, x3, x4⟩ := al a ha w
                          have tx := hc (x : Int) i (by omega) (by omega) (by omega)
                          refine Or.inr ⟨(t (3 * (x : Int) + (i : Int))).toNat, by omega, ?_⟩
                          rw [(k4 a ha).1 w, x2]; omega
                        · exact Or.inl ((k4 a ha).2 w)
                      · rw [FAs_tb]
                        constructor
                        · rintro ⟨x, x1, x2, x3⟩
                          obtain ⟨y1, y2, y3⟩ := LK_tb.mp x2
                          obtain ⟨ax, ax1, ax2, ax3⟩ := la x y2 (y3.trans p4)
                          have tx := hc (x : Int) i (by omega) (by omega) (by omega)
                          exact ⟨ax, ax1, by rw [(k4 ax ax1).1 ax3, ax2]; omega⟩
                        · rintro ⟨a, ha, hb'⟩
                          have w : AL o h3 D i (v : Int) a := Classical.byContradiction fun w => by
                            rw [(k4 a ha).2 w] at hb'; omega
                          obtain ⟨x, x1, x2, x3, x4⟩ := al a ha w
                          rw [(k4 a ha).1 w, x2] at hb'
                          exact ⟨x, x1, LK_tb.mpr ⟨x1, x3, x4.trans p4.symm⟩, by omega⟩
                    have EF5 : FM D h1 (ai_up (ai_up h4 169 ((D + 1 : Nat) : Int) 0) 170 ((D + 1 : Nat) : Int) (-1)) := FM_tr f4 F5 (by omega)
                    have t5 : (ai_up (ai_up h4 169 ((D + 1 : Nat) : Int) 0) 170 ((D + 1 : Nat) : Int) (-1)) 169 ((D + 1 : Nat) : Int) = ((0 : Nat) : Int) := by rw [up_oth (Or.inl (by decide)), up_same]; rfl
                    have okv : ∀ b : Bool, (b = true → TR S I t o e (FAs S t (LK S o set p i) i)) → b = true → okO S t o (TR S I t o e) set i (v : Int) := fun b g hb' s hs hsv => by
                      have ls : LK S o set s i = LK S o set p i := LK_same (hsv.trans p4.symm)
                      rw [ls]
                      refine ⟨nm, ?_⟩
                      rw [(FAz_two hS hc (by omega)).1 tw2]; exact g hb'
                    refine ihe (D + 1) _ 0 _ (by omega) (by omega) V5 tw2 (by omega) (EX_tr e1 EF5.1) t5 up_same (fun h6 i' g1 g2 g3 g4 g5 g6 => ?_) (fun h6 g1 g2 => ?_)
                    · rw [show ((D + 1 : Nat) : Int) - 1 = (D : Int) by omega]
                      have g1' := FM_tr EF5 g1 (by omega)
                      refine next (okv true (fun _ => ?_) rfl) h6 g1' ?_ ?_
                      · have : e = e - 1 + 1 := by omega
                        rw [this]; exact Or.inr ⟨i', g4, g5⟩
                      · rw [(g1.2.2 (D : Int) (by omega)).1]; simp (disch := omega) only [up_oth]; exact t4
                      · rw [(g1.2.2 (D : Int) (by omega)).2]; simp (disch := omega) only [up_oth]; exact q4
                    · rw [show ((D + 1 : Nat) : Int) - 1 = (D : Int) by omega]
                      refine bad h6 (FM_tr EF5 g1 (by omega)) ?_ fun g => ?_
                      · rw [(g1.2.2 (D : Int) (by omega)).1]; simp (disch := omega) only [up_oth]; exact t4
                      · have g3 := (g p p3).2
                        rw [(FAz_two hS hc (by omega)).1 tw2] at g3
                        have : e = e - 1 + 1 := by omega
                        rw [this] at g3
                        rcases g3 with g3 | ⟨x, x1, x2⟩
                        · exact g3 tw2
                        · exact g2 x (by omega) x1 x2
                · -- two have met
                  refine ⟨fun _ => bad h4 f4 t4 fun g => ?_, fun w => by dsimp only at w; omega⟩
                  have ⟨a', b', m1, m2, m3, m4⟩ : ∃ a' b' : Nat, a' < b' ∧ b' < 6 ∧ h4 168 (6 * ((D + 1 : Nat) : Int) + (a' : Int)) = h4 168 (6 * ((D + 1 : Nat) : Int) + (b' : Int)) ∧ h4 168 (6 * ((D + 1 : Nat) : Int) + (a' : Int)) ≠ -1 := Classical.byContradiction fun w => ndis fun a' b' h1' h2' h3' => Classical.byContradiction fun w2 => w ⟨a', b', h1', h2', h3', w2⟩
                  have wa : AL o h3 D i (v : Int) a' := Classical.byContradiction fun w => m4 ((k4 a' (by omega)).2 w)
                  have wb : AL o h3 D i (v : Int) b' := Classical.byContradiction fun w => m4 (m3.trans ((k4 b' m2).2 w))
                  obtain ⟨x, x1, x2, x3, x4⟩ := al a' (by omega) wa
                  obtain ⟨y, y1, y2, y3, y4⟩ := al b' m2 wb
                  rw [(k4 a' (by omega)).1 wa, (k4 b' m2).1 wb, x2, y2] at m3
                  refine (g x x3).1 ⟨x, y, fun w => ?_, LK_tb.mpr ⟨x1, x3, rfl⟩, LK_tb.mpr ⟨y1, y3, y4.trans x4.symm⟩, m3⟩
                  subst w
                  have := V3.2.1 a' b' m1 m2 (x2.trans y2.symm)
                  omega
            · dsimp only at z
              have none : ¬ ∃ a b, a < b ∧ b < 6 ∧ AL o h3 D i (v : Int) a ∧ AL o h3 D i (v : Int) b := fun g => by have := c2.mpr g; omega
              refine next (fun s hs hsv => ?_) h4 f4 t4 q4
              have single : ∀ x, (LK S o set s i).testBit x = true → x = s := fun x hx => by
                obtain ⟨x1, x2, x3⟩ := LK_tb.mp hx
                obtain ⟨ax, ax1, ax2, ax3⟩ := la x x2 (x3.trans hsv)
                obtain ⟨as, as1, as2, as3⟩ := la s hs hsv
                rcases Nat.lt_trichotomy ax as with w | w | w
                · exact (none ⟨ax, as, w, as1, ax3, as3⟩).elim
                · subst w; omega
                · exact (none ⟨as, ax, w, ax1, as3, ax3⟩).elim
              refine ⟨fun ⟨x, y, xy, lx, ly, _⟩ => xy ((single x lx).trans (single y ly).symm), ?_⟩
              have n2 : ¬ two (FAs S t (LK S o set s i) i) := fun ⟨x, y, xy, lx, ly⟩ => by
                obtain ⟨x', _, x2, x3⟩ := FAs_tb.mp lx
                obtain ⟨y', _, y2, y3⟩ := FAs_tb.mp ly
                have := single x' x2
                have := single y' y2
                subst x' y'
                exact xy (x3.symm.trans y3)
              rw [(FAz_two hS hc (by omega)).2 n2]
              exact TR_le (d := 0) (fun ⟨x, y, _, q, _⟩ => by rw [tb_0] at q; cases q) (Nat.zero_le _)
        exact outs 10 0 rfl (by omega) h1 FM_rf t1 q1 fun y hy => by omega
    exact inputs (I - i) i rfl hi h1 hV
end
