-- deps: 18 19 20 21 23 24 25 26 27 28 29 22 31 32
/-! the reference: the first word that tells two places apart -/
theorem ex_at {cs : List Int} {h h1 : HP} (e : ai_ex cs h h1) {c : Int} (hc : c ∉ cs) : h1 c = h c := funext fun j => e c hc j
theorem w32_4 (x i : Int) : w32 (w32 (w32 (4 * w32 x) + i) + 1) = w32 (4 * x + i + 1) := by
  simp only [w32_b]; omega
theorem w32_5 (x i : Int) : w32 (w32 (w32 (w32 x * 4) + i) + 1) = w32 (4 * x + i + 1) := by
  simp only [w32_b]; omega
def UH (h h1 : HP) (tail : Nat) (sp pa : Nat → Nat) : Prop :=
  ai_ex [150, 151, 152] h h1 ∧ (∀ j, j < tail → h1 150 (j : Int) = (sp j : Int) ∧ h1 151 (j : Int) = w32 (pa j : Int)) ∧ ∀ x : Nat, x < 64 → (h1 152 (x : Int) = 1 ∧ ∃ j, j < tail ∧ sp j = x) ∨ (h1 152 (x : Int) = 0 ∧ ∀ j, j < tail → sp j ≠ x)
theorem UH_p {h h1 : HP} {tail k i v w : Nat} {sp pa : Nat → Nat} (H : UH h h1 tail sp pa) (hv : v < 64) : UH h (ai_up (ai_up (ai_up h1 152 (v : Int) 1) 150 (tail : Int) (v : Int)) 151 (tail : Int) (w32 (w : Int))) (tail + 1) (fun j => if j = tail then v else sp j) (fun j => if j = tail then w else pa j) := by
  obtain ⟨a1, a2, a3⟩ := H
  refine ⟨ex_up (ex_up (ex_up a1 (by decide)) (by decide)) (by decide), fun j hj => ?_, fun x hx => ?_⟩
  · by_cases z : j = tail
    · subst z
      simp (disch := omega) only [up_same, up_oth, if_true]
      exact ⟨trivial, trivial⟩
    · have := a2 j (by omega)
      simp (disch := omega) only [up_same, up_oth, if_neg z]
      exact this
  · by_cases z : x = v
    · subst z
      refine Or.inl ⟨?_, tail, by omega, if_pos rfl⟩
      simp (disch := omega) only [up_same, up_oth]
    · rw [up_oth (Or.inl (by decide)), up_oth (Or.inl (by decide)), up_oth (Or.inr (by omega))]
      rcases a3 x hx with ⟨b1, j, b2, b3⟩ | ⟨b1, b2⟩
      · exact Or.inl ⟨b1, j, by omega, by dsimp only; rw [if_neg (by omega)]; exact b3⟩
      · refine Or.inr ⟨b1, fun j hj => ?_⟩
        dsimp only
        by_cases y : j = tail
        · rw [if_pos y]; exact fun q => z q.symm
        · rw [if_neg y]; exact b2 j (by omega)
theorem sp_N_unlike {Q : RP} {n : Nat} {hr h : HP} {b b' : Int} {p q I : Nat} {t o t' o' : Int → Int} (W : NW n hr) (hI : h 140 1 = (I : Int)) (hI3 : I ≤ 3) (hb : 0 ≤ b ∧ b ≤ 72) (hb' : 0 ≤ b' ∧ b' ≤ 72) (hm : mok t o) (hm' : mok t' o') (r1 : r24 (fun a => h 147 (b + a)) t) (r2 : r24 (fun a => h 148 (b + a)) o) (r3 : r24 (fun a => h 147 (b' + a)) t') (r4 : r24 (fun a => h 148 (b' + a)) o') (hp : p < 8) (hq : q < 8) (hQ : ∀ h1, ai_ex [150, 151, 152] h h1 → Q (0, UL I t o t' o' p q) n hr h1) : f_N_unlike [(2, 138), (0, b), (0, (p : Int)), (0, b'), (0, (q : Int))] n hr h Q := by
  apply e_N_unlike
  have main : ∀ (m k : Nat), 64 - k = m → ∀ (tail : Nat) (sp pa : Nat → Nat) (h1 : HP), UV I t o t' o' p q sp pa tail k 0 → UH h h1 tail sp pa → p_N_unlike_62 (n + 0) (ai_q 0 n Q) 138 b b' (tail : Int) (k : Int) n hr h1 := by
    intro m
    induction m with
    | zero =>
      intro k hk tail sp pa h1 hv hh
      have := UV_tail hv
      refine b_N_unlike_62 ⟨fun _ => q_at rfl ?_, fun z => by omega⟩
      have e := UV_no hm hm' hp hq hv (by omega)
      rw [← e]; exact hQ h1 hh.1
    | succ m ih =>
      intro k hk tail sp pa h1 hv hh
      refine b_N_unlike_62 ⟨fun z => q_at rfl ?_, fun z => ?_⟩
      · have e := UV_no hm hm' hp hq hv (by omega)
        rw [← e]; exact hQ h1 hh.1
      · have inner : ∀ (d i : Nat), I - i = d → ∀ (tail : Nat) (sp pa : Nat → Nat) (h1 : HP), k < tail → UV I t o t' o' p q sp pa tail k i → UH h h1 tail sp pa → p_N_unlike_72 (n + 0) (ai_q 0 n Q) 138 b b' (tail : Int) (k : Int) (i : Int) n hr h1 := by
          intro d
          induction d with
          | zero =>
            intro i hi tail sp pa h1 hkt hv hh
            have ht := UV_tail hv
            have hi2 : i = I := by omega
            subst hi2
            have eI : h1 140 1 = (i : Int) := by rw [ex_at hh.1 (by decide)]; exact hI
            refine b_N_unlike_72 ⟨n0 W, sp_N_inputs W ⟨fun _ => ?_, fun z => by dsimp only at z; omega⟩⟩
            rw [w32_id (by omega) (by omega), show (k : Int) + 1 = ((k + 1 : Nat) : Int) by omega]
            exact ih (k + 1) (by omega) tail sp pa h1 (UV_n hv hkt) hh
          | succ d ihd =>
            intro i hi tail sp pa h1 hkt hv hh
            have ht := UV_tail hv
            have eI : h1 140 1 = (I : Int) := by rw [ex_at hh.1 (by decide)]; exact hI
            refine b_N_unlike_72 ⟨n0 W, sp_N_inputs W ⟨fun z => by dsimp only at z; omega, fun _ => ?_⟩⟩
            obtain ⟨e1, e2⟩ := hh.2.1 k hkt
            have hs := hv.2.1 k hkt
            have gt := r1 (3 * (((sp k) / 8 : Nat) : Int) + (i : Int)) (by omega) (by omega)
            have go := r2 (3 * (((sp k) / 8 : Nat) : Int) + (i : Int)) (by omega) (by omega)
            have gt' := r3 (3 * (((sp k) % 8 : Nat) : Int) + (i : Int)) (by omega) (by omega)
            have go' := r4 (3 * (((sp k) % 8 : Nat) : Int) + (i : Int)) (by omega) (by omega)
            have ps := PST_at (mok_t hm) (mok_t hm') hs (show i < 3 by omega)
            have ft := (hm (3 * (((sp k) / 8 : Nat) : Int) + (i : Int)) (by omega) (by omega)).1
            have ft' := (hm' (3 * (((sp k) % 8 : Nat) : Int) + (i : Int)) (by omega) (by omega)).1
            dsimp only at gt go gt' go'
            rw [← ex_at hh.1 (show (147 : Int) ∉ [150, 151, 152] by decide), show b + (3 * (((sp k) / 8 : Nat) : Int) + (i : Int)) = b + 3 * ((sp k : Int) / 8) + (i : Int) by omega] at gt
            rw [← ex_at hh.1 (show (148 : Int) ∉ [150, 151, 152] by decide), show b + (3 * (((sp k) / 8 : Nat) : Int) + (i : Int)) = b + 3 * ((sp k : Int) / 8) + (i : Int) by omega] at go
            rw [← ex_at hh.1 (show (147 : Int) ∉ [150, 151, 152] by decide), show b' + (3 * (((sp k) % 8 : Nat) : Int) + (i : Int)) = b' + 3 * ((sp k : Int) % 8) + (i : Int) by omega] at gt'
            rw [← ex_at hh.1 (show (148 : Int) ∉ [150, 151, 152] by decide), show b' + (3 * (((sp k) % 8 : Nat) : Int) + (i : Int)) = b' + 3 * ((sp k : Int) % 8) + (i : Int) by omega] at go'
            simp (disch := omega) only [n0 W, nr_20 W, nr_21 W, nr_24 W, nr_25 W, nr_26 W, e1, e2, div_i, rem_i, w32_id, gt, go, gt', go', ← ps.1, w32_4, true_and, or_true]
            repeat (refine ⟨by omega, ?_⟩)
            refine ⟨fun zoe => ?_, fun zoe => q_at rfl ?_⟩
            · repeat (refine ⟨by omega, ?_⟩)
              refine ⟨fun znew => ?_, fun zold => ?_⟩
              · have hno : ∀ j, j < tail → sp j ≠ PST t t' (sp k) i := by
                  rcases hh.2.2 _ ps.2 with ⟨b1, _⟩ | ⟨_, b2⟩
                  · omega
                  · exact b2
                have hv2 := UV_p hm hm' hv hkt (by omega) zoe hno
                have ht2 := UV_tail hv2
                repeat (refine ⟨by omega, ?_⟩)
                have := ihd (i + 1) (by omega) _ _ _ _ (by omega) hv2 (UH_p (k := k) (i := i) (w := 4 * pa k + i + 1) hh ps.2)
                exact this
              · have ho : ∃ j, j < tail ∧ sp j = PST t t' (sp k) i := by
                  rcases hh.2.2 _ ps.2 with ⟨_, b1⟩ | ⟨b1, _⟩
                  · exact b1
                  · omega
                exact ihd (i + 1) (by omega) tail sp pa h1 hkt (UV_o hv hkt (by omega) zoe ho) hh
            · have e := UV_at hm hm' hp hq hv hkt (by omega) zoe
              have l := UL_15 hI3 hm hm' (p := (p : Int)) (q := (q : Int)) (by omega) (by omega)
              rw [show (4 * (pa k : Int) + (i : Int) + 1) = UL I t o t' o' p q by omega, w32_id (by omega) (by omega)]
              exact hQ h1 hh.1
        have ht := UV_tail hv
        exact inner I 0 (by omega) tail sp pa h1 (by omega) hv hh
  have := lup (P := fun k => p_N_unlike_3 (n + 0) (ai_q 0 n Q) 138 b (p : Int) b' (q : Int) k n hr (ai_fl h 152 k (fun _ => 0))) (N := 64) ?_ ?_ (by omega)
  · rw [fl_0] at this; exact this
  · refine b_N_unlike_3 ⟨fun _ => ?_, fun z => by omega⟩
    simp (disch := omega) only [n0 W, nr_24 W, nr_25 W, nr_26 W, up_same, up_oth, w32_id, true_and, or_true]
    repeat (refine ⟨by omega, ?_⟩)
    have := main 64 0 (by omega) 1 (fun _ => 8 * p + q) (fun _ => 0) (ai_up (ai_up (ai_up (ai_fl h 152 64 fun _ => 0) 150 0 (8 * (p : Int) + (q : Int))) 151 0 0) 152 (8 * (p : Int) + (q : Int)) 1) (UV_0 hI3 hp hq) ?_
    · exact this
    · refine ⟨ex_up (ex_up (ex_up (ex_fl ex_rf (by decide)) (by decide)) (by decide)) (by decide), fun j hj => ?_, fun x hx => ?_⟩
      · have : j = 0 := by omega
        subst this
        rw [show ((0 : Nat) : Int) = 0 from rfl]
        simp (disch := omega) only [up_same, up_oth]
        exact ⟨by omega, by decide +kernel⟩
      · by_cases z : x = 8 * p + q
        · subst z
          refine Or.inl ⟨?_, 0, by omega, rfl⟩
          rw [show ((8 * p + q : Nat) : Int) = 8 * (p : Int) + (q : Int) by omega, up_same]
        · refine Or.inr ⟨?_, fun j _ => fun q => z q.symm⟩
          rw [up_oth (Or.inr (by omega)), up_oth (Or.inl (by decide)), up_oth (Or.inl (by decide)), fl_in (by omega) (by omega)]
  · intro k h1 h2 ih
    refine b_N_unlike_3 ⟨fun z => by omega, fun _ => ?_⟩
    simp (disch := omega) only [n0 W, nr_26 W, w32_id, eq_self, true_or, true_and]
    repeat (refine ⟨by omega, ?_⟩)
    rw [fl_s (F := fun _ => 0) h1]
    exact ih
