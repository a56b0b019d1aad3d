-- deps: 18 19 20 21 23 24 25 26 27 28 29 22 30 31 32 33 34 35 36 37 38 39 40 41 42 43 44 45
/-! the class: the queue of spots; the first word that tells two machines apart -/
def SC (h : HP) : Prop := h 27 10 = 0 ∧ ∀ q : Nat, q < 8192 → h 30 (q : Int) = 0
def SQ (h : HP) (tail : Nat) (sp : Nat → Nat) (P : Nat → Int) : Prop := h 27 10 = (tail : Int) ∧ tail ≤ 3280 ∧ (∀ j, j < tail → sp j < 262144 ∧ h 28 (j : Int) = (sp j : Int) ∧ h 29 (j : Int) = P j) ∧ (∀ x, x < 262144 → (bt (h 30 ((x / 32 : Nat) : Int)) (x % 32) = true ↔ ∃ j, j < tail ∧ sp j = x)) ∧ ∀ q, q < 8192 → (∃ j, j < tail ∧ sp j / 32 = q) ∨ h 30 (q : Int) = 0
theorem SQ_0 {h : HP} {sp : Nat → Nat} {P : Nat → Int} (H : SC h) : SQ h 0 sp P := by
  refine ⟨H.1, by omega, fun j hj => by omega, fun x hx => ?_, fun q hq => Or.inr (H.2 q hq)⟩
  rw [H.2 _ (by omega), bt_0]
  exact ⟨fun q => (by cases q), fun ⟨j, hj, _⟩ => by omega⟩
theorem SQ_fr {h h1 : HP} {tail : Nat} {sp : Nat → Nat} {P : Nat → Int} (H : SQ h tail sp P) (e1 : h1 27 10 = h 27 10) (e2 : h1 28 = h 28) (e3 : h1 29 = h 29) (e4 : h1 30 = h 30) : SQ h1 tail sp P := by
  unfold SQ; rw [e1, e2, e3, e4]; exact H
theorem SC_fr {h h1 : HP} (H : SC h) (e1 : h1 27 10 = h 27 10) (e4 : h1 30 = h 30) : SC h1 := by
  unfold SC; rw [e1, e4]; exact H
theorem SC_ex {h h1 : HP} {cs : List Int} {ps : List (Int × Int)} (H : SC h) (e : EX cs ps h h1) (a : (27 : Int) ∉ cs ∧ (30 : Int) ∉ cs) (b : ((27 : Int), (10 : Int)) ∉ ps ∧ (30 : Int) ∉ ps.map Prod.fst) : SC h1 := SC_fr H (e 27 10 a.1 b.1) (EX_fn e a.2 b.2)
section
variable {Q : RP} {n : Nat} {hr h : HP} {S I : Nat} {t o t' o' : Int → Int}
theorem sp_S_push_no {x p : Int} (hx : x < 0) (hQ : Q (9, 0) n hr h) : f_S_push [(2, 27), (0, x), (0, p)] n hr h Q := by
  apply e_S_push
  exact ⟨fun _ => q_at rfl hQ, fun z => by omega⟩
theorem sp_S_push {x tail : Nat} {p : Int} {sp : Nat → Nat} {P : Nat → Int} (V : CW n hr) (hq : SQ h tail sp P) (hx : x < 262144) (ht : (∀ j, j < tail → sp j ≠ x) → tail < 3280) (h1 : (∃ j, j < tail ∧ sp j = x) → Q (9, 0) n hr h) (h0 : (∀ j, j < tail → sp j ≠ x) → ∀ h1, EX [28, 29, 30] [(27, 10)] h h1 → SQ h1 (tail + 1) (fun j => if j = tail then x else sp j) (fun j => if j = tail then p else P j) → Q (9, 0) n hr h1) : f_S_push [(2, 27), (0, (x : Int)), (0, p)] n hr h Q := by
  obtain ⟨q1, q2, q3, q4, q5⟩ := hq
  have ex : (x : Int) / 32 = ((x / 32 : Nat) : Int) := by omega
  have ey : (x : Int) % 32 = ((x % 32 : Nat) : Int) := by omega
  apply e_S_push
  simp (disch := omega) only [ok_27 V.1, cr_27_2 V, cr_27_3 V, cr_27_4 V, q1, shr_5, and_31, ex, ey, bit_z, up_same, up_oth, w32_id, true_and]
  refine ⟨fun z => by omega, fun _ => ⟨fun z => by omega, fun _ => ⟨fun _ => ?_, fun z => ?_⟩⟩⟩
  · repeat (refine ⟨by omega, ?_⟩)
    refine ⟨fun z => ?_, fun z => ?_⟩
    · have hb : bt (h 30 ((x / 32 : Nat) : Int)) (x % 32) = true := by
        cases hb : bt (h 30 ((x / 32 : Nat) : Int)) (x % 32)
        · exact (z ((bit_z (by omega)).mpr hb)).elim
        · rfl
      exact (by first | exact q_at rfl (h1 ((q4 x hx).mp hb)) | exact (h1 ((q4 x hx).mp hb)))
    · have hno : ∀ j, j < tail → sp j ≠ x := fun j hj e => by
        have := (q4 x hx).mpr ⟨j, hj, e⟩
        rw [z] at this
        cases this
      have ht2 := ht hno
      repeat (refine ⟨by omega, ?_⟩)
      have fin := h0 hno (ai_up (ai_up (ai_up (ai_up h 30 ((x / 32 : Nat) : Int) (i_or (h 30 ((x / 32 : Nat) : Int)) (i_shl 1 ((x % 32 : Nat) : Int)))) 28 (tail : Int) (x : Int)) 29 (tail : Int) p) 27 10 ((tail : Int) + 1)) (EX_upp (EX_upc (EX_upc (EX_upc EX_rf (by decide)) (by decide)) (by decide)) (by decide)) ⟨by rw [up_same]; omega, by omega, fun j hj => ?_, fun y hy => ?_, fun q hq => ?_⟩
      · exact (by first | exact q_at rfl (fin) | exact (fin))
      · (try dsimp only)
        by_cases e : j = tail
        · rw [if_pos e, if_pos e, e]
          simp (disch := omega) only [up_same, up_oth]
          exact ⟨hx, by first | rfl | trivial, by first | rfl | trivial⟩
        · rw [if_neg e, if_neg e]
          simp (disch := omega) only [up_oth]
          exact q3 j (by omega)
      · simp (disch := omega) only [up_oth]
        by_cases e : y / 32 = x / 32
        · rw [e, up_same, bt_or, Bool.or_eq_true, bt_shl1 (by omega) (by omega), decide_eq_true_eq, ← e, q4 y hy]
          constructor
          · rintro (⟨j, j1, j2⟩ | z2)
            · exact ⟨j, by omega, by (try dsimp only); rw [if_neg (by omega)]; exact j2⟩
            · exact ⟨tail, by omega, by (try dsimp only); rw [if_pos rfl]; omega⟩
          · rintro ⟨j, j1, j2⟩
            (try dsimp only at j2)
            by_cases z3 : j = tail
            · rw [if_pos z3] at j2; right; omega
            · rw [if_neg z3] at j2; exact Or.inl ⟨j, by omega, j2⟩
        · rw [up_oth (Or.inr (by omega)), q4 y hy]
          constructor
          · rintro ⟨j, j1, j2⟩
            exact ⟨j, by omega, by (try dsimp only); rw [if_neg (by omega)]; exact j2⟩
          · rintro ⟨j, j1, j2⟩
            (try dsimp only at j2)
            by_cases z3 : j = tail
            · rw [if_pos z3] at j2; omega
            · rw [if_neg z3] at j2; exact ⟨j, by omega, j2⟩
      · simp (disch := omega) only [up_oth]
        by_cases e : q = x / 32
        · exact Or.inl ⟨tail, by omega, by (try dsimp only); rw [if_pos rfl]; exact e.symm⟩
        · rw [up_oth (Or.inr (by omega))]
          rcases q5 q hq with ⟨j, j1, j2⟩ | z3
          · exact Or.inl ⟨j, by omega, by (try dsimp only); rw [if_neg (by omega)]; exact j2⟩
          · exact Or.inr z3
  · have : ∃ j, j < tail ∧ sp j = x := Classical.byContradiction fun q => by
      have := ht fun j hj e => q ⟨j, hj, e⟩
      omega
    exact (by first | exact q_at rfl (h1 this) | exact (h1 this))
theorem sp_S_leave {tail : Nat} {sp : Nat → Nat} {P : Nat → Int} (V : CW n hr) (hq : SQ h tail sp P) (hQ : ∀ h1, EX [30] [(27, 10)] h h1 → SC h1 → Q (9, 0) n hr h1) : f_S_leave [(2, 27)] n hr h Q := by
  obtain ⟨q1, q2, q3, q4, q5⟩ := hq
  apply e_S_leave
  have := lupN (N := tail) (P := fun k => ∀ h1, EX [30] [] h h1 → (∀ q, q < 8192 → (∃ j, k ≤ j ∧ j < tail ∧ sp j / 32 = q) ∨ h1 30 (q : Int) = 0) → p_S_leave_2 (n + 0) (ai_q 0 n Q) 27 (k : Int) n hr h1) ?_ ?_
  · exact this h EX_rf fun q hq => (q5 q hq).elim (fun ⟨j, a, b⟩ => Or.inl ⟨j, by omega, a, b⟩) Or.inr
  · intro h1 e1 e2
    have g : h1 27 10 = (tail : Int) := by rw [EX_at e1 (by decide) (by decide)]; exact q1
    refine b_S_leave_2 ?_
    simp (disch := omega) only [ok_27 V.1, g, true_and]
    refine ⟨fun _ => ?_, fun z => by omega⟩
    have := hQ (ai_up h1 27 10 0) (EX_upp (EX_le e1 (by decide) (by decide)) (by decide)) ⟨up_same, fun q hq => by
      rw [up_oth (Or.inl (by decide))]
      rcases e2 q hq with ⟨j, a, b, _⟩ | z
      · omega
      · exact z⟩
    exact (by first | exact q_at rfl (this) | exact (this))
  · intro k hk ih h1 e1 e2
    have g : h1 27 10 = (tail : Int) := by rw [EX_at e1 (by decide) (by decide)]; exact q1
    have g2 : h1 28 (k : Int) = (sp k : Int) := by rw [EX_fn e1 (by decide) (by decide)]; exact (q3 k hk).2.1
    have b := (q3 k hk).1
    refine b_S_leave_2 ?_
    simp (disch := omega) only [ok_27 V.1, cr_27_2 V, cr_27_4 V, g, g2, shr_5, w32_id, true_and]
    refine ⟨fun z => by omega, fun _ => ?_⟩
    repeat (refine ⟨by omega, ?_⟩)
    refine ih _ (EX_upc e1 (by decide)) fun q hq => ?_
    by_cases z : q = sp k / 32
    · refine Or.inr ?_
      rw [z, show ((sp k / 32 : Nat) : Int) = (sp k : Int) / 32 by omega, up_same]
    · rw [up_oth (Or.inr (by omega))]
      rcases e2 q hq with ⟨j, a, b, c⟩ | y
      · refine Or.inl ⟨j, ?_, b, c⟩
        by_cases e : j = k
        · subst e; exact (z c.symm).elim
        · omega
      · exact Or.inr y
theorem EX_sy {cs : List Int} {ps : List (Int × Int)} {h h1 : HP} (e : EX cs ps h h1) {c : Int} (hc : c ∉ cs) (hp : ∀ j, (c, j) ∉ ps) : h1 c = h c := funext fun j => e c j hc (hp j)
theorem sp_S_unlike {m m' : Int} (V : CW n hr) (hI3 : I ≤ 3) (hm : mok t o) (hm' : mok t' o') (R : mrow hr m n) (R' : mrow hr m' n) (d : m + 2 < 27 ∨ 30 < m) (d' : m' + 2 < 27 ∨ 30 < m') (hI : h m 3 = (I : Int)) (r1 : r24 (h (m + 1)) t) (r2 : r24 (h (m + 2)) o) (r3 : r24 (h (m' + 1)) t') (r4 : r24 (h (m' + 2)) o') (hs : SC h) (hQ : ∀ h1, EX [28, 29, 30] [(27, 10)] h h1 → SC h1 → Q (0, if 0 < h m 2 ∧ 0 < h m' 2 then UL I t o t' o' 0 0 else -2) n hr h1) : f_S_unlike [(2, 27), (2, m), (2, m')] n hr h Q := by
  obtain ⟨a1, a2, a3, a4, a5, a6, a7⟩ := R
  obtain ⟨c1, c2, c3, c4, c5, c6, c7⟩ := R'
  have E0 : ∀ h1, EX [28, 29, 30] [(27, 10)] h h1 → h1 m = h m ∧ h1 (m + 1) = h (m + 1) ∧ h1 (m + 2) = h (m + 2) ∧ h1 (m' + 1) = h (m' + 1) ∧ h1 (m' + 2) = h (m' + 2) := by
    intro h1 e
    have k : ∀ c : Int, (c < 27 ∨ 30 < c) → h1 c = h c := fun c hc => EX_sy e (by simp; omega) (fun j => by simp; omega)
    exact ⟨k _ (by omega), k _ (by omega), k _ (by omega), k _ (by omega), k _ (by omega)⟩
  have fin : ∀ (v l : Int) (h1 : HP) (tail : Nat) (sp : Nat → Nat) (P : Nat → Int), v = (if 0 < h m 2 ∧ 0 < h m' 2 then UL I t o t' o' 0 0 else -2) → EX [28, 29, 30] [(27, 10)] h h1 → SQ h1 tail sp P → (v ≠ -2 ∨ (tail : Int) ≤ l) → p_S_unlike_26 (n + 0) (ai_q 0 n Q) 27 m m' v l n hr h1 := by
    intro v l h1 tail sp P hv e1 hq hl
    have lv : f_S_leave [(2, 27)] n hr h1 (fun r1 n1 hr1 h1 => ai_q 0 n Q (0, v) n1 hr1 h1) := by
      refine sp_S_leave V hq fun h2 e2 s2 => q_at rfl ?_
      rw [hv]
      exact hQ h2 (EX_tr e1 (EX_le e2 (by decide) (by decide))) s2
    refine b_S_unlike_26 ?_
    simp (disch := omega) only [ok_27 V.1, cr_27_2 V, hq.1, true_and]
    refine ⟨fun _ => lv, fun z => ⟨fun _ => lv, fun z2 => ⟨fun _ => lv, fun z3 => ?_⟩⟩⟩
    rcases hl with q | q
    · exact (q z3).elim
    · omega
  have main : 0 < h m 2 ∧ 0 < h m' 2 → ∀ (d k : Nat), 64 - k = d → ∀ (tail : Nat) (sp pa : Nat → Nat) (h1 : HP), UV I t o t' o' 0 0 sp pa tail k 0 → EX [28, 29, 30] [(27, 10)] h h1 → SQ h1 tail sp (fun j => w32 (pa j : Int)) → p_S_unlike_26 (n + 0) (ai_q 0 n Q) 27 m m' (-2) (k : Int) n hr h1 := by
    intro hp d
    induction d with
    | zero =>
      intro k hk tail sp pa h1 hv e1 hq
      have := UV_tail hv
      refine fin (-2) _ h1 tail sp _ ?_ e1 hq (Or.inr (by omega))
      rw [if_pos hp]; exact (UV_no hm hm' (p := 0) (q := 0) (by omega) (by omega) hv (by omega)).symm
    | succ d ih =>
      intro k hk tail sp pa h1 hv e1 hq
      have ht := UV_tail hv
      by_cases zk : tail ≤ k
      · refine fin (-2) _ h1 tail sp _ ?_ e1 hq (Or.inr (by omega))
        rw [if_pos hp]; exact (UV_no hm hm' (p := 0) (q := 0) (by omega) (by omega) hv (by omega)).symm
      · refine b_S_unlike_26 ?_
        have hsk := hv.2.1 k (by omega)
        have g28 := (hq.2.2.1 k (by omega)).2.1
        simp (disch := omega) only [ok_27 V.1, cr_27_2 V, hq.1, g28, shr_3, and_7, w32_id, true_and]
        refine ⟨fun z => by omega, fun _ => ⟨fun z => by omega, fun _ => ⟨fun q => absurd rfl q, fun _ => ?_⟩⟩⟩
        repeat (refine ⟨by omega, ?_⟩)
        have e3 : (sp k : Int) / 8 * 3 = 3 * ((sp k / 8 : Nat) : Int) := by omega
        have e4 : (sp k : Int) % 8 * 3 = 3 * ((sp k % 8 : Nat) : Int) := by omega
        rw [e3, e4]
        have inner : ∀ (d i : Nat), I - i = d → ∀ (tail : Nat) (sp' pa : Nat → Nat) (h1 : HP), k < tail → sp' k = sp k → UV I t o t' o' 0 0 sp' pa tail k i → EX [28, 29, 30] [(27, 10)] h h1 → SQ h1 tail sp' (fun j => w32 (pa j : Int)) → p_S_unlike_79 (n + 0) (ai_q 0 n Q) 27 m m' (-2) (k : Int) (3 * ((sp k / 8 : Nat) : Int)) (3 * ((sp k % 8 : Nat) : Int)) (i : Int) n hr h1 := by
          intro d
          induction d with
          | zero =>
            intro i hi tail sp' pa h1 hkt hsk2 hv e1 hq
            have ht := UV_tail hv
            obtain ⟨f1, f2, f3, f4, f5⟩ := E0 h1 e1
            have hi2 : i = I := by omega
            subst hi2
            refine b_S_unlike_79 ?_
            simp (disch := omega) only [a1, f1, hI, w32_id, true_and]
            exact ⟨fun _ => ih (k + 1) (by omega) tail sp' pa h1 (UV_n hv hkt) e1 hq, fun z => by omega⟩
          | succ d ihd =>
            intro i hi tail sp' pa h1 hkt hsk2 hv e1 hq
            have ht := UV_tail hv
            obtain ⟨f1, f2, f3, f4, f5⟩ := E0 h1 e1
            have g29 := (hq.2.2.1 k hkt).2.2
            have gt := r1 (3 * ((sp k / 8 : Nat) : Int) + (i : Int)) (by omega) (by omega)
            have go := r2 (3 * ((sp k / 8 : Nat) : Int) + (i : Int)) (by omega) (by omega)
            have gt' := r3 (3 * ((sp k % 8 : Nat) : Int) + (i : Int)) (by omega) (by omega)
            have go' := r4 (3 * ((sp k % 8 : Nat) : Int) + (i : Int)) (by omega) (by omega)
            have ps := PST_at (mok_t hm) (mok_t hm') hsk (show i < 3 by omega)
            have ft := (hm (3 * ((sp k / 8 : Nat) : Int) + (i : Int)) (by omega) (by omega)).1
            have ft' := (hm' (3 * ((sp k % 8 : Nat) : Int) + (i : Int)) (by omega) (by omega)).1
            have spot : i_or (i_shl (t (3 * ((sp k / 8 : Nat) : Int) + (i : Int))) 3) (t' (3 * ((sp k % 8 : Nat) : Int) + (i : Int))) = ((PST t t' (sp k) i : Nat) : Int) := by
              obtain ⟨u, hu⟩ := Int.eq_ofNat_of_zero_le ft.1
              obtain ⟨u', hu'⟩ := Int.eq_ofNat_of_zero_le ft'.1
              rw [hu, hu'] at ps ⊢
              rw [shl_3 (by omega) (by omega), show (u : Int) * 8 = ((u * 2 ^ 3 : Nat) : Int) by omega, or_add (by omega) (by omega)]
              omega
            have pth : w32 (w32 (w32 (w32 (pa k : Int) * 4) + (i : Int)) + 1) = w32 ((4 * pa k + i + 1 : Nat) : Int) := by
              rw [w32_5]; congr 1
            refine b_S_unlike_79 ?_
            simp (disch := omega) only [ok_27 V.1, cr_27_3 V, a1, a2, a3, a4, a5, a6, a7, c1, c2, c3, c4, c5, c6, c7, f1, f2, f3, f4, f5, hI, g29, gt, go, gt', go', spot, pth, w32_id, true_and]
            refine ⟨fun z => by omega, fun _ => ⟨fun q => absurd rfl q, fun _ => ?_⟩⟩
            repeat (refine ⟨by omega, ?_⟩)
            have tl : (∀ j, j < tail → sp' j ≠ PST t t' (sp k) i) → OE o o' (sp k) i → UV I t o t' o' 0 0 (fun j => if j = tail then PST t t' (sp k) i else sp' j) (fun j => if j = tail then 4 * pa k + i + 1 else pa j) (tail + 1) k (i + 1) := by
              intro hno hoe
              have := UV_p hm hm' hv hkt (by omega) (by rw [hsk2]; exact hoe) (by rw [hsk2]; exact hno)
              rw [hsk2] at this
              exact this
            refine ⟨fun zo => ?_, fun zo => ?_⟩
            · repeat (refine ⟨by omega, ?_⟩)
              refine sp_S_push V hq (by omega) (fun _ => by omega) (fun zold => ?_) (fun znew h2 e2 q2 => ?_)
              · exact ihd (i + 1) (by omega) tail sp' pa h1 hkt hsk2 (UV_o hv hkt (by omega) (by rw [hsk2]; exact zo) (by rw [hsk2]; exact zold)) e1 hq
              · have hu := tl znew zo
                have ht2 := UV_tail hu
                refine ihd (i + 1) (by omega) (tail + 1) _ _ h2 (by omega) ?_ hu (EX_tr e1 e2) ?_
                · (try dsimp only); rw [if_neg (by omega)]; exact hsk2
                · have : (fun j => w32 (((if j = tail then 4 * pa k + i + 1 else pa j) : Nat) : Int)) = (fun j => if j = tail then w32 ((4 * pa k + i + 1 : Nat) : Int) else w32 (pa j : Int)) := by
                    funext j; split <;> rfl
                  rw [this]; exact q2
            · have e := UV_at hm hm' (p := 0) (q := 0) (by omega) (by omega) hv hkt (show i < I by omega) (by rw [hsk2]; exact zo)
              have l := UL_15 hI3 hm hm' (p := ((0 : Nat) : Int)) (q := ((0 : Nat) : Int)) (by omega) (by omega)
              rw [e] at l
              have hfound : w32 ((4 * pa k + i + 1 : Nat) : Int) = (if 0 < h m 2 ∧ 0 < h m' 2 then UL I t o t' o' 0 0 else -2) := by
                rw [if_pos hp, w32_id (by omega) (by omega), ← e]; rfl
              have l2 : w32 ((4 * pa k + i + 1 : Nat) : Int) ≠ -2 := by rw [w32_id (by omega) (by omega)]; omega
              have out : ∀ (h2 : HP) (tail2 : Nat) (sp2 : Nat → Nat) (P2 : Nat → Int), EX [28, 29, 30] [(27, 10)] h h2 → SQ h2 tail2 sp2 P2 → p_S_unlike_79 (n + 0) (ai_q 0 n Q) 27 m m' (w32 ((4 * pa k + i + 1 : Nat) : Int)) (k : Int) (3 * ((sp k / 8 : Nat) : Int)) (3 * ((sp k % 8 : Nat) : Int)) ((i : Int) + 1) n hr h2 := by
                intro h2 tail2 sp2 P2 e2 q2
                have := fin _ ((k : Int) + 1) h2 tail2 sp2 P2 hfound e2 q2 (Or.inl l2)
                refine b_S_unlike_79 ?_
                simp (disch := omega) only [a1, w32_id (x := (k : Int) + 1), true_and]
                exact ⟨fun _ => this, fun _ => ⟨fun _ => this, fun q => (l2 q).elim⟩⟩
              repeat (refine ⟨by omega, ?_⟩)
              refine sp_S_push V hq (by omega) (fun _ => by omega) (fun zold => ?_) (fun znew h2 e2 q2 => ?_)
              · exact out h1 tail sp' _ e1 hq
              · exact out h2 _ _ _ (EX_tr e1 e2) q2
        exact inner I 0 (by omega) tail sp pa h1 (by omega) rfl hv e1 hq
  apply e_S_unlike
  simp only [a1, c1, ok_27 V.1, true_and]
  refine ⟨fun z => ?_, fun z => ⟨fun z2 => ?_, fun z2 => ?_⟩⟩
  · refine fin (-2) 0 h 0 (fun _ => 0) (fun _ => 0) ?_ EX_rf (SQ_0 hs) (Or.inr (by omega))
    rw [if_neg (by omega)]
  · refine fin (-2) 0 h 0 (fun _ => 0) (fun _ => 0) ?_ EX_rf (SQ_0 hs) (Or.inr (by omega))
    rw [if_neg (by omega)]
  · refine sp_S_push (x := 0) (sp := fun _ => 0) (P := fun _ => 0) V (SQ_0 hs) (by omega) (fun _ => by omega) (fun q => ?_) (fun _ h2 e2 q2 => ?_)
    · obtain ⟨j, hj, _⟩ := q; omega
    · refine main ⟨z, z2⟩ 64 0 rfl 1 (fun _ => 0) (fun _ => 0) h2 (UV_0 hI3 (by omega) (by omega)) e2 ?_
      refine ⟨q2.1, q2.2.1, fun j hj => ?_, fun x hx => ?_, fun q hq => ?_⟩
      · have : j = 0 := by omega
        subst this
        have := q2.2.2.1 0 (by omega)
        exact ⟨this.1, this.2.1, by rw [this.2.2]; decide +kernel⟩
      · rw [q2.2.2.2.1 x hx]
        constructor
        · rintro ⟨j, j1, j2⟩; refine ⟨0, by omega, ?_⟩; have : j = 0 := by omega
          subst this; exact j2
        · rintro ⟨j, j1, j2⟩; exact ⟨0, by omega, j2⟩
      · rcases q2.2.2.2.2 q hq with ⟨j, j1, j2⟩ | z
        · refine Or.inl ⟨0, by omega, ?_⟩
          have : j = 0 := by omega
          subst this; exact j2
        · exact Or.inr z
end
