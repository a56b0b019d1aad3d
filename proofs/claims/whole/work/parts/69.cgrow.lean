-- deps: 18 19 20 21 23 24 25 26 27 28 29 22 30 31 32 33 34 35 40 41 45 46 67 68
/-! the class: a suite's tree grows -/
section
variable {Q : RP} {n : Nat} {hr h : HP} {S I : Nat} {t o : Int → Int} {P : Nat → Prop} {ws : List Nat}
def TRw (I : Nat) (t : Int → Int) (h : HP) (ws : List Nat) : Prop := h 35 10 = (ws.length : Int) ∧ TRr I t (h 37) (h 38) ws
/-- words with P are few -/
def fewP (P : Nat → Prop) : Prop := ∀ l : List Nat, nod l → (∀ x ∈ l, P x) → l.length ≤ 4550
theorem CX_69 {h1 : HP} (X : CX S I t o h) (e : EX [37, 38, 41] [(35, 9), (35, 10)] h h1) : CX S I t o h1 := CX_fr X e (by decide) (by decide)
theorem sp_T_growChild {k w i : Nat} (V : CW n hr) (T : TV S I t o) (hS0 : 0 < S) (X : CX S I t o h) (R : TRw I t h ws) (F : fewP P) (hP : ∀ x ∈ ws, P x) (hk : ws[k]? = some w) (hi : i < I) (hw : P (4 * w + i + 1)) (hQ : ∀ h1 ws' (j : Nat), EX [37, 38] [(35, 10)] h h1 → TRw I t h1 ws' → (∀ x, x ∈ ws' ↔ x ∈ ws ∨ x = 4 * w + i + 1) → (∀ k x : Nat, ws[k]? = some x → ws'[k]? = some x) → ws'[j]? = some (4 * w + i + 1) → Q (0, (j : Int)) n hr h1) : f_T_growChild [(2, 35), (0, (k : Int)), (0, (i : Int))] n hr h Q := by
  obtain ⟨hS, hI, hm, hc, hT⟩ := T
  have R0 := R
  obtain ⟨R1, R2⟩ := R
  have lk := (List.getElem?_eq_some_iff.mp hk).1
  have l4 : ws.length ≤ 4550 := F ws R2.2.1 hP
  obtain ⟨wk, gk, rk⟩ := R2.2.2.2 k w hk
  have ea : (k : Int) * 3 + (i : Int) = 3 * (k : Int) + (i : Int) := by omega
  have d := dS_cl hI (clo_m hI hc) (p := (0 : Int)) (by omega) w wk
  apply e_T_growChild
  simp (disch := omega) only [ok_35 V.1, cr_35_4 V, cr_35_5 V, cr_35_0 V, cr_13_0 V, ok_13 V.1, w32_id, ea, true_and]
  repeat (refine ⟨by omega, ?_⟩)
  rcases rk i (by omega) with ⟨j, j1, j2, j3⟩ | ⟨j1, j2⟩
  · rw [j3]
    refine ⟨fun _ => ?_, fun z => by omega⟩
    repeat (refine ⟨by omega, ?_⟩)
    exact (by first | exact q_at rfl (hQ h ws j EX_rf R0 (fun x => ⟨Or.inl, fun q => q.elim id fun q => by rw [q]; exact mem_at.mpr ⟨j, j2⟩⟩) (fun _ _ q => q) j2) | exact (hQ h ws j EX_rf R0 (fun x => ⟨Or.inl, fun q => q.elim id fun q => by rw [q]; exact mem_at.mpr ⟨j, j2⟩⟩) (fun _ _ q => q) j2))
  · rw [j2]
    refine ⟨fun z => absurd rfl z, fun _ => ?_⟩
    have l5 : ws.length < 4550 := by
      have := F (ws ++ [4 * w + i + 1]) (nod_add R2.2.1 j1) fun x hx => (List.mem_append.mp hx).elim (hP x) fun q => by rw [List.mem_singleton.mp q]; exact hw
      rw [List.length_append, List.length_singleton] at this; omega
    rw [R1]
    refine ⟨fun z => by omega, fun _ => ?_⟩
    have r14 := X.2.2.1 (3 * dS t 0 w + (i : Int)) (by omega) (by omega)
    have ed : dS t 0 w * 3 + (i : Int) = 3 * dS t 0 w + (i : Int) := by omega
    simp (disch := omega) only [up_oth, R1, gk, w32_id, ed, r14]
    repeat (refine ⟨by omega, ?_⟩)
    generalize hh0 : ai_up (ai_up h 37 (3 * (k : Int) + (i : Int)) (ws.length : Int)) 38 (ws.length : Int) (t (3 * dS t 0 w + (i : Int))) = h0
    have z10 : h0 35 10 = (ws.length : Int) := by rw [← hh0]; simp (disch := omega) only [up_oth]; exact R1
    refine b_T_growChild_65 ⟨fun z => by omega, fun _ => ?_⟩
    simp (disch := omega) only [ok_35 V.1, cr_35_4 V, z10, w32_id, true_and]
    repeat (refine ⟨by omega, ?_⟩)
    refine b_T_growChild_65 ⟨fun z => by omega, fun _ => ?_⟩
    simp (disch := omega) only [ok_35 V.1, cr_35_4 V, up_oth, z10, w32_id, true_and]
    repeat (refine ⟨by omega, ?_⟩)
    refine b_T_growChild_65 ⟨fun z => by omega, fun _ => ?_⟩
    simp (disch := omega) only [ok_35 V.1, cr_35_4 V, up_oth, z10, w32_id, true_and]
    repeat (refine ⟨by omega, ?_⟩)
    refine b_T_growChild_65 ⟨fun _ => ?_, fun z => by omega⟩
    have e37 : h0 37 (3 * (k : Int) + (i : Int)) = (ws.length : Int) := by rw [← hh0]; simp (disch := omega) only [up_oth, up_same]
    simp (disch := omega) only [ok_35 V.1, cr_35_4 V, up_oth, z10, e37, w32_id, true_and]
    repeat (refine ⟨by omega, ?_⟩)
    refine hQ _ (ws ++ [4 * w + i + 1]) ws.length ?_ ⟨?_, ?_⟩ (fun x => by rw [List.mem_append, List.mem_singleton]) (fun k' x q => at_add.mpr (Or.inl ⟨(List.getElem?_eq_some_iff.mp q).1, q⟩)) (at_add.mpr (Or.inr ⟨rfl, rfl⟩))
    · rw [← hh0]
      exact EX_upp (EX_upc (EX_upc (EX_upc (EX_upc (EX_upc EX_rf (by decide)) (by decide)) (by decide)) (by decide)) (by decide)) (by decide)
    · rw [up_same, List.length_append, List.length_singleton]; omega
    · refine TRr_add R2 hk hi (by omega) j1 ?_ (fun j a1 a2 => ?_) (fun a a1 a2 => ?_) ?_ (fun a a1 => ?_)
      · simp (disch := omega) only [up_oth, e37]
      · rw [← hh0]
        rcases (by omega : j = 0 ∨ j = 1 ∨ j = 2) with rfl | rfl | rfl
        · rw [show 3 * (ws.length : Int) + 0 = (ws.length : Int) * 3 + 0 by omega]
          simp (disch := omega) only [up_oth, up_same]
        · rw [show 3 * (ws.length : Int) + 1 = (ws.length : Int) * 3 + (0 + 1) by omega]
          simp (disch := omega) only [up_oth, up_same]
        · rw [show 3 * (ws.length : Int) + 2 = (ws.length : Int) * 3 + (0 + 1 + 1) by omega]
          simp (disch := omega) only [up_oth, up_same]
      · rw [← hh0]; simp (disch := omega) only [up_oth]
      · rw [← hh0]; simp (disch := omega) only [up_oth, up_same]; rw [gk]
      · rw [← hh0]; simp (disch := omega) only [up_oth]
/-- rows may only grow -/
def ext (ws ws' : List Nat) : Prop := ∀ k x : Nat, ws[k]? = some x → ws'[k]? = some x
theorem ext_rf : ext ws ws := fun _ _ q => q
theorem ext_tr {a b c : List Nat} (h : ext a b) (g : ext b c) : ext a c := fun k x q => g k x (h k x q)
theorem ext_m {a b : List Nat} (h : ext a b) {x : Nat} (hx : x ∈ a) : x ∈ b := by
  obtain ⟨k, q⟩ := mem_at.mp hx
  exact mem_at.mpr ⟨k, h k x q⟩
theorem sp_T_growWord {k w u : Nat} (V : CW n hr) (T : TV S I t o) (hS0 : 0 < S) (X : CX S I t o h) (R : TRw I t h ws) (F : fewP P) (hP : ∀ x ∈ ws, P x) (hk : ws[k]? = some w) (hu : wok I u) (hl : wlen u ≤ 8) (hp : ∀ m, m < wlen u → P (cat w (u / 4 ^ m))) (hQ : ∀ h1 ws' (j : Nat), EX [37, 38] [(35, 10)] h h1 → TRw I t h1 ws' → ext ws ws' → (∀ x ∈ ws', P x) → ws'[j]? = some (cat w u) → Q (0, (j : Int)) n hr h1) : f_T_growWord [(2, 35), (0, (k : Int)), (0, (u : Int))] n hr h Q := by
  have TT := T
  obtain ⟨hS, hI, hm, hc, hT⟩ := T
  have wk := wl15 (show wlen u ≤ 15 by omega)
  apply e_T_growWord
  refine sp_B_lengthOf wk ?_
  have key : ∀ (m : Nat), m ≤ wlen u → ∀ (h1 : HP) (ws1 : List Nat) (j : Nat), EX [37, 38] [(35, 10)] h h1 → TRw I t h1 ws1 → ext ws ws1 → (∀ x ∈ ws1, P x) → ws1[j]? = some (cat w (u / 4 ^ m)) → p_T_growWord_10 (n + 0) (ai_q 0 n Q) 35 (u : Int) (j : Int) ((m : Int) - 1) n hr h1 := by
    intro m
    induction m with
    | zero =>
      intro _ h1 ws1 j e1 r1 x1 p1 j1
      rw [Nat.pow_zero, Nat.div_one] at j1
      exact b_T_growWord_10 ⟨fun _ => q_at rfl (hQ h1 ws1 j e1 r1 x1 p1 j1), fun z => by omega⟩
    | succ m ih =>
      intro hml h1 ws1 j e1 r1 x1 p1 j1
      have X1 := CX_69 X (EX_le e1 (by decide) (by decide))
      obtain ⟨v, i, i1, i2, i3, i4⟩ := wok_ne hI (wok_divp m hu) (div_ne (w := u) (k := m) (by omega))
      have ev : u / 4 ^ (m + 1) = v := by rw [div_s, i4]; omega
      have ei : u / 4 ^ m % 4 = i + 1 := by rw [i4]; omega
      have pn := hp m (by omega)
      rw [i4, cat_c _ _ i2] at pn
      rw [ev] at j1
      refine b_T_growWord_10 ⟨fun z => by omega, fun _ => ?_⟩
      rw [show ((m + 1 : Nat) : Int) - 1 = (m : Int) by omega]
      refine sp_B_inputAt wk (by omega) ?_
      rw [ei, show ((i + 1 : Nat) : Int) - 1 = (i : Int) by omega]
      refine ⟨ok_35 V.1, ?_⟩
      refine sp_T_growChild V TT hS0 X1 r1 F p1 j1 i1 pn fun h2 ws2 j' e2 r2 m2 x2 q2 => ?_
      have := ih (by omega) h2 ws2 j' (EX_tr e1 e2) r2 (ext_tr x1 x2) (fun x hx => ((m2 x).mp hx).elim (p1 x) fun q => by rw [q]; exact pn) (by rw [i4, cat_c _ _ i2]; exact q2)
      rw [show (m : Int) + -1 = (m : Int) - 1 by omega, w32_id (by omega) (by omega)]
      exact this
  have := key (wlen u) (Nat.le_refl _) h ws k EX_rf R ext_rf hP (by rw [div_top, cat_0]; exact hk)
  simp (disch := omega) only [w32_id]
  exact this
/-- words behind one node -/
theorem sp_T_growAll {c f : Int} {k w : Nat} {B : List Nat} (V : CW n hr) (hc : ai_ok n c 50) (hcx : c ≠ 35 ∧ c ≠ 37 ∧ c ≠ 38) (T : TV S I t o) (hS0 : 0 < S) (X : CX S I t o h) (R : TRw I t h ws) (F : fewP P) (hP : ∀ x ∈ ws, P x) (hk : ws[k]? = some w) (hf : 0 ≤ f ∧ f + (B.length : Int) ≤ ai_l c ∧ ai_l c ≤ 1000) (hB : ∀ b ∈ B, wok I b ∧ wlen b ≤ 8 ∧ ∀ m, m < wlen b → P (cat w (b / 4 ^ m))) (hrow : ∀ j b : Nat, B[j]? = some b → h c (f + (j : Int)) = (b : Int)) (hQ : ∀ h1 ws', EX [37, 38] [(35, 10)] h h1 → TRw I t h1 ws' → ext ws ws' → (∀ x ∈ ws', P x) → (∀ b ∈ B, cat w b ∈ ws') → Q (9, 0) n hr h1) : f_T_growAll [(2, 35), (0, (k : Int)), (2, c), (0, f), (0, (B.length : Int))] n hr h Q := by
  apply e_T_growAll
  have := lupN (N := B.length) (P := fun j => ∀ h1 ws1, EX [37, 38] [(35, 10)] h h1 → TRw I t h1 ws1 → ext ws ws1 → (∀ x ∈ ws1, P x) → (∀ j' b : Nat, j' < j → B[j']? = some b → cat w b ∈ ws1) → p_T_growAll_3 (n + 0) (ai_q 0 n Q) 35 (k : Int) c f (B.length : Int) (j : Int) n hr h1) ?_ ?_
  · exact this h ws EX_rf R ext_rf hP fun j' b hj => by omega
  · intro h1 ws1 e1 r1 x1 p1 m1
    refine b_T_growAll_3 ⟨fun _ => q_at rfl (hQ h1 ws1 e1 r1 x1 p1 fun b hb => ?_), fun z => by omega⟩
    obtain ⟨j, hj⟩ := mem_at.mp hb
    exact m1 j b (List.getElem?_eq_some_iff.mp hj).1 hj
  · intro j hj ih h1 ws1 e1 r1 x1 p1 m1
    have hb := List.getElem?_eq_getElem (l := B) hj
    generalize B[j] = b at hb
    have b3 := hB b (List.mem_of_getElem? hb)
    have er : h1 c (f + (j : Int)) = (b : Int) := by
      rw [EX_sy e1 (c := c) (by simp; omega) (by simp; omega)]
      exact hrow j b hb
    refine b_T_growAll_3 ⟨fun z => by omega, fun _ => ?_⟩
    simp (disch := omega) only [ok_35 V.1, hc, w32_id, er, true_and]
    refine ⟨fun z => by omega, fun _ => ?_⟩
    repeat (refine ⟨by omega, ?_⟩)
    refine sp_T_growWord V T hS0 (CX_69 X (EX_le e1 (by decide) (by decide))) r1 F p1 (x1 k w hk) b3.1 b3.2.1 b3.2.2 fun h2 ws2 j' e2 r2 x2 p2 q2 => ?_
    refine ih h2 ws2 (EX_tr e1 e2) r2 (ext_tr x1 x2) p2 fun j2 b2 hj2 hb2 => ?_
    by_cases z : j2 = j
    · subst z
      rw [hb] at hb2; cases hb2
      exact mem_at.mpr ⟨j', q2⟩
    · exact ext_m x2 (m1 j2 b2 (by omega) hb2)
theorem sp_T_addHead {N : Nat} {v : Int} (V : CW n hr) (hN : h 35 9 = (N : Int)) (hl : N < 240) (hQ : Q (9, 0) n hr (ai_up (ai_up h 41 (N : Int) v) 35 9 ((N + 1 : Nat) : Int))) : f_T_addHead [(2, 35), (0, v)] n hr h Q := by
  apply e_T_addHead
  simp (disch := omega) only [ok_35 V.1, cr_35_8 V, hN, up_oth, w32_id, true_and]
  refine ⟨fun z => by omega, fun _ => ?_⟩
  repeat (refine ⟨by omega, ?_⟩)
  exact (by first | exact q_at rfl (hQ) | exact (hQ))
end
