-- deps: 18 19 20 21 23 24 25 26 27 28 29 22 30 31 32 33 34 35 38 39 40 41 42 43 44 45 46 63 64 67 68 69 70 71 72 73
/-! the class: a suite's tests out of its tree -/
section
variable {Q : RP} {n : Nat} {hr h : HP} {S I : Nat} {t o : Int → Int}
/-- nodes of a suite's cell x: their words os -/
def TXo (t o : Int → Int) (h : HP) (x : Int) (os : List Nat) : Prop := h x 7 = (os.length : Int) ∧ ∀ k v : Nat, 0 < k → os[k]? = some v → ∃ p u i : Nat, p < k ∧ os[p]? = some u ∧ i < 3 ∧ v = 4 * u + i + 1 ∧ h (x + 1) (k : Int) = (p : Int) ∧ h (x + 2) (k : Int) = (i : Int) ∧ h (x + 3) (k : Int) = o (3 * dS t 0 u + (i : Int))
/-- its tests lf -/
def TXl (h : HP) (x : Int) (os lf : List Nat) : Prop := h x 8 = (lf.length : Int) ∧ ∀ j w : Nat, lf[j]? = some w → ∃ e : Nat, h (x + 4) (j : Int) = (e : Int) ∧ os[e]? = some w ∧ h (x + 6) (j : Int) = (wlen w : Int)
def TXw (h : HP) (x : Int) (lf : List Nat) : Prop := ∀ j w : Nat, lf[j]? = some w → h (x + 5) (j : Int) = (w : Int)
/-- order and numbers -/
def ORD (h : HP) (ws os : List Nat) : Prop := ∀ k w : Nat, os[k]? = some w → h 40 (k : Int) = (w : Int) ∧ ∃ j : Nat, h 39 (k : Int) = (j : Int) ∧ ws[j]? = some w
def PH (t o : Int → Int) (x : Int) (h h1 : HP) (ws os lf : List Nat) : Prop := EX [39, 40, x + 1, x + 2, x + 3, x + 4, x + 5, x + 6] [(x, 7), (x, 8)] h h1 ∧ ORD h1 ws os ∧ TXo t o h1 x os ∧ TXl h1 x os lf ∧ TXw h1 x lf
theorem PH_node {x : Int} {h1 : HP} {ws os lf : List Nat} {hd w i j : Nat} (hx : 46 ≤ x ∧ x ≤ 95) (H : PH t o x h h1 ws os lf) (hw : os[hd]? = some w) (hi : i < 3) (hj : ws[j]? = some (4 * w + i + 1)) (h0 : 0 < os.length) : PH t o x h (ai_up (ai_up (ai_up (ai_up (ai_up (ai_up h1 39 (os.length : Int) (j : Int)) 40 (os.length : Int) ((4 * w + i + 1 : Nat) : Int)) (x + 1) (os.length : Int) (hd : Int)) (x + 2) (os.length : Int) (i : Int)) (x + 3) (os.length : Int) (o (3 * dS t 0 w + (i : Int)))) x 7 ((os.length : Int) + 1)) ws (os ++ [4 * w + i + 1]) lf := by
  obtain ⟨e, a, b, c, d⟩ := H
  have lh := (List.getElem?_eq_some_iff.mp hw).1
  have keep : ∀ (k v : Nat), os[k]? = some v → (os ++ [4 * w + i + 1])[k]? = some v := fun k v q => at_add.mpr (Or.inl ⟨(List.getElem?_eq_some_iff.mp q).1, q⟩)
  refine ⟨EX_upp (EX_upc (EX_upc (EX_upc (EX_upc (EX_upc e (by simp)) (by simp)) (by simp)) (by simp)) (by simp)) (by simp), fun k v hk => ?_, ⟨?_, fun k v k0 hk => ?_⟩, ⟨?_, fun q v hq => ?_⟩, fun q v hq => ?_⟩
  · rcases at_add.mp hk with ⟨a1, a2⟩ | ⟨a1, a2⟩
    · simp (disch := omega) only [up_oth]
      exact a k v a2
    · subst a1; subst a2
      simp (disch := omega) only [up_oth, up_same]
      exact ⟨trivial, j, rfl, hj⟩
  · rw [up_same, List.length_append, List.length_singleton]; omega
  · rcases at_add.mp hk with ⟨a1, a2⟩ | ⟨a1, a2⟩
    · simp (disch := omega) only [up_oth]
      obtain ⟨p, u, i', b1, b2, b3⟩ := b.2 k v k0 a2
      exact ⟨p, u, i', b1, keep p u b2, b3⟩
    · subst a1; subst a2
      simp (disch := omega) only [up_oth, up_same]
      exact ⟨hd, w, i, lh, keep hd w hw, hi, rfl, rfl, rfl, rfl⟩
  · simp (disch := omega) only [up_oth]; exact c.1
  · obtain ⟨e', c1, c2, c3⟩ := c.2 q v hq
    simp (disch := omega) only [up_oth]
    exact ⟨e', c1, keep e' v c2, c3⟩
  · simp (disch := omega) only [up_oth]; exact d q v hq
theorem PH_test {x : Int} {h1 : HP} {ws os lf : List Nat} {hd w : Nat} (hx : 46 ≤ x ∧ x ≤ 95) (H : PH t o x h h1 ws os lf) (hw : os[hd]? = some w) : PH t o x h (ai_up (ai_up (ai_up (ai_up h1 (x + 4) (lf.length : Int) (hd : Int)) (x + 5) (lf.length : Int) (w : Int)) (x + 6) (lf.length : Int) (wlen w : Int)) x 8 ((lf.length : Int) + 1)) ws os (lf ++ [w]) := by
  obtain ⟨e, a, b, c, d⟩ := H
  refine ⟨EX_upp (EX_upc (EX_upc (EX_upc e (by simp)) (by simp)) (by simp)) (by simp), fun k v hk => ?_, ⟨?_, fun k v k0 hk => ?_⟩, ⟨?_, fun q v hq => ?_⟩, fun q v hq => ?_⟩
  · simp (disch := omega) only [up_oth]
    exact a k v hk
  · simp (disch := omega) only [up_oth]; exact b.1
  · simp (disch := omega) only [up_oth]
    exact b.2 k v k0 hk
  · rw [up_same, List.length_append, List.length_singleton]; omega
  · rcases at_add.mp hq with ⟨a1, a2⟩ | ⟨a1, a2⟩
    · simp (disch := omega) only [up_oth]
      exact c.2 q v a2
    · subst a1; subst a2
      simp (disch := omega) only [up_oth, up_same]
      exact ⟨hd, rfl, hw, trivial⟩
  · rcases at_add.mp hq with ⟨a1, a2⟩ | ⟨a1, a2⟩
    · simp (disch := omega) only [up_oth]
      exact d q v a2
    · subst a1; subst a2
      simp (disch := omega) only [up_oth, up_same]
theorem sp_T_pour {x nl tl : Int} {ws : List Nat} (V : CW n hr) (hx : 46 ≤ x ∧ x ≤ 95) (R : trow hr x n nl tl) (T : TV S I t o) (hS0 : 0 < S) (X : CX S I t o h) (TR0 : TRw I t h ws) (hnl : nl ≤ 4550 ∧ ∀ l, nod l → (∀ y ∈ l, y ∈ ws) → (l.length : Int) ≤ nl) (htl : tl ≤ 4550 ∧ ∀ l, nod l → (∀ y ∈ l, y ∈ ws ∧ ∀ i, i < I → 4 * y + i + 1 ∉ ws) → (l.length : Int) ≤ tl) (hlw : ∀ w ∈ ws, wlen w ≤ 13) (h7 : h x 7 = 0) (h8 : h x 8 = 0) (hQ : ∀ h1 os lf, PH t o x h h1 ws os lf → asc os → (∀ y, y ∈ os ↔ y ∈ ws) → os[0]? = some 0 → asc lf → (∀ w, w ∈ lf ↔ w ∈ ws ∧ ∀ i, i < I → 4 * w + i + 1 ∉ ws) → Q (9, 0) n hr h1) : f_T_pour [(2, 35), (2, x)] n hr h Q := by
  have TT := T
  obtain ⟨hS, hI, hm, hc, hT⟩ := T
  obtain ⟨t0, t1, t2, t3⟩ := TR0.2
  have z0 : 0 ∈ ws := mem_at.mpr ⟨0, t0⟩
  have wok' : ∀ w ∈ ws, wok I w := fun w hw => by
    obtain ⟨k, hk⟩ := mem_at.mp hw
    exact (t3 k w hk).1
  have small : ∀ w ∈ ws, w < 67108864 := fun w hw => by
    have := wlen_le.mp (hlw w hw)
    have e : (4 : Nat) ^ 13 = 67108864 := by decide
    omega
  have n0l : 0 < nl := by
    have := hnl.2 [0] (fun i j h1 h2 => by simp at h2; omega) fun y hy => by rw [List.mem_singleton.mp hy]; exact z0
    simp at this; omega
  have oslen : ∀ os : List Nat, asc os → (∀ w ∈ os, w ∈ ws) → os.length ≤ ws.length ∧ (os.length : Int) ≤ nl := fun os h1 h2 => ⟨nod_len (asc_nod h1) h2, hnl.2 os (asc_nod h1) h2⟩
  apply e_T_pour
  have main : ∀ m hd : Nat, ws.length - hd ≤ m → ∀ h1 os lf, PH t o x h h1 ws os lf → PO I ws os lf hd 0 → p_T_pour_25 (n + 0) (ai_q 0 n Q) 35 x (os.length : Int) (hd : Int) n hr h1 := by
    intro m
    induction m with
    | zero =>
      intro hd hm0 h1 os lf ph po
      have ol := oslen os po.1.1 po.1.2.2
      have fin := PO_fin hI po (by omega) t2 wok'
      exact b_T_pour_25 ⟨fun _ => q_at rfl (hQ h1 os lf ph po.1.1 fin.1 po.1.2.1 po.2.2.2.1 fin.2), fun z => by omega⟩
    | succ m ih =>
      intro hd hm0 h1 os lf ph po
      have ol := oslen os po.1.1 po.1.2.2
      by_cases z : os.length ≤ hd
      · have fin := PO_fin hI po z t2 wok'
        exact b_T_pour_25 ⟨fun _ => q_at rfl (hQ h1 os lf ph po.1.1 fin.1 po.1.2.1 po.2.2.2.1 fin.2), fun z => by omega⟩
      · have hw := List.getElem?_eq_getElem (l := os) (i := hd) (by omega)
        generalize os[hd] = w at hw
        have wm := po.1.2.2 w (List.mem_of_getElem? hw)
        obtain ⟨o1, j, o2, o3⟩ := ph.2.1 hd w hw
        have jl := (List.getElem?_eq_some_iff.mp o3).1
        have lw := hnl.2 ws t1 fun y q => q
        obtain ⟨tw, tg, tf⟩ := t3 j w o3
        have d := dS_cl hI (clo_m hI hc) (p := (0 : Int)) (by omega) w tw
        have sw := small w wm
        refine b_T_pour_25 ⟨fun z => by omega, fun _ => ⟨fun z => by omega, fun _ => ?_⟩⟩
        simp (disch := omega) only [ok_35 V.1, cr_35_6 V, o2, true_and]
        repeat (refine ⟨by omega, ?_⟩)
        have inner := lupN (N := I) (P := fun i => ∀ h2 os2 (l5 : Int), PH t o x h h2 ws os2 lf → PO I ws os2 lf hd i → os2[hd]? = some w → ((l5 = 1 ∧ ∀ i', i' < i → 4 * w + i' + 1 ∉ ws) ∨ (l5 = 0 ∧ ∃ i', i' < i ∧ 4 * w + i' + 1 ∈ ws)) → p_T_pour_51 (n + 0) (ai_q 0 n Q) 35 x (os2.length : Int) (hd : Int) (j : Int) l5 (i : Int) n hr h2) ?_ ?_
        · exact inner h1 os 1 ph po hw (Or.inl ⟨rfl, fun i' q => by omega⟩)
        · intro h2 os2 l5 ph2 po2 hw2 fl
          have X2 : CX S I t o h2 := CX_fr X ph2.1 (by simp; omega) (by simp; omega)
          have ol2 := oslen os2 po2.1.1 po2.1.2.2
          have lh2 := (List.getElem?_eq_some_iff.mp hw2).1
          refine b_T_pour_51 ?_
          simp (disch := omega) only [ok_35 V.1, cr_35_0 V, ok_13 V.1, X2.2.1, true_and]
          refine ⟨fun _ => ?_, fun z => by omega⟩
          rcases fl with ⟨f1, f2⟩ | ⟨f1, i', f2, f3⟩
          · obtain ⟨nl2, po3⟩ := PO_leaf hI po2 hw2 f2
            have lc := htl.2 (lf ++ [w]) (nod_add (asc_nod po2.2.2.2.1) nl2) fun y hy => by
              have := (po3.2.2.2.2 y).mp hy
              obtain ⟨k, k1, k2, k3⟩ := this
              exact ⟨po2.1.2.2 y (List.mem_of_getElem? k2), k3⟩
            rw [List.length_append, List.length_singleton] at lc
            have e40 := (ph2.2.1 hd w hw2).1
            refine ⟨fun z => by omega, fun _ => ?_⟩
            simp (disch := omega) only [ok_35 V.1, cr_35_7 V, e40, true_and]
            repeat (refine ⟨by omega, ?_⟩)
            refine sp_B_lengthOf (wl15 (by have := hlw w wm; omega)) ?_
            refine ⟨R.1, sp_E_addTest R ph2.2.2.2.1.1 (by omega) ?_⟩
            rw [w32_id (by omega) (by omega)]
            exact ih (hd + 1) (by omega) _ os2 (lf ++ [w]) (PH_test hx ph2 hw2) po3
          · refine ⟨fun _ => ?_, fun z => by omega⟩
            rw [w32_id (by omega) (by omega)]
            exact ih (hd + 1) (by omega) h2 os2 lf ph2 (PO_end hI po2 hw2 f2 f3)
        · intro i hi ihi h2 os2 l5 ph2 po2 hw2 fl
          have X2 : CX S I t o h2 := CX_fr X ph2.1 (by simp; omega) (by simp; omega)
          have ol2 := oslen os2 po2.1.1 po2.1.2.2
          have lh2 := (List.getElem?_eq_some_iff.mp hw2).1
          have k2 : ∀ c : Int, c = 37 ∨ c = 38 → h2 c = h c := fun c hc => EX_sy ph2.1 (by simp; omega) (fun j => by simp; omega)
          have g37 := k2 37 (by omega)
          have g38 := k2 38 (by omega)
          have e40 := (ph2.2.1 hd w hw2).1
          have ej : (j : Int) * 3 + (i : Int) = 3 * (j : Int) + (i : Int) := by omega
          refine b_T_pour_51 ?_
          rcases tf i (by omega) with ⟨j', q1, q2, q3⟩ | ⟨q1, q2⟩
          · simp (disch := omega) only [ok_35 V.1, cr_35_0 V, cr_35_4 V, ok_13 V.1, X2.2.1, w32_id, ej, g37, q3, true_and]
            refine ⟨fun z => by omega, fun _ => ?_⟩
            repeat (refine ⟨by omega, ?_⟩)
            have cm : 4 * w + i + 1 ∈ ws := mem_at.mpr ⟨j', q2⟩
            obtain ⟨nm, po3⟩ := PO_yes po2 hw2 cm
            have ol3 := oslen _ po3.1.1 po3.1.2.2
            rw [List.length_append, List.length_singleton] at ol3
            refine fun _ => ⟨fun z => by omega, fun _ => ?_⟩
            have e4 : (w : Int) * 4 + (i : Int) + 1 = ((4 * w + i + 1 : Nat) : Int) := by omega
            have ed : dS t 0 w * 3 + (i : Int) = 3 * dS t 0 w + (i : Int) := by omega
            have r15 := X2.2.2.2 (3 * dS t 0 w + (i : Int)) (by omega) (by omega)
            have nj := (List.getElem?_eq_some_iff.mp q2).1
            simp (disch := omega) only [ok_35 V.1, cr_35_0 V, cr_35_5 V, cr_35_6 V, cr_35_7 V, cr_13_1 V, ok_13 V.1, up_oth, e40, g38, tg, w32_id, e4, ed, r15, true_and]
            repeat (refine ⟨by omega, ?_⟩)
            refine ⟨R.1, sp_E_addNode R (N := os2.length) (by simp (disch := omega) only [up_oth]; exact ph2.2.2.1.1) (by omega) ?_⟩
            have := ihi _ (os2 ++ [4 * w + i + 1]) 0 (PH_node hx ph2 hw2 (by omega) q2 (by omega)) po3 (at_add.mpr (Or.inl ⟨lh2, hw2⟩)) (Or.inr ⟨rfl, i, by omega, cm⟩)
            rw [List.length_append, List.length_singleton] at this
            exact this
          · simp (disch := omega) only [ok_35 V.1, cr_35_0 V, cr_35_4 V, ok_13 V.1, X2.2.1, w32_id, ej, g37, q2, true_and]
            refine ⟨fun z => by omega, fun _ => ?_⟩
            repeat (refine ⟨by omega, ?_⟩)
            refine ⟨fun _ => ?_, fun z => by omega⟩
            refine ihi h2 os2 l5 ph2 (PO_no po2 hw2 q1) hw2 ?_
            rcases fl with ⟨f1, f2⟩ | ⟨f1, i', f2, f3⟩
            · refine Or.inl ⟨f1, fun i' q => ?_⟩
              by_cases z : i' = i
              · subst z; exact q1
              · exact f2 i' (by omega)
            · exact Or.inr ⟨f1, i', by omega, f3⟩
  simp (disch := omega) only [ok_35 V.1, cr_35_6 V, cr_35_7 V, true_and]
  repeat (refine ⟨by omega, ?_⟩)
  refine ⟨R.1, sp_E_addNode R (N := 0) (by simp (disch := omega) only [up_oth]; exact h7) (by omega) ?_⟩
  refine main ws.length 0 (by omega) _ [0] [] ⟨EX_upp (EX_upc (EX_upc (EX_upc (EX_upc (EX_upc EX_rf (by simp)) (by simp)) (by simp)) (by simp)) (by simp)) (by simp), fun k w hk => ?_, ⟨?_, fun k v k0 hk => ?_⟩, ⟨?_, fun q v hq => by cases hq⟩, fun q v hq => by cases hq⟩ (PO_0 z0)
  · have k0 : k = 0 := by have := (List.getElem?_eq_some_iff.mp hk).1; simp at this; omega
    subst k0
    cases hk
    simp (disch := omega) only [cz0, up_oth, up_same]
    exact ⟨trivial, 0, rfl, t0⟩
  · rw [up_same]; rfl
  · have := (List.getElem?_eq_some_iff.mp hk).1; simp at this; omega
  · simp (disch := omega) only [up_oth]; exact h8
end
