-- deps: 18 19 20 21 26 29 9S
/-! a text's lines, pure -/
/-- what is told so far: names of places, how many of them are states, names of inputs, arcs, twists (-1, or 16 * place + output), extra, seed (one more; 0: untold), lines -/
abbrev DS := List Nat × Nat × List Nat × (Int → Int) × (Int → Int) × Int × Int × Nat
def dN (s : DS) : List Nat := s.1
def dM (s : DS) : Nat := s.2.1
def dJ (s : DS) : List Nat := s.2.2.1
def dA (s : DS) : Int → Int := s.2.2.2.1
def dB (s : DS) : Int → Int := s.2.2.2.2.1
def dX (s : DS) : Int := s.2.2.2.2.2.1
def dD (s : DS) : Int := s.2.2.2.2.2.2.1
def dL (s : DS) : Nat := s.2.2.2.2.2.2.2
def ds0 : DS := ([], 0, [], fun _ => -1, fun _ => -1, 0, 0, 0)
/-- where a number stands first, from k on -/
def fnK (L : List Nat) (v : Int) (k : Nat) : Int := if h : k < L.length then (if (L[k] : Int) = v then (k : Int) else fnK L v (k + 1)) else -1
termination_by L.length - k
decreasing_by omega
theorem fnK_y {L : List Nat} {v : Int} {k x : Nat} (h : L[k]? = some x) (e : (x : Int) = v) : fnK L v k = (k : Int) := by
  obtain ⟨h1, h2⟩ := List.getElem?_eq_some_iff.mp h
  rw [fnK, dif_pos h1, h2, if_pos e]
theorem fnK_n {L : List Nat} {v : Int} {k x : Nat} (h : L[k]? = some x) (e : (x : Int) ≠ v) : fnK L v k = fnK L v (k + 1) := by
  obtain ⟨h1, h2⟩ := List.getElem?_eq_some_iff.mp h
  rw [fnK, dif_pos h1, h2, if_neg e]
theorem fnK_e {L : List Nat} {v : Int} {k : Nat} (h : L.length ≤ k) : fnK L v k = -1 := by
  rw [fnK, dif_neg (by omega)]
theorem fnK_b (L : List Nat) (v : Int) : ∀ m k, L.length - k = m → fnK L v k = -1 ∨ ((k : Int) ≤ fnK L v k ∧ fnK L v k < (L.length : Int))
  | 0, k, h => Or.inl (fnK_e (by omega))
  | m + 1, k, h => by
    have hx := List.getElem?_eq_getElem (l := L) (i := k) (by omega)
    by_cases e : (L[k] : Int) = v
    · rw [fnK_y hx e]; exact Or.inr (by omega)
    · rw [fnK_n hx e]
      rcases fnK_b L v m (k + 1) (by omega) with q | q
      · exact Or.inl q
      · exact Or.inr (by omega)
theorem fnK_bd (L : List Nat) (v : Int) : fnK L v 0 = -1 ∨ (0 ≤ fnK L v 0 ∧ fnK L v 0 < (L.length : Int)) := fnK_b L v _ 0 rfl
theorem fnK_tk (L : List Nat) (v : Int) (c : Nat) (hc : c ≤ L.length) : ∀ m k, L.length - k = m → k ≤ c → fnK (L.take c) v k = if fnK L v k < (c : Int) then fnK L v k else -1
  | 0, k, h, hk => by
    rw [fnK_e (L := L) (by omega), fnK_e (L := L.take c) (by rw [List.length_take]; omega)]
    split <;> rfl
  | m + 1, k, h, hk => by
    have hx := List.getElem?_eq_getElem (l := L) (i := k) (by omega)
    have hL := fnK_b L v (m + 1) k h
    have ht : k < c → (L.take c)[k]? = some L[k] := fun q => by rw [List.getElem?_take, if_pos q]; exact hx
    by_cases q : k < c
    · by_cases e : (L[k] : Int) = v
      · rw [fnK_y hx e, fnK_y (ht q) e, if_pos (by omega)]
      · rw [fnK_n hx e, fnK_n (ht q) e]
        exact fnK_tk L v c hc m (k + 1) (by omega) (by omega)
    · rw [fnK_e (L := L.take c) (by rw [List.length_take]; omega)]
      split
      · omega
      · rfl
/-- a fault (its number, its place), or what was read -/
abbrev FR' (α : Type) := (Nat × Nat) ⊕ α
def sb {α β : Type} (x : FR' α) (f : α → FR' β) : FR' β := match x with
  | .inl e => .inl e
  | .inr v => f v
theorem sb_l {α β : Type} {e : Nat × Nat} {f : α → FR' β} : sb (.inl e) f = .inl e := rfl
theorem sb_r {α β : Type} {v : α} {f : α → FR' β} : sb (.inr v) f = f v := rfl
section
variable (T : Int → Int) (N : Nat)
/-- a name: its number, its place, what is behind it -/
def pName (a : Nat) : FR' (Nat × Nat × Nat) := if (tok T N a).1 = 1 ∧ wi (tok T N a).2.1 < 0 then .inr ((tok T N a).2.1, (tok T N a).2.2.1, (tok T N a).2.2.2) else .inl (1, (tok T N a).2.2.1)
def pNew (s : DS) (a : Nat) : FR' (Nat × Nat) := sb (pName T N a) fun v => if 0 ≤ fnK (dN s) v.1 0 ∨ 0 ≤ fnK (dJ s) v.1 0 then .inl (3, v.2.1) else .inr (v.1, v.2.2)
def pPl (s : DS) (c a : Nat) : FR' (Nat × Nat × Nat) := sb (pName T N a) fun v => if 0 ≤ fnK (dN s) v.1 0 ∧ fnK (dN s) v.1 0 < (c : Int) then .inr ((fnK (dN s) v.1 0).toNat, v.2.1, v.2.2) else .inl (4, v.2.1)
def pIn (s : DS) (a : Nat) : FR' (Nat × Nat × Nat) := sb (pName T N a) fun v => if 0 ≤ fnK (dJ s) v.1 0 then .inr ((fnK (dJ s) v.1 0).toNat, v.2.1, v.2.2) else .inl (4, v.2.1)
def pNum (m a : Nat) : FR' (Nat × Nat) := if (tok T N a).1 = 2 then (if (tok T N a).2.1 ≤ m then .inr ((tok T N a).2.1, (tok T N a).2.2.2) else .inl (2, (tok T N a).2.2.1)) else .inl (1, (tok T N a).2.2.1)
def pClose (s : DS) (a : Nat) : FR' (DS × Nat) := if (tok T N a).1 = 3 then .inr ((dN s, dM s, dJ s, dA s, dB s, dX s, dD s, dL s + 1), (tok T N a).2.2.2) else .inl (1, (tok T N a).2.2.1)
def pSt (s : DS) (k : TK) : FR' (DS × Nat) := if dM s < (dN s).length then .inl (1, k.2.2.1) else if 6 ≤ dM s then .inl (2, k.2.2.1) else sb (pNew T N s k.2.2.2) fun v => .inr ((dN s ++ [v.1], dM s + 1, dJ s, dA s, dB s, dX s, dD s, dL s), v.2)
def pIp (s : DS) (k : TK) : FR' (DS × Nat) := if 3 ≤ (dJ s).length then .inl (2, k.2.2.1) else sb (pNew T N s k.2.2.2) fun v => .inr ((dN s, dM s, dJ s ++ [v.1], dA s, dB s, dX s, dD s, dL s), v.2)
def pMo (s : DS) (k : TK) : FR' (DS × Nat) := if dM s = 0 then .inl (1, k.2.2.1) else if dM s + 2 ≤ (dN s).length then .inl (2, k.2.2.1) else sb (pNew T N s k.2.2.2) fun v => .inr ((dN s ++ [v.1], dM s, dJ s, dA s, dB s, dX s, dD s, dL s), v.2)
/-- an arc: where it stands, its next place and output, what is behind it -/
def pArc (s : DS) (c : Nat) (g : Int → Int) (a : Nat) : FR' (Nat × Nat × Nat) := sb (pPl T N s c a) fun f => sb (pIn T N s f.2.2) fun i => if g ((3 * f.1 + i.1 : Nat) : Int) = -1 then sb (pPl T N s c i.2.2) fun t => sb (pNum T N 9 t.2.2) fun v => .inr (3 * f.1 + i.1, 16 * t.1 + v.1, v.2) else .inl (3, i.2.1)
def pAr (s : DS) (k : TK) : FR' (DS × Nat) := sb (pArc T N s (dM s) (dA s) k.2.2.2) fun v => .inr ((dN s, dM s, dJ s, (fun b => if b = (v.1 : Int) then (v.2.1 : Int) else dA s b), dB s, dX s, dD s, dL s), v.2.2)
def pTw (s : DS) (k : TK) : FR' (DS × Nat) := sb (pArc T N s (dN s).length (dB s) k.2.2.2) fun v => .inr ((dN s, dM s, dJ s, dA s, (fun b => if b = (v.1 : Int) then (v.2.1 : Int) else dB s b), dX s, dD s, dL s), v.2.2)
def pEx (s : DS) (k : TK) : FR' (DS × Nat) := if dX s ≠ 0 then .inl (3, k.2.2.1) else sb (pNum T N 2 k.2.2.2) fun v => .inr ((dN s, dM s, dJ s, dA s, dB s, (v.1 : Int) + 1, dD s, dL s), v.2)
def pSe (s : DS) (k : TK) : FR' (DS × Nat) := if dD s ≠ 0 then .inl (3, k.2.2.1) else sb (pNum T N 99999 k.2.2.2) fun v => .inr ((dN s, dM s, dJ s, dA s, dB s, dX s, (v.1 : Int) + 1, dL s), v.2)
def pBody (s : DS) (k : TK) : FR' (DS × Nat) := if k.1 = 1 then (if wi k.2.1 = 0 then pSt T N s k else if wi k.2.1 = 1 then pIp T N s k else if wi k.2.1 = 2 then pMo T N s k else if wi k.2.1 = 3 then pAr T N s k else if wi k.2.1 = 4 then pTw T N s k else if wi k.2.1 = 5 then pEx T N s k else if wi k.2.1 = 6 then pSe T N s k else .inl (1, k.2.2.1)) else .inl (1, k.2.2.1)
def pLine (s : DS) (k : TK) : FR' (DS × Nat) := sb (pBody T N s k) fun v => pClose T N v.1 v.2
def pText : Nat → DS → Nat → FR' DS
  | 0, s, _ => .inr s
  | f + 1, s, a => if (tok T N a).1 = 0 then .inr s else sb (pLine T N s (tok T N a)) fun v => pText f v.1 v.2
end
/-- what is told keeps its bounds -/
def rOK (g : Int → Int) (c m : Nat) : Prop := ∀ a : Int, 0 ≤ a → a < 24 → g a = -1 ∨ (a / 3 < (c : Int) ∧ a % 3 < (m : Int) ∧ 0 ≤ g a ∧ g a / 16 < (c : Int) ∧ g a % 16 ≤ 9)
def dOK (s : DS) : Prop := (dM s ≤ 6 ∧ dM s ≤ (dN s).length ∧ (dN s).length ≤ dM s + 2 ∧ (dM s < (dN s).length → 0 < dM s) ∧ (dJ s).length ≤ 3) ∧ rOK (dA s) (dM s) (dJ s).length ∧ rOK (dB s) (dN s).length (dJ s).length ∧ (0 ≤ dX s ∧ dX s ≤ 3) ∧ (0 ≤ dD s ∧ dD s ≤ 100000) ∧ (∀ v ∈ dN s, v < 1073741824) ∧ ∀ v ∈ dJ s, v < 1073741824
theorem rOK_0 (c m : Nat) : rOK (fun _ => -1) c m := fun _ _ _ => Or.inl rfl
theorem rOK_le {g : Int → Int} {c m c' m' : Nat} (h : rOK g c m) (hc : c ≤ c') (hm : m ≤ m') : rOK g c' m' := fun a a1 a2 => by
  rcases h a a1 a2 with q | q
  · exact Or.inl q
  · exact Or.inr (by omega)
theorem rOK_up {g : Int → Int} {c m p i t o : Nat} (h : rOK g c m) (hp : p < c) (hi : i < m) (ht : t < c) (ho : o ≤ 9) (hi3 : i < 3) : rOK (fun b => if b = ((3 * p + i : Nat) : Int) then ((16 * t + o : Nat) : Int) else g b) c m := fun a a1 a2 => by
  dsimp only
  by_cases z : a = ((3 * p + i : Nat) : Int)
  · rw [if_pos z]
    exact Or.inr (by omega)
  · rw [if_neg z]; exact h a a1 a2
theorem dOK_0 : dOK ds0 := ⟨⟨by decide, by decide, by decide, by decide, by decide⟩, rOK_0 _ _, rOK_0 _ _, by decide, by decide, (fun v h => by cases h), fun v h => by cases h⟩
section
variable {T : Int → Int} {N : Nat}
theorem sb_inr {α β : Type} {x : FR' α} {f : α → FR' β} {r : β} (h : sb x f = .inr r) : ∃ v, x = .inr v ∧ f v = .inr r := by
  cases x with
  | inl e => cases h
  | inr v => exact ⟨v, rfl, h⟩
theorem pName_r {a : Nat} {v : Nat × Nat × Nat} (ha : a ≤ N) (h : pName T N a = .inr v) : v.1 < 1073741824 ∧ a < v.2.2 ∧ v.2.2 ≤ N := by
  have b := tok_b (T := T) ha
  unfold pName at h
  by_cases q : (tok T N a).1 = 1 ∧ wi (tok T N a).2.1 < 0
  · rw [if_pos q] at h
    cases h
    dsimp only
    have := b.2.2.2.2.1 (by omega)
    exact ⟨b.2.2.2.2.2.2.1 q.1, by omega, b.2.2.2.1⟩
  · rw [if_neg q] at h; cases h
theorem pNew_r {s : DS} {a : Nat} {v : Nat × Nat} (ha : a ≤ N) (h : pNew T N s a = .inr v) : v.1 < 1073741824 ∧ a < v.2 ∧ v.2 ≤ N := by
  obtain ⟨u, h1, h2⟩ := sb_inr h
  have b := pName_r ha h1
  split at h2
  · cases h2
  · cases h2; exact b
theorem pPl_r {s : DS} {c a : Nat} {v : Nat × Nat × Nat} (ha : a ≤ N) (h : pPl T N s c a = .inr v) : v.1 < c ∧ v.1 < (dN s).length ∧ a < v.2.2 ∧ v.2.2 ≤ N := by
  obtain ⟨u, h1, h2⟩ := sb_inr h
  have b := pName_r ha h1
  have f := fnK_bd (dN s) (u.1 : Int)
  split at h2
  · cases h2; dsimp only; omega
  · cases h2
theorem pIn_r {s : DS} {a : Nat} {v : Nat × Nat × Nat} (ha : a ≤ N) (h : pIn T N s a = .inr v) : v.1 < (dJ s).length ∧ a < v.2.2 ∧ v.2.2 ≤ N := by
  obtain ⟨u, h1, h2⟩ := sb_inr h
  have b := pName_r ha h1
  have f := fnK_bd (dJ s) (u.1 : Int)
  split at h2
  · cases h2; dsimp only; omega
  · cases h2
theorem pNum_r {m a : Nat} {v : Nat × Nat} (ha : a ≤ N) (h : pNum T N m a = .inr v) : v.1 ≤ m ∧ a < v.2 ∧ v.2 ≤ N := by
  have b := tok_b (T := T) ha
  unfold pNum at h
  by_cases q : (tok T N a).1 = 2
  · rw [if_pos q] at h
    have := b.2.2.2.2.1 (by omega)
    split at h
    · cases h; dsimp only; omega
    · cases h
  · rw [if_neg q] at h; cases h
theorem pArc_r {s : DS} {c a : Nat} {g : Int → Int} {v : Nat × Nat × Nat} (hJ : (dJ s).length ≤ 3) (ha : a ≤ N) (h : pArc T N s c g a = .inr v) : (∃ p i t o, v.1 = 3 * p + i ∧ v.2.1 = 16 * t + o ∧ p < c ∧ i < (dJ s).length ∧ t < c ∧ o ≤ 9) ∧ a < v.2.2 ∧ v.2.2 ≤ N := by
  obtain ⟨f, f1, f2⟩ := sb_inr h
  have bf := pPl_r ha f1
  obtain ⟨i, i1, i2⟩ := sb_inr f2
  have bi := pIn_r bf.2.2.2 i1
  split at i2
  · obtain ⟨t, t1, t2⟩ := sb_inr i2
    have bt := pPl_r bi.2.2 t1
    obtain ⟨w, w1, w2⟩ := sb_inr t2
    have bw := pNum_r bt.2.2.2 w1
    cases w2
    dsimp only
    exact ⟨⟨f.1, i.1, t.1, w.1, rfl, rfl, bf.1, bi.1, bt.1, bw.1⟩, by omega, by omega⟩
  · cases i2
theorem pBody_r {s : DS} {k : TK} {v : DS × Nat} (O : dOK s) (hk : k.2.2.2 ≤ N) (h : pBody T N s k = .inr v) : dOK v.1 ∧ k.2.2.2 < v.2 ∧ v.2 ≤ N ∧ dL v.1 = dL s := by
  obtain ⟨⟨o1, o2, o3, o4, o5⟩, oA, oB, oX, oD, oN, oJ⟩ := O
  unfold pBody at h
  split at h
  · split at h
    · unfold pSt at h
      split at h
      · cases h
      · split at h
        · cases h
        · obtain ⟨u, h1, h2⟩ := sb_inr h
          have b := pNew_r hk h1
          cases h2
          refine ⟨⟨⟨?_, ?_, ?_, ?_, o5⟩, rOK_le oA ?_ (Nat.le_refl _), rOK_le oB ?_ (Nat.le_refl _), oX, oD, ?_, oJ⟩, b.2.1, b.2.2, rfl⟩
          · show dM s + 1 ≤ 6; omega
          · show dM s + 1 ≤ (dN s ++ [u.1]).length; rw [List.length_append]; show _ ≤ _ + 1; omega
          · show (dN s ++ [u.1]).length ≤ dM s + 1 + 2; rw [List.length_append]; show _ + 1 ≤ _; omega
          · show _ → 0 < dM s + 1; omega
          · show dM s ≤ dM s + 1; omega
          · show _ ≤ (dN s ++ [u.1]).length; rw [List.length_append]; omega
          · intro x hx
            rcases List.mem_append.mp hx with y | y
            · exact oN x y
            · rw [List.mem_singleton.mp y]; exact b.1
    · split at h
      · unfold pIp at h
        split at h
        · cases h
        · obtain ⟨u, h1, h2⟩ := sb_inr h
          have b := pNew_r hk h1
          cases h2
          have l : (dJ s ++ [u.1]).length = (dJ s).length + 1 := by rw [List.length_append]; rfl
          refine ⟨⟨⟨o1, o2, o3, o4, ?_⟩, rOK_le oA (Nat.le_refl _) ?_, rOK_le oB (Nat.le_refl _) ?_, oX, oD, oN, ?_⟩, b.2.1, b.2.2, rfl⟩
          · show (dJ s ++ [u.1]).length ≤ 3; omega
          · show _ ≤ (dJ s ++ [u.1]).length; omega
          · show _ ≤ (dJ s ++ [u.1]).length; omega
          · intro x hx
            rcases List.mem_append.mp hx with y | y
            · exact oJ x y
            · rw [List.mem_singleton.mp y]; exact b.1
      · split at h
        · unfold pMo at h
          split at h
          · cases h
          · split at h
            · cases h
            · obtain ⟨u, h1, h2⟩ := sb_inr h
              have b := pNew_r hk h1
              cases h2
              have l : (dN s ++ [u.1]).length = (dN s).length + 1 := by rw [List.length_append]; rfl
              refine ⟨⟨⟨o1, ?_, ?_, ?_, o5⟩, oA, rOK_le oB ?_ (Nat.le_refl _), oX, oD, ?_, oJ⟩, b.2.1, b.2.2, rfl⟩
              · show dM s ≤ (dN s ++ [u.1]).length; omega
              · show (dN s ++ [u.1]).length ≤ dM s + 2; omega
              · show _ → 0 < dM s; omega
              · show _ ≤ (dN s ++ [u.1]).length; omega
              · intro x hx
                rcases List.mem_append.mp hx with y | y
                · exact oN x y
                · rw [List.mem_singleton.mp y]; exact b.1
        · split at h
          · obtain ⟨u, h1, h2⟩ := sb_inr h
            obtain ⟨⟨p, i, t, o, e1, e2, c1, c2, c3, c4⟩, b1, b2⟩ := pArc_r o5 hk h1
            cases h2
            have := rOK_up oA c1 c2 c3 c4 (by omega)
            rw [← e1, ← e2] at this
            exact ⟨⟨⟨o1, o2, o3, o4, o5⟩, this, oB, oX, oD, oN, oJ⟩, b1, b2, rfl⟩
          · split at h
            · obtain ⟨u, h1, h2⟩ := sb_inr h
              obtain ⟨⟨p, i, t, o, e1, e2, c1, c2, c3, c4⟩, b1, b2⟩ := pArc_r o5 hk h1
              cases h2
              have := rOK_up oB c1 c2 c3 c4 (by omega)
              rw [← e1, ← e2] at this
              exact ⟨⟨⟨o1, o2, o3, o4, o5⟩, oA, this, oX, oD, oN, oJ⟩, b1, b2, rfl⟩
            · split at h
              · unfold pEx at h
                split at h
                · cases h
                · obtain ⟨u, h1, h2⟩ := sb_inr h
                  have b := pNum_r hk h1
                  cases h2
                  exact ⟨⟨⟨o1, o2, o3, o4, o5⟩, oA, oB, (by show 0 ≤ (u.1 : Int) + 1 ∧ (u.1 : Int) + 1 ≤ 3; omega), oD, oN, oJ⟩, b.2.1, b.2.2, rfl⟩
              · split at h
                · unfold pSe at h
                  split at h
                  · cases h
                  · obtain ⟨u, h1, h2⟩ := sb_inr h
                    have b := pNum_r hk h1
                    cases h2
                    exact ⟨⟨⟨o1, o2, o3, o4, o5⟩, oA, oB, oX, (by show 0 ≤ (u.1 : Int) + 1 ∧ (u.1 : Int) + 1 ≤ 100000; omega), oN, oJ⟩, b.2.1, b.2.2, rfl⟩
                · cases h
  · cases h
theorem pClose_r {s : DS} {a : Nat} {v : DS × Nat} (O : dOK s) (ha : a ≤ N) (h : pClose T N s a = .inr v) : dOK v.1 ∧ a < v.2 ∧ v.2 ≤ N ∧ dL v.1 = dL s + 1 := by
  have b := tok_b (T := T) ha
  unfold pClose at h
  split at h
  · next q =>
    have := b.2.2.2.2.1 (by omega)
    cases h
    exact ⟨O, by dsimp only; omega, b.2.2.2.1, rfl⟩
  · cases h
theorem pLine_r {s : DS} {k : TK} {v : DS × Nat} (O : dOK s) (hk : k.2.2.2 ≤ N) (h : pLine T N s k = .inr v) : dOK v.1 ∧ k.2.2.2 < v.2 ∧ v.2 ≤ N ∧ dL v.1 = dL s + 1 := by
  obtain ⟨u, h1, h2⟩ := sb_inr h
  have b := pBody_r O hk h1
  have c := pClose_r b.1 b.2.2.1 h2
  exact ⟨c.1, by omega, c.2.2.1, by omega⟩
end
