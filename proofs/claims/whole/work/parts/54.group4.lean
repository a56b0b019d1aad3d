-- deps: 18 19 20 21 23 24 25 26 27 28 29 22 30 31 32 33 34 35 36 37 38 39 40 41 42 43 44 45 46 47 48 51 52 53
/-! words for all: pure -/
section
variable {S I : Nat} {t o : Int → Int} {R : Nat}
def FT (S : Nat) (t : Int → Int) (s i : Nat) : Nat := if 262144 ≤ s then 262144 else FAz S t s i
theorem FT_d (j : Nat) : FT S t 262144 j = 262144 := if_pos (Nat.le_refl _)
def fOK (t o : Int → Int) (R what w : Nat) : Prop := ∀ a b, a ≠ b → R.testBit a = true → R.testBit b = true → if what = 0 then aS t o (a : Int) w ≠ aS t o (b : Int) w else if what = 1 then (aS t o (a : Int) w = aS t o (b : Int) w → dS t (a : Int) w = dS t (b : Int) w) else dS t (a : Int) w = dS t (b : Int) w
theorem col_c {v j : Nat} (hj : j < 3) (h : col t o R v) : col t o R (4 * v + j + 1) := by
  obtain ⟨a, b, h1, h2, h3, h4, h5⟩ := h
  exact ⟨a, b, h1, h2, h3, by rw [aS_c _ _ _ _ hj, aS_c _ _ _ _ hj, h4, h5], by rw [dS_c _ _ _ hj, dS_c _ _ _ hj, h5]⟩
theorem GT_y {ap : Bool} {F i : Nat} (hF : F < 262144) (z : ap = true ∧ GD S t o F i) : GT S t o ap F i = 262144 := by
  unfold GT; rw [if_neg (by omega), if_pos z]
theorem GT_n {ap : Bool} {F i : Nat} (hF : F < 262144) (z : ¬ (ap = true ∧ GD S t o F i)) : GT S t o ap F i = GN S t o F i := by
  unfold GT; rw [if_neg (by omega), if_neg z]
theorem GT_sem (hS : S ≤ 6) (hI : I ≤ 3) (hm : mok t o) (hc : clo S t) (hR : ∀ x, R.testBit x = true → x < S) (hR64 : R < 64) (hR2 : two R) (ap : Bool) : ∀ w, wok I w → (sg (GT S t o ap) R w = 262144 ∧ ap = true ∧ col t o R w) ∨ (GRP S t o R w (sg (GT S t o ap) R w) ∧ (ap = true → ¬ col t o R w)) := by
  refine w_ind hI ?_ ?_
  · refine Or.inr ⟨?_, fun _ => ?_⟩
    · rw [sg_0]
      have en : ∀ a, En S t o R a 0 = R := fun a => tb_iff fun y => by
        rw [En_tb hI hc hR (wok_0 I)]
        constructor
        · rintro ⟨b, b1, b2, b3⟩
          rw [dS_0] at b3
          have : b = y := by omega
          subst this; exact b1
        · intro h; exact ⟨y, h, by rw [aS_0, aS_0], dS_0 _ _⟩
      refine ⟨⟨by omega, by omega, by omega⟩, fun m hm0 => ?_⟩
      unfold memF mEn
      rw [show R % 64 = R by omega, show R / 64 % 64 = 0 by omega, show R / 4096 % 64 = 0 by omega]
      constructor
      · rintro (q | q | q)
        · obtain ⟨x, y, _, h2, _⟩ := hR2
          exact ⟨x, h2, by rw [en]; exact ⟨x, y, by assumption, h2, by assumption⟩, by rw [en]; exact q⟩
        · exact (hm0 q).elim
        · exact (hm0 q).elim
      · rintro ⟨a, _, _, q⟩
        rw [en] at q; exact Or.inl q
    · rintro ⟨a, b, h1, h2, h3, h4, h5⟩
      rw [dS_0, dS_0] at h5
      omega
  · intro v j h1 h2 h3 ih
    rw [sg_c _ _ h2]
    rcases ih with ⟨a1, a2, a3⟩ | ⟨a1, a2⟩
    · exact Or.inl ⟨by rw [a1]; exact GT_d _ _, a2, col_c h2 a3⟩
    · obtain ⟨b1, b2⟩ := GRP_step hS hI hm hc hR h3 h1 a1
      by_cases z : ap = true ∧ GD S t o (sg (GT S t o ap) R v) j
      · rw [GT_y a1.1.1 z]
        exact Or.inl ⟨rfl, z.1, (b2 (a2 z.1)).mp z.2⟩
      · rw [GT_n a1.1.1 z]
        exact Or.inr ⟨b1, fun ha hcol => z ⟨ha, (b2 (a2 ha)).mpr hcol⟩⟩
theorem GRP_0 {w F : Nat} (h : GRP S t o R w F) : F = 0 ↔ ∀ a, R.testBit a = true → ¬ two (En S t o R a w) := by
  obtain ⟨⟨h1, h2, h3⟩, h4⟩ := h
  constructor
  · rintro rfl a ha ht
    have := (h4 _ (two_ne ht)).mpr ⟨a, ha, ht, rfl⟩
    exact two_ne ht (by rcases this with q | q | q <;> exact q)
  · intro h
    have no : ∀ m, memF F m → m = 0 := fun m hm => Classical.byContradiction fun z => by
      obtain ⟨a, a1, a2, _⟩ := (h4 m z).mp hm
      exact h a a1 a2
    have e1 := no _ (Or.inl rfl)
    have e2 := no _ (Or.inr (Or.inl rfl))
    have e3 := no _ (Or.inr (Or.inr rfl))
    omega
theorem GT_goal0 (hS : S ≤ 6) (hI : I ≤ 3) (hm : mok t o) (hc : clo S t) (hR : ∀ x, R.testBit x = true → x < S) (hR64 : R < 64) (hR2 : two R) {w : Nat} (hw : wok I w) : fOK t o R 0 w ↔ sg (GT S t o true) R w = 0 := by
  rcases GT_sem hS hI hm hc hR hR64 hR2 true w hw with ⟨a1, _, a, b, h1, h2, h3, h4, h5⟩ | ⟨a1, a2⟩
  · rw [a1]
    refine ⟨fun h => ?_, fun h => by omega⟩
    have := h a b h1 h2 h3
    rw [if_pos rfl] at this
    exact (this h4).elim
  · rw [GRP_0 a1]
    constructor
    · intro h a ha ht
      obtain ⟨b, c, b1, c1, b2, c2, d⟩ := (En_two hI hc hR hw).mp ht
      have := h b c (fun e => d (by rw [e])) b1 c1
      rw [if_pos rfl] at this
      exact this (b2.trans c2.symm)
    · intro h a b hab ha hb
      rw [if_pos rfl]
      intro e
      refine h a ha ((En_two hI hc hR hw).mpr ⟨a, b, ha, hb, rfl, e.symm, fun e2 => a2 rfl ⟨a, b, hab, ha, hb, e, e2⟩⟩)
theorem GT_goal1 (hS : S ≤ 6) (hI : I ≤ 3) (hm : mok t o) (hc : clo S t) (hR : ∀ x, R.testBit x = true → x < S) (hR64 : R < 64) (hR2 : two R) {w : Nat} (hw : wok I w) : fOK t o R 1 w ↔ sg (GT S t o false) R w = 0 := by
  rcases GT_sem hS hI hm hc hR hR64 hR2 false w hw with ⟨a1, a2, _⟩ | ⟨a1, a2⟩
  · cases a2
  · rw [GRP_0 a1]
    constructor
    · intro h a ha ht
      obtain ⟨b, c, b1, c1, b2, c2, d⟩ := (En_two hI hc hR hw).mp ht
      have := h b c (fun e => d (by rw [e])) b1 c1
      rw [if_neg (by decide), if_pos rfl] at this
      exact d (this (b2.trans c2.symm))
    · intro h a b hab ha hb
      rw [if_neg (by decide), if_pos rfl]
      intro e
      refine Classical.byContradiction fun d => h a ha ((En_two hI hc hR hw).mpr ⟨a, b, ha, hb, rfl, e.symm, d⟩)
theorem FT_sem (hS : S ≤ 6) (hI : I ≤ 3) (hc : clo S t) (hR : ∀ x, R.testBit x = true → x < S) (hR64 : R < 64) (hR2 : two R) : ∀ w, wok I w → (sg (FT S t) R w = 0 ∧ ∀ a b, R.testBit a = true → R.testBit b = true → dS t (a : Int) w = dS t (b : Int) w) ∨ (two (sg (FT S t) R w) ∧ sg (FT S t) R w < 64 ∧ ∀ y : Nat, (sg (FT S t) R w).testBit y = true ↔ ∃ a, R.testBit a = true ∧ dS t (a : Int) w = (y : Int)) := by
  refine w_ind hI ?_ ?_
  · refine Or.inr ?_
    rw [sg_0]
    refine ⟨hR2, hR64, fun y => ⟨fun h => ⟨y, h, dS_0 _ _⟩, fun ⟨a, a1, a2⟩ => ?_⟩⟩
    rw [dS_0] at a2
    have : a = y := by omega
    subst this; exact a1
  · intro v j h1 h2 h3 ih
    rw [sg_c _ _ h2]
    have ds : ∀ x, R.testBit x = true → 0 ≤ dS t (x : Int) v ∧ dS t (x : Int) v < (S : Int) := fun x hx => dS_cl hI (clo_m hI hc) (by have := hR x hx; omega) v h3
    rcases ih with ⟨a1, a2⟩ | ⟨a1, a2, a3⟩
    · refine Or.inl ⟨?_, fun a b ha hb => by rw [dS_c _ _ _ h2, dS_c _ _ _ h2, a2 a b ha hb]⟩
      rw [a1]
      unfold FT
      rw [if_neg (by omega)]
      refine (FAz_two hS hc h2).2 ?_
      rintro ⟨x, y, _, q, _⟩
      obtain ⟨z, _, q2, _⟩ := FAs_tb.mp q
      rw [tb_0] at q2; cases q2
    · have tb : ∀ y : Nat, (FAs S t (sg (FT S t) R v) j).testBit y = true ↔ ∃ a, R.testBit a = true ∧ dS t (a : Int) (4 * v + j + 1) = (y : Int) := by
        intro y
        rw [FAs_tb]
        constructor
        · rintro ⟨x, x1, x2, x3⟩
          obtain ⟨a, b1, b2⟩ := (a3 x).mp x2
          have := hc (x : Int) j (by omega) (by omega) h2
          exact ⟨a, b1, by rw [dS_c _ _ _ h2, b2]; omega⟩
        · rintro ⟨a, b1, b2⟩
          have d := ds a b1
          have ca : (((dS t (a : Int) v).toNat : Nat) : Int) = dS t (a : Int) v := by omega
          refine ⟨(dS t (a : Int) v).toNat, by omega, (a3 _).mpr ⟨a, b1, ca.symm⟩, ?_⟩
          rw [dS_c _ _ _ h2] at b2
          rw [ca, b2]; omega
      have e : FT S t (sg (FT S t) R v) j = FAz S t (sg (FT S t) R v) j := if_neg (by omega)
      rw [e]
      by_cases z : two (FAs S t (sg (FT S t) R v) j)
      · rw [(FAz_two hS hc h2).1 z]
        exact Or.inr ⟨z, FAs_lt hS hc h2, tb⟩
      · rw [(FAz_two hS hc h2).2 z]
        refine Or.inl ⟨rfl, fun a b ha hb => Classical.byContradiction fun d => z ?_⟩
        have w2 : wok I (4 * v + j + 1) := (wok_cc h2).mpr ⟨h1, h3⟩
        have da := dS_cl hI (clo_m hI hc) (p := (a : Int)) (by have := hR a ha; omega) _ w2
        have db := dS_cl hI (clo_m hI hc) (p := (b : Int)) (by have := hR b hb; omega) _ w2
        exact ⟨(dS t (a : Int) (4 * v + j + 1)).toNat, (dS t (b : Int) (4 * v + j + 1)).toNat, by omega, (tb _).mpr ⟨a, ha, by omega⟩, (tb _).mpr ⟨b, hb, by omega⟩⟩
theorem FT_goal (hS : S ≤ 6) (hI : I ≤ 3) (hc : clo S t) (hR : ∀ x, R.testBit x = true → x < S) (hR64 : R < 64) (hR2 : two R) {w : Nat} (hw : wok I w) : fOK t o R 2 w ↔ sg (FT S t) R w = 0 := by
  rcases FT_sem hS hI hc hR hR64 hR2 w hw with ⟨a1, a2⟩ | ⟨a1, a2, a3⟩
  · rw [a1]
    exact ⟨fun _ => rfl, fun _ a b _ ha hb => by rw [if_neg (by decide), if_neg (by decide)]; exact a2 a b ha hb⟩
  · constructor
    · intro h
      obtain ⟨x, y, h1, h2, h3⟩ := a1
      obtain ⟨a, b1, b2⟩ := (a3 x).mp h2
      obtain ⟨c, c1, c2⟩ := (a3 y).mp h3
      have := h a c (fun e => by subst e; omega) b1 c1
      rw [if_neg (by decide), if_neg (by decide)] at this
      omega
    · intro h; exact (two_ne a1 h).elim
/-- the transition that is used for what -/
noncomputable def WT (S : Nat) (t o : Int → Int) (what : Nat) : Nat → Nat → Nat := if what = 0 then GT S t o true else if what = 1 then GT S t o false else FT S t
theorem WT_d (what j : Nat) : WT S t o what 262144 j = 262144 := by
  unfold WT
  split
  · exact GT_d _ _
  · split
    · exact GT_d _ _
    · exact FT_d _
theorem WT_goal (hS : S ≤ 6) (hI : I ≤ 3) (hm : mok t o) (hc : clo S t) (hR : ∀ x, R.testBit x = true → x < S) (hR64 : R < 64) (hR2 : two R) {what w : Nat} (hwh : what < 3) (hw : wok I w) : fOK t o R what w ↔ sg (WT S t o what) R w = 0 := by
  unfold WT
  by_cases z : what = 0
  · subst z; rw [if_pos rfl]; exact GT_goal0 hS hI hm hc hR hR64 hR2 hw
  · by_cases z1 : what = 1
    · subst z1; rw [if_neg (by decide), if_pos rfl]; exact GT_goal1 hS hI hm hc hR hR64 hR2 hw
    · have : what = 2 := by omega
      subst this; rw [if_neg (by decide), if_neg (by decide)]; exact FT_goal hS hI hc hR hR64 hR2 hw
theorem WT_lt (hS : S ≤ 6) (hI : I ≤ 3) (hm : mok t o) (hc : clo S t) (hR : ∀ x, R.testBit x = true → x < S) (hR64 : R < 64) (hR2 : two R) {what w : Nat} (hw : wok I w) : sg (WT S t o what) R w = 262144 ∨ sg (WT S t o what) R w < 262144 := by
  unfold WT
  by_cases z : what = 0
  · rw [if_pos z]
    rcases GT_sem hS hI hm hc hR hR64 hR2 true w hw with ⟨a1, _⟩ | ⟨a1, _⟩
    · exact Or.inl a1
    · exact Or.inr a1.1.1
  · rw [if_neg z]
    by_cases z1 : what = 1
    · rw [if_pos z1]
      rcases GT_sem hS hI hm hc hR hR64 hR2 false w hw with ⟨a1, _⟩ | ⟨a1, _⟩
      · exact Or.inl a1
      · exact Or.inr a1.1.1
    · rw [if_neg z1]
      rcases FT_sem hS hI hc hR hR64 hR2 w hw with ⟨a1, _⟩ | ⟨_, a1, _⟩
      · right; omega
      · right; omega
/-- the first word for all -/
noncomputable def FAw (I : Nat) (t o : Int → Int) (R what : Nat) : Int := fw fun w => wok I w ∧ wlen w ≤ 8 ∧ fOK t o R what w
theorem FAw_b (what : Nat) : FAw I t o R what = -2 ∨ (0 ≤ FAw I t o R what ∧ FAw I t o R what < 65536) := by
  rcases fw_cases (fun w => wok I w ∧ wlen w ≤ 8 ∧ fOK t o R what w) with ⟨w, a1, a2, a3⟩ | ⟨a1, _⟩
  · right
    have : w < 4 ^ 8 := wlen_le.mp a2.2.1
    have : (4 : Nat) ^ 8 = 65536 := by decide
    unfold FAw; omega
  · exact Or.inl a1
end
