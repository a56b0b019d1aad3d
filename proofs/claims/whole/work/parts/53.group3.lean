-- deps: 18 19 20 21 23 24 25 26 27 28 29 22 30 31 32 33 34 35 36 37 38 39 40 41 42 43 44 45 46 47 48 51 52
/-! what groups mean: pure -/
section
variable {S I : Nat} {t o : Int → Int} {R : Nat}
/-- where those are that answer a word as a does -/
def En (S : Nat) (t o : Int → Int) (R a w : Nat) : Nat := orA (fun x => R.testBit x && decide (aS t o (x : Int) w = aS t o (a : Int) w)) (fun x => (dS t (x : Int) w).toNat) S
theorem En_tb (hI : I ≤ 3) (hc : clo S t) (hR : ∀ x, R.testBit x = true → x < S) {a w y : Nat} (hw : wok I w) : (En S t o R a w).testBit y = true ↔ ∃ b, R.testBit b = true ∧ aS t o (b : Int) w = aS t o (a : Int) w ∧ dS t (b : Int) w = (y : Int) := by
  unfold En
  rw [tb_orA]
  constructor
  · rintro ⟨b, h1, h2, h3⟩
    rw [Bool.and_eq_true, decide_eq_true_eq] at h2
    have d := dS_cl hI (clo_m hI hc) (p := (b : Int)) (by omega) w hw
    have h3' : (dS t (b : Int) w).toNat = y := h3
    exact ⟨b, h2.1, h2.2, by omega⟩
  · rintro ⟨b, h1, h2, h3⟩
    exact ⟨b, hR b h1, by rw [Bool.and_eq_true, decide_eq_true_eq]; exact ⟨h1, h2⟩, by show (dS t (b : Int) w).toNat = y; omega⟩
theorem En_lt (hI : I ≤ 3) (hc : clo S t) (hR : ∀ x, R.testBit x = true → x < S) {a w : Nat} (hw : wok I w) : ∀ y, (En S t o R a w).testBit y = true → y < S := by
  intro y h
  obtain ⟨b, h1, h2, h3⟩ := (En_tb hI hc hR hw).mp h
  have d := dS_cl hI (clo_m hI hc) (p := (b : Int)) (by have := hR b h1; omega) w hw
  omega
theorem tb_iff {x y : Nat} (h : ∀ i, x.testBit i = true ↔ y.testBit i = true) : x = y := tb_ext fun i => by
  have := h i
  cases h1 : x.testBit i <;> cases h2 : y.testBit i
  · rfl
  · rw [h1, h2] at this; exact absurd (this.mpr rfl) (by decide)
  · rw [h1, h2] at this; exact absurd (this.mp rfl) (by decide)
  · rfl
theorem En_same {a b w : Nat} (h : aS t o (b : Int) w = aS t o (a : Int) w) : En S t o R b w = En S t o R a w := by unfold En; rw [h]
/-- two of a class at different places -/
theorem En_two (hI : I ≤ 3) (hc : clo S t) (hR : ∀ x, R.testBit x = true → x < S) {a w : Nat} (hw : wok I w) : two (En S t o R a w) ↔ ∃ b c, R.testBit b = true ∧ R.testBit c = true ∧ aS t o (b : Int) w = aS t o (a : Int) w ∧ aS t o (c : Int) w = aS t o (a : Int) w ∧ dS t (b : Int) w ≠ dS t (c : Int) w := by
  constructor
  · rintro ⟨x, y, h1, h2, h3⟩
    obtain ⟨b, b1, b2, b3⟩ := (En_tb hI hc hR hw).mp h2
    obtain ⟨c, c1, c2, c3⟩ := (En_tb hI hc hR hw).mp h3
    exact ⟨b, c, b1, c1, b2, c2, by omega⟩
  · rintro ⟨b, c, h1, h2, h3, h4, h5⟩
    have db := dS_cl hI (clo_m hI hc) (p := (b : Int)) (by have := hR b h1; omega) w hw
    have dc := dS_cl hI (clo_m hI hc) (p := (c : Int)) (by have := hR c h2; omega) w hw
    refine ⟨(dS t (b : Int) w).toNat, (dS t (c : Int) w).toNat, by omega, (En_tb hI hc hR hw).mpr ⟨b, h1, h3, by omega⟩, (En_tb hI hc hR hw).mpr ⟨c, h2, h4, by omega⟩⟩
def mEn (S : Nat) (t o : Int → Int) (R w m : Nat) : Prop := ∃ a, R.testBit a = true ∧ two (En S t o R a w) ∧ m = En S t o R a w
theorem cnt2 {P : Nat → Bool} {b c : Nat} (hbc : b ≠ c) (hb : P b = true) (hc : P c = true) : ∀ n, b < n → c < n → 2 ≤ cntB P n := by
  have one : ∀ (x : Nat), P x = true → ∀ n, x < n → 1 ≤ cntB P n := by
    intro x hx n
    induction n with
    | zero => intro h; omega
    | succ n ih =>
      intro h
      rw [cntB_s]
      by_cases y : x = n
      · subst y; rw [if_pos hx]; omega
      · have := ih (by omega); omega
  intro n
  induction n with
  | zero => intro h; omega
  | succ n ih =>
    intro h1 h2
    rw [cntB_s]
    by_cases y : b = n
    · subst y; rw [if_pos hb]; have := one c hc b (by omega); omega
    · by_cases z : c = n
      · subst z; rw [if_pos hc]; have := one b hb c (by omega); omega
      · have := ih (by omega) (by omega); omega
theorem cnt4 {V : Nat → Int} {v1 v2 v3 v4 : Int} (n12 : v1 ≠ v2) (n13 : v1 ≠ v3) (n14 : v1 ≠ v4) (n23 : v2 ≠ v3) (n24 : v2 ≠ v4) (n34 : v3 ≠ v4) : ∀ n, cntB (fun x => decide (V x = v1)) n + cntB (fun x => decide (V x = v2)) n + cntB (fun x => decide (V x = v3)) n + cntB (fun x => decide (V x = v4)) n ≤ n
  | 0 => Nat.le_refl 0
  | n + 1 => by
    have ih := cnt4 (V := V) n12 n13 n14 n23 n24 n34 n
    rw [cntB_s, cntB_s, cntB_s, cntB_s]
    simp only [decide_eq_true_eq]
    split <;> split <;> split <;> split <;> omega
theorem mEn_four (hS : S ≤ 6) (hI : I ≤ 3) (hc : clo S t) (hR : ∀ x, R.testBit x = true → x < S) {w : Nat} (hw : wok I w) : noFour (mEn S t o R w) := by
  rintro m1 m2 m3 m4 ⟨a1, r1, u1, e1⟩ ⟨a2, r2, u2, e2⟩ ⟨a3, r3, u3, e3⟩ ⟨a4, r4, u4, e4⟩ n12 n13 n14 n23 n24 n34
  have two2 : ∀ a, two (En S t o R a w) → 2 ≤ cntB (fun x => decide (aS t o (x : Int) w = aS t o (a : Int) w)) S := by
    intro a u
    obtain ⟨b, c, b1, c1, b2, c2, d⟩ := (En_two hI hc hR hw).mp u
    exact cnt2 (b := b) (c := c) (fun e => d (by rw [e])) (by simpa using b2) (by simpa using c2) S (hR b b1) (hR c c1)
  have ne : ∀ a b m m', m = En S t o R a w → m' = En S t o R b w → m ≠ m' → aS t o (a : Int) w ≠ aS t o (b : Int) w := fun a b m m' h1 h2 h3 e => h3 (by rw [h1, h2]; exact En_same e)
  have := cnt4 (V := fun x => aS t o (x : Int) w) (ne _ _ _ _ e1 e2 n12) (ne _ _ _ _ e1 e3 n13) (ne _ _ _ _ e1 e4 n14) (ne _ _ _ _ e2 e3 n23) (ne _ _ _ _ e2 e4 n24) (ne _ _ _ _ e3 e4 n34) S
  have t1 := two2 a1 u1
  have t2 := two2 a2 u2
  have t3 := two2 a3 u3
  have t4 := two2 a4 u4
  omega
/-- the groups of a word -/
def GRP (S : Nat) (t o : Int → Int) (R w F : Nat) : Prop := okF F ∧ ∀ m, m ≠ 0 → (memF F m ↔ mEn S t o R w m)
/-- two that answer alike have met -/
def col (t o : Int → Int) (R w : Nat) : Prop := ∃ a b, a ≠ b ∧ R.testBit a = true ∧ R.testBit b = true ∧ aS t o (a : Int) w = aS t o (b : Int) w ∧ dS t (a : Int) w = dS t (b : Int) w
theorem GRP_step (hS : S ≤ 6) (hI : I ≤ 3) (hm : mok t o) (hc : clo S t) (hR : ∀ x, R.testBit x = true → x < S) {v j F : Nat} (hv : wok I v) (hj : j < I) (hF : GRP S t o R v F) : GRP S t o R (4 * v + j + 1) (GN S t o F j) ∧ (¬ col t o R v → (GD S t o F j ↔ col t o R (4 * v + j + 1))) := by
  obtain ⟨f1, f2⟩ := hF
  have hj3 : j < 3 := by omega
  have hw : wok I (4 * v + j + 1) := (wok_cc hj3).mpr ⟨hj, hv⟩
  have ds : ∀ x, R.testBit x = true → 0 ≤ dS t (x : Int) v ∧ dS t (x : Int) v < (S : Int) := fun x hx => dS_cl hI (clo_m hI hc) (by have := hR x hx; omega) v hv
  have eqc : ∀ a b, R.testBit a = true → R.testBit b = true → (aS t o (a : Int) (4 * v + j + 1) = aS t o (b : Int) (4 * v + j + 1) ↔ (aS t o (a : Int) v = aS t o (b : Int) v ∧ o (3 * dS t (a : Int) v + (j : Int)) = o (3 * dS t (b : Int) v + (j : Int)))) := fun a b ha hb => aS_eq_c hm hm (by have := hR a ha; omega) (by have := hR b hb; omega) hj3 (wok3 hI hv)
  have dsc : ∀ a, dS t (a : Int) (4 * v + j + 1) = t (3 * dS t (a : Int) v + (j : Int)) := fun a => dS_c _ _ _ hj3
  -- of a group's first ones
  have key : ∀ a y b : Nat, R.testBit a = true → R.testBit b = true → aS t o (b : Int) v = aS t o (a : Int) v → dS t (b : Int) v = (y : Int) → FAs S t (LK S o (En S t o R a v) y j) j = En S t o R b (4 * v + j + 1) := by
    intro a y b ha hb e1 e2
    refine tb_iff fun z => ?_
    rw [FAs_tb, En_tb hI hc hR hw]
    constructor
    · rintro ⟨x, x1, x2, x3⟩
      obtain ⟨y1, y2, y3⟩ := LK_tb.mp x2
      obtain ⟨c, c1, c2, c3⟩ := (En_tb hI hc hR hv).mp y2
      refine ⟨c, c1, (eqc c b c1 hb).mpr ⟨c2.trans e1.symm, by rw [c3, e2]; exact y3⟩, ?_⟩
      have := hc (x : Int) j (by omega) (by omega) hj3
      rw [dsc, c3]; omega
    · rintro ⟨c, c1, c2, c3⟩
      obtain ⟨g1, g2⟩ := (eqc c b c1 hb).mp c2
      have d := ds c c1
      refine ⟨(dS t (c : Int) v).toNat, by omega, LK_tb.mpr ⟨by omega, (En_tb hI hc hR hv).mpr ⟨c, c1, g1.trans e1, by omega⟩, ?_⟩, ?_⟩
      · rw [show (((dS t (c : Int) v).toNat : Nat) : Int) = dS t (c : Int) v by omega, g2, e2]
      · rw [show (((dS t (c : Int) v).toNat : Nat) : Int) = dS t (c : Int) v by omega, ← dsc, c3]; omega
  have hU : ∀ g, (g = 0 ∨ mEn S t o R v g) → ∀ y, y < S → fstO o g j y → FAz S t (LK S o g y j) j ≠ 0 → mEn S t o R (4 * v + j + 1) (FAz S t (LK S o g y j) j) := by
    intro g hg y hy hf h0
    obtain ⟨q1, q2⟩ := FAz_ne hS hc hj3 h0
    rcases hg with hg | ⟨a, a1, a2, a3⟩
    · subst hg; have := hf.1; rw [tb_0] at this; cases this
    · subst a3
      obtain ⟨b, b1, b2, b3⟩ := (En_tb hI hc hR hv).mp hf.1
      have k := key a y b a1 b1 b2 b3
      rw [k] at q1
      exact ⟨b, b1, q1, by rw [q2, k]⟩
  have fld : ∀ g, memF F g → g = 0 ∨ mEn S t o R v g := fun g hg => by
    by_cases z : g = 0
    · exact Or.inl z
    · exact Or.inr ((f2 g z).mp hg)
  have bits : ∀ g, memF F g → ∀ x, g.testBit x = true → x < S := fun g hg x hx => by
    rcases fld g hg with z | ⟨a, a1, a2, a3⟩
    · subst z; rw [tb_0] at hx; cases hx
    · rw [a3] at hx; exact En_lt hI hc hR hv x hx
  have four := mEn_four hS hI hc hR hw (o := o)
  have m1 : memF F (F % 64) := Or.inl rfl
  have m2 : memF F (F / 64 % 64) := Or.inr (Or.inl rfl)
  have m3 : memF F (F / 4096 % 64) := Or.inr (Or.inr rfl)
  have ok0 : okF 0 := ⟨by decide, by decide, by decide⟩
  obtain ⟨p1, p2⟩ := gN_ok four hS hc hj3 (bits _ m1) ok0 (fun m hm q => absurd (by rcases q with q | q | q <;> exact q) hm) (hU _ (fld _ m1)) S (Nat.le_refl _)
  have pU : ∀ m, m ≠ 0 → memF (gN S t o (F % 64) j 0 S) m → mEn S t o R (4 * v + j + 1) m := by
    intro m hm q
    rcases (p2 m hm).mp q with q | ⟨y, y1, y2, y3⟩
    · exact absurd (by rcases q with q | q | q <;> exact q) hm
    · rw [y3] at hm ⊢; exact hU _ (fld _ m1) y y1 y2 hm
  obtain ⟨r1, r2⟩ := gN_ok four hS hc hj3 (bits _ m2) p1 pU (hU _ (fld _ m2)) S (Nat.le_refl _)
  have rU : ∀ m, m ≠ 0 → memF (gN S t o (F / 64 % 64) j (gN S t o (F % 64) j 0 S) S) m → mEn S t o R (4 * v + j + 1) m := by
    intro m hm q
    rcases (r2 m hm).mp q with q | ⟨y, y1, y2, y3⟩
    · exact pU m hm q
    · rw [y3] at hm ⊢; exact hU _ (fld _ m2) y y1 y2 hm
  obtain ⟨s1, s2⟩ := gN_ok four hS hc hj3 (bits _ m3) r1 rU (hU _ (fld _ m3)) S (Nat.le_refl _)
  refine ⟨⟨s1, fun m hm => ⟨fun q => ?_, ?_⟩⟩, fun hnc => ⟨?_, ?_⟩⟩
  · rcases (s2 m hm).mp q with q | ⟨y, y1, y2, y3⟩
    · exact rU m hm q
    · rw [y3] at hm ⊢; exact hU _ (fld _ m3) y y1 y2 hm
  · rintro ⟨a, a1, a2, a3⟩
    obtain ⟨b, c, b1, c1, b2, c2, d⟩ := (En_two hI hc hR hw).mp a2
    have b2' := (eqc b a b1 a1).mp b2
    have c2' := (eqc c a c1 a1).mp c2
    have tw : two (En S t o R a v) := (En_two hI hc hR hv).mpr ⟨b, c, b1, c1, b2'.1, c2'.1, fun e => d (by rw [dsc, dsc, e])⟩
    have mg : memF F (En S t o R a v) := (f2 _ (two_ne tw)).mpr ⟨a, a1, tw, rfl⟩
    have da := ds a a1
    have bx : (En S t o R a v).testBit (dS t (a : Int) v).toNat = true := (En_tb hI hc hR hv).mpr ⟨a, a1, rfl, by omega⟩
    obtain ⟨y, y1, y2, y3⟩ := fst_ex (o := o) (i := j) bx
    have k := key a (dS t (a : Int) v).toNat a a1 a1 rfl (by omega)
    rw [← LK_same y3] at k
    have fz : FAz S t (LK S o (En S t o R a v) y j) j = m := by
      rw [(FAz_two hS hc hj3).1 (by rw [k]; exact a2), k]; exact a3.symm
    have new : ∃ y, y < S ∧ fstO o (En S t o R a v) j y ∧ m = FAz S t (LK S o (En S t o R a v) y j) j := ⟨y, by omega, y1, fz.symm⟩
    rw [show memF (GN S t o F j) m ↔ _ from s2 m hm]
    rcases mg with g | g | g
    · left; rw [r2 m hm]; left; rw [p2 m hm]; right; rw [← g]; exact new
    · left; rw [r2 m hm]; right; rw [← g]; exact new
    · right; rw [← g]; exact new
  · have go : ∀ g, memF F g → gD S t o g j S → col t o R (4 * v + j + 1) := by
      rintro g hg ⟨y, y1, y2, x, x', x1, x2, x3, x4⟩
      have f : fstO o g j y := (gL_tb g j (bits g hg) y y).mp y2
      rw [LK_f (bits g hg) f] at x2 x3
      rcases fld g hg with z | ⟨a, a1, a2, a3⟩
      · subst z; have := f.1; rw [tb_0] at this; cases this
      · subst a3
        obtain ⟨u1, u2, u3⟩ := LK_tb.mp x2
        obtain ⟨w1, w2, w3⟩ := LK_tb.mp x3
        obtain ⟨b, b1, b2, b3⟩ := (En_tb hI hc hR hv).mp u2
        obtain ⟨c, c1, c2, c3⟩ := (En_tb hI hc hR hv).mp w2
        refine ⟨b, c, fun e => ?_, b1, c1, (eqc b c b1 c1).mpr ⟨b2.trans c2.symm, by rw [b3, c3]; exact u3.trans w3.symm⟩, by rw [dsc, dsc, b3, c3]; exact x4⟩
        subst e
        omega
    rintro (q | q | q)
    · exact go _ m1 q
    · exact go _ m2 q
    · exact go _ m3 q
  · rintro ⟨a, b, hab, a1, b1, e1, e2⟩
    obtain ⟨g1, g2⟩ := (eqc a b a1 b1).mp e1
    have dne : dS t (a : Int) v ≠ dS t (b : Int) v := fun e => hnc ⟨a, b, hab, a1, b1, g1, e⟩
    have da := ds a a1
    have db := ds b b1
    have tw : two (En S t o R a v) := (En_two hI hc hR hv).mpr ⟨a, b, a1, b1, rfl, g1.symm, dne⟩
    have mg : memF F (En S t o R a v) := (f2 _ (two_ne tw)).mpr ⟨a, a1, tw, rfl⟩
    have bx : (En S t o R a v).testBit (dS t (a : Int) v).toNat = true := (En_tb hI hc hR hv).mpr ⟨a, a1, rfl, by omega⟩
    have by' : (En S t o R a v).testBit (dS t (b : Int) v).toNat = true := (En_tb hI hc hR hv).mpr ⟨b, b1, g1.symm, by omega⟩
    have ca : (((dS t (a : Int) v).toNat : Nat) : Int) = dS t (a : Int) v := by omega
    have cb : (((dS t (b : Int) v).toNat : Nat) : Int) = dS t (b : Int) v := by omega
    obtain ⟨y, y1, y2, y3⟩ := fst_ex (o := o) (i := j) bx
    have dd : gD S t o (En S t o R a v) j S := by
      refine ⟨y, by omega, (gL_tb _ j (bits _ mg) y y).mpr y1, ?_⟩
      rw [LK_f (bits _ mg) y1]
      refine ⟨(dS t (a : Int) v).toNat, (dS t (b : Int) v).toNat, by omega, LK_tb.mpr ⟨by omega, bx, y3.symm⟩, LK_tb.mpr ⟨by omega, by', ?_⟩, ?_⟩
      · rw [cb, ← g2, ← ca]; exact y3.symm
      · rw [ca, cb, ← dsc, ← dsc]; exact e2
    rcases mg with g | g | g
    · exact Or.inl (by rw [← g]; exact dd)
    · exact Or.inr (Or.inl (by rw [← g]; exact dd))
    · exact Or.inr (Or.inr (by rw [← g]; exact dd))
end
