/-! numbers: the small machine's operations where nothing runs over -/
theorem w32_id {x : Int} (h1 : -2147483648 ≤ x) (h2 : x ≤ 2147483647) : w32 x = x := of_i32 ⟨h1, h2⟩
theorem w64_id {x : Int} (h1 : -9223372036854775808 ≤ x) (h2 : x ≤ 9223372036854775807) : w64 x = x := of_i64 ⟨h1, h2⟩
theorem nI_int (n : Nat) : Int32.ofInt (n : Int) = nI n := Int32.ofInt_eq_ofNat
theorem nI_back {n : Nat} (h : n < 2 ^ 31) : (nI n).toInt = (n : Int) := nI_toInt h
theorem sh_amt : ∀ k : Nat, k < 32 → ((nI k &&& 31).toBitVec.smod 32).toNat = k := by decide +kernel
theorem sh_amu : ∀ k : Nat, k < 32 → ((((nI k).toUInt32 &&& Int32.toUInt32 31)).toBitVec % 32).toNat = k := by decide +kernel
theorem shl_n {x k : Nat} (hk : k < 32) (h : x * 2 ^ k < 2 ^ 31) : i_shl (x : Int) (k : Int) = ((x * 2 ^ k : Nat) : Int) := by
  unfold i_shl
  rw [nI_int, nI_int, pk_shlN _ k (sh_amt k hk) (by omega), nI_back h]
theorem shr_n {x k : Nat} (hk : k < 32) (h : x < 2 ^ 31) : i_shr (x : Int) (k : Int) = ((x / 2 ^ k : Nat) : Int) := by
  unfold i_shr
  rw [nI_int, nI_int, pk_shrN h _ k (sh_amt k hk), nI_back (Nat.lt_of_le_of_lt (Nat.div_le_self _ _) h)]
theorem and_n {x y : Nat} (hx : x < 2 ^ 31) (hy : y < 2 ^ 31) : i_and (x : Int) (y : Int) = ((x &&& y : Nat) : Int) := by
  unfold i_and
  have e : nI x &&& nI y = nI (x &&& y) := by
    apply Int32.toBitVec_inj.mp
    show BitVec.ofNat 32 x &&& BitVec.ofNat 32 y = BitVec.ofNat 32 (x &&& y)
    exact (BitVec.ofNat_and).symm
  rw [nI_int, nI_int, e, nI_back (Nat.lt_of_le_of_lt Nat.and_le_left hx)]
theorem or_n {x y : Nat} (hx : x < 2 ^ 31) (hy : y < 2 ^ 31) : i_or (x : Int) (y : Int) = ((x ||| y : Nat) : Int) := by
  unfold i_or
  have e : nI x ||| nI y = nI (x ||| y) := by
    apply Int32.toBitVec_inj.mp
    show BitVec.ofNat 32 x ||| BitVec.ofNat 32 y = BitVec.ofNat 32 (x ||| y)
    exact (BitVec.ofNat_or).symm
  rw [nI_int, nI_int, e, nI_back (Nat.or_lt_two_pow hx hy)]
theorem and_mask {x : Int} (k : Nat) (hk : k < 31) (h0 : 0 ≤ x) (h : x ≤ 2147483647) : i_and x ((2 ^ k - 1 : Nat) : Int) = x % ((2 ^ k : Nat) : Int) := by
  obtain ⟨n, rfl⟩ := Int.eq_ofNat_of_zero_le h0
  have h2 : (2 : Nat) ^ k ≤ 2 ^ 30 := Nat.pow_le_pow_right (by decide) (by omega)
  have h1 : 1 ≤ (2 : Nat) ^ k := Nat.one_le_two_pow
  rw [and_n (by omega) (by omega), Nat.and_two_pow_sub_one_eq_mod]
  omega
theorem and_1 {x : Int} (h0 : 0 ≤ x) (h : x ≤ 2147483647) : i_and x 1 = x % 2 := and_mask 1 (by decide) h0 h
theorem and_3 {x : Int} (h0 : 0 ≤ x) (h : x ≤ 2147483647) : i_and x 3 = x % 4 := and_mask 2 (by decide) h0 h
theorem and_7 {x : Int} (h0 : 0 ≤ x) (h : x ≤ 2147483647) : i_and x 7 = x % 8 := and_mask 3 (by decide) h0 h
theorem and_15 {x : Int} (h0 : 0 ≤ x) (h : x ≤ 2147483647) : i_and x 15 = x % 16 := and_mask 4 (by decide) h0 h
theorem and_31 {x : Int} (h0 : 0 ≤ x) (h : x ≤ 2147483647) : i_and x 31 = x % 32 := and_mask 5 (by decide) h0 h
theorem and_63 {x : Int} (h0 : 0 ≤ x) (h : x ≤ 2147483647) : i_and x 63 = x % 64 := and_mask 6 (by decide) h0 h
theorem and_255 {x : Int} (h0 : 0 ≤ x) (h : x ≤ 2147483647) : i_and x 255 = x % 256 := and_mask 8 (by decide) h0 h
theorem shr_i {x : Int} {k : Nat} (hk : k < 31) (h0 : 0 ≤ x) (h : x ≤ 2147483647) : i_shr x (k : Int) = x / ((2 ^ k : Nat) : Int) := by
  obtain ⟨n, rfl⟩ := Int.eq_ofNat_of_zero_le h0
  rw [shr_n (by omega) (by omega)]
  omega
theorem shl_i {x : Int} {k : Nat} (hk : k < 31) (h0 : 0 ≤ x) (h : x * ((2 ^ k : Nat) : Int) ≤ 2147483647) : i_shl x (k : Int) = x * ((2 ^ k : Nat) : Int) := by
  obtain ⟨n, rfl⟩ := Int.eq_ofNat_of_zero_le h0
  have e : (n : Int) * ((2 ^ k : Nat) : Int) = ((n * 2 ^ k : Nat) : Int) := by simp
  rw [e] at h ⊢
  rw [shl_n (by omega) (by omega)]
theorem or_add {a b : Nat} {k : Nat} (hb : b < 2 ^ k) (h : a * 2 ^ k + b < 2 ^ 31) : i_or ((a * 2 ^ k : Nat) : Int) (b : Int) = ((a * 2 ^ k + b : Nat) : Int) := by
  rw [or_n (by omega) (by omega)]
  congr 1
  rw [Nat.mul_comm, Nat.two_pow_add_eq_or_of_lt hb]
theorem div_i {x y : Int} (hx : 0 ≤ x) (hx2 : x ≤ 2147483647) (hy : 0 < y) (hy2 : y ≤ 2147483647) : i_div x y = x / y := by
  obtain ⟨a, rfl⟩ := Int.eq_ofNat_of_zero_le hx
  obtain ⟨b, rfl⟩ := Int.eq_ofNat_of_zero_le (Int.le_of_lt hy)
  unfold i_div
  rw [nI_int, nI_int, pk_div (by omega) (by omega) (by omega), nI_back (Nat.lt_of_le_of_lt (Nat.div_le_self _ _) (by omega))]
  rfl
theorem rem_i {x y : Int} (hx : 0 ≤ x) (hx2 : x ≤ 2147483647) (hy : 0 < y) (hy2 : y ≤ 2147483647) : i_rem x y = x % y := by
  obtain ⟨a, rfl⟩ := Int.eq_ofNat_of_zero_le hx
  obtain ⟨b, rfl⟩ := Int.eq_ofNat_of_zero_le (Int.le_of_lt hy)
  unfold i_rem
  rw [nI_int, nI_int, pk_rem (by omega) (by omega) (by omega), nI_back (Nat.lt_of_le_of_lt (Nat.mod_le _ _) (by omega))]
  rfl
/-! places of the heap -/
theorem up_same {h : HP} {x i v : Int} : ai_up h x i v x i = v := up_eq
theorem up_oth {h : HP} {x i v c j : Int} (hc : c ≠ x ∨ j ≠ i) : ai_up h x i v c j = h c j := by
  unfold ai_up
  rw [if_neg (fun q => hc.elim (fun z => z q.1) (fun z => z q.2))]
theorem ok_of {n : Nat} {x : Int} {k : Nat} (h0 : 0 ≤ x) (h1 : x < (n : Int)) (h2 : ai_k x = k) : ai_ok n x k := ⟨h0, h1, h2⟩
/-- but for these cells nothing has changed -/
def ai_ex (cs : List Int) (h h' : HP) : Prop := ∀ c, c ∉ cs → ∀ j, h' c j = h c j
theorem ex_rf {cs : List Int} {h : HP} : ai_ex cs h h := fun _ _ _ => rfl
theorem ex_tr {cs : List Int} {h h1 h2 : HP} (a : ai_ex cs h h1) (b : ai_ex cs h1 h2) : ai_ex cs h h2 := fun c hc j => (b c hc j).trans (a c hc j)
theorem ex_up {cs : List Int} {h h1 : HP} {x i v : Int} (a : ai_ex cs h h1) (hx : x ∈ cs) : ai_ex cs h (ai_up h1 x i v) := fun c hc j => by
  rw [up_oth (Or.inl (fun z => hc (by rw [z]; exact hx)))]
  exact a c hc j
theorem ex_le {cs ds : List Int} {h h1 : HP} (a : ai_ex cs h h1) (hs : ∀ c ∈ cs, c ∈ ds) : ai_ex ds h h1 := fun c hc j => a c (fun z => hc (hs c z)) j
/-! words: numbers by four -/
def wlen (w : Nat) : Nat := if h : w = 0 then 0 else wlen (w / 4) + 1
termination_by w
decreasing_by omega
/-- all inputs are 1 .. m -/
def wok (m w : Nat) : Prop := if h : w = 0 then True else (1 ≤ w % 4 ∧ w % 4 ≤ m) ∧ wok m (w / 4)
termination_by w
decreasing_by omega
/-- where a word leads, what it answers; places and inputs as one number 3 * p + i -/
def dS (to : Int → Int) (p : Int) (w : Nat) : Int := if h : w = 0 then p else to (3 * dS to p (w / 4) + ((w % 4 : Nat) : Int) - 1)
termination_by w
decreasing_by omega
def aS (to out : Int → Int) (p : Int) (w : Nat) : Int := if h : w = 0 then 0 else 10 * aS to out p (w / 4) + out (3 * dS to p (w / 4) + ((w % 4 : Nat) : Int) - 1)
termination_by w
decreasing_by omega
theorem wlen_0 : wlen 0 = 0 := by unfold wlen; simp
theorem wlen_s {w : Nat} (h : w ≠ 0) : wlen w = wlen (w / 4) + 1 := by rw [wlen, dif_neg h]
theorem wok_0 (m : Nat) : wok m 0 := by unfold wok; simp
theorem wok_s {m w : Nat} (h : w ≠ 0) : wok m w ↔ (1 ≤ w % 4 ∧ w % 4 ≤ m) ∧ wok m (w / 4) := by rw [wok, dif_neg h]
theorem dS_0 (to : Int → Int) (p : Int) : dS to p 0 = p := by unfold dS; simp
theorem dS_s (to : Int → Int) (p : Int) {w : Nat} (h : w ≠ 0) : dS to p w = to (3 * dS to p (w / 4) + ((w % 4 : Nat) : Int) - 1) := by rw [dS, dif_neg h]
theorem aS_0 (to out : Int → Int) (p : Int) : aS to out p 0 = 0 := by unfold aS; simp
theorem aS_s (to out : Int → Int) (p : Int) {w : Nat} (h : w ≠ 0) : aS to out p w = 10 * aS to out p (w / 4) + out (3 * dS to p (w / 4) + ((w % 4 : Nat) : Int) - 1) := by rw [aS, dif_neg h]
theorem wlen_le {k : Nat} : ∀ {w : Nat}, wlen w ≤ k ↔ w < 4 ^ k := by
  induction k with
  | zero => intro w; by_cases h : w = 0
            · subst h; simp [wlen_0]
            · rw [wlen_s h]; simp; omega
  | succ k ih =>
    intro w
    by_cases h : w = 0
    · subst h; simp [wlen_0]; exact Nat.pow_pos (by decide)
    · rw [wlen_s h]
      have := @ih (w / 4)
      rw [Nat.pow_succ]
      constructor
      · intro q
        have := this.mp (by omega)
        omega
      · intro q
        have := this.mpr (by omega)
        omega
theorem wok_mono {a b : Nat} (hab : a ≤ b) : ∀ {w : Nat}, wok a w → wok b w := by
  intro w
  induction w using Nat.strongRecOn with
  | ind w ih =>
    intro h
    by_cases hw : w = 0
    · subst hw; exact wok_0 b
    · rw [wok_s hw] at h ⊢
      exact ⟨⟨h.1.1, by omega⟩, ih (w / 4) (by omega) h.2⟩
theorem wok_div {m w : Nat} (h : wok m w) : wok m (w / 4) := by
  by_cases hw : w = 0
  · subst hw; exact h
  · exact ((wok_s hw).mp h).2
theorem wok_divp {m : Nat} (k : Nat) : ∀ {w : Nat}, wok m w → wok m (w / 4 ^ k) := by
  induction k with
  | zero => intro w h; simpa using h
  | succ k ih =>
    intro w h
    rw [Nat.pow_succ, ← Nat.div_div_eq_div_mul]
    exact wok_div (ih h)
/-- a machine's rows hold places and outputs -/
def mok (to out : Int → Int) : Prop := ∀ a : Int, 0 ≤ a → a < 24 → (0 ≤ to a ∧ to a < 8) ∧ 0 ≤ out a ∧ out a ≤ 9
theorem dS_in {to out : Int → Int} (hm : mok to out) {p : Int} (hp : 0 ≤ p ∧ p < 8) : ∀ {w : Nat}, wok 3 w → 0 ≤ dS to p w ∧ dS to p w < 8 := by
  intro w
  induction w using Nat.strongRecOn with
  | ind w ih =>
    intro h
    by_cases hw : w = 0
    · subst hw; rw [dS_0]; exact hp
    · rw [wok_s hw] at h
      have := ih (w / 4) (by omega) h.2
      rw [dS_s _ _ hw]
      exact (hm _ (by omega) (by omega)).1
theorem aS_in {to out : Int → Int} (hm : mok to out) {p : Int} (hp : 0 ≤ p ∧ p < 8) : ∀ {w : Nat}, wok 3 w → 0 ≤ aS to out p w ∧ aS to out p w < 10 ^ wlen w := by
  intro w
  induction w using Nat.strongRecOn with
  | ind w ih =>
    intro h
    by_cases hw : w = 0
    · subst hw; rw [aS_0, wlen_0]; exact ⟨by omega, by decide⟩
    · rw [wok_s hw] at h
      have h1 := ih (w / 4) (by omega) h.2
      have h2 := dS_in hm hp h.2
      rw [aS_s _ _ _ hw, wlen_s hw, Int.pow_succ]
      have h3 := (hm (3 * dS to p (w / 4) + ((w % 4 : Nat) : Int) - 1) (by omega) (by omega)).2
      generalize (10 : Int) ^ wlen (w / 4) = T at h1 ⊢
      omega
/-! loops that count, from their end backward -/
theorem lup {P : Int → Prop} {N : Int} (hN : P N) (hs : ∀ k, 0 ≤ k → k < N → P (k + 1) → P k) (h0 : 0 ≤ N) : P 0 := by
  have key : ∀ m : Nat, ∀ k : Int, 0 ≤ k → k ≤ N → (N - k).toNat = m → P k := by
    intro m
    induction m with
    | zero => intro k h1 h2 h3; have : k = N := by omega
              subst this; exact hN
    | succ m ih => intro k h1 h2 h3; exact hs k h1 (by omega) (ih (k + 1) (by omega) (by omega) (by omega))
  exact key _ 0 (by omega) h0 rfl
theorem lupf {P : Int → Prop} {a N : Int} (hN : P N) (hs : ∀ k, a ≤ k → k < N → P (k + 1) → P k) (h0 : a ≤ N) : P a := by
  have := lup (P := fun k => P (k + a)) (N := N - a) (by rw [Int.sub_add_cancel]; exact hN) (fun k h1 h2 h3 => hs (k + a) (by omega) (by omega) (by rw [show k + a + 1 = k + 1 + a by omega]; exact h3)) (by omega)
  simpa using this
/-! a row's first places are filled -/
def ai_fl (h : HP) (x k : Int) (F : Int → Int) : HP := fun c j => if c = x ∧ 0 ≤ j ∧ j < k then F j else h c j
theorem fl_0 {h : HP} {x : Int} {F : Int → Int} : ai_fl h x 0 F = h := by
  funext c j
  unfold ai_fl
  rw [if_neg (by omega)]
theorem fl_s {h : HP} {x k : Int} {F : Int → Int} (hk : 0 ≤ k) : ai_up (ai_fl h x k F) x k (F k) = ai_fl h x (k + 1) F := by
  funext c j
  unfold ai_up ai_fl
  by_cases h1 : c = x ∧ j = k
  · rw [if_pos h1, if_pos ⟨h1.1, by omega, by omega⟩, h1.2]
  · rw [if_neg h1]
    by_cases h2 : c = x ∧ 0 ≤ j ∧ j < k
    · rw [if_pos h2, if_pos ⟨h2.1, by omega, by omega⟩]
    · rw [if_neg h2, if_neg (fun q => by
        have hjk : ¬ j = k := fun z => h1 ⟨q.1, z⟩
        exact h2 ⟨q.1, by omega, by omega⟩)]
theorem fl_in {h : HP} {x k j : Int} {F : Int → Int} (h0 : 0 ≤ j) (h1 : j < k) : ai_fl h x k F x j = F j := by
  unfold ai_fl; rw [if_pos ⟨rfl, h0, h1⟩]
theorem fl_out {h : HP} {x k c j : Int} {F : Int → Int} (hc : c ≠ x) : ai_fl h x k F c j = h c j := by
  unfold ai_fl; rw [if_neg (fun q => hc q.1)]
theorem fl_hi {h : HP} {x k j : Int} {F : Int → Int} (hj : k ≤ j) : ai_fl h x k F x j = h x j := by
  unfold ai_fl; rw [if_neg (by omega)]
theorem up_fl {h : HP} {x y k i v : Int} {F : Int → Int} (hxy : x ≠ y) : ai_up (ai_fl h y k F) x i v = ai_fl (ai_up h x i v) y k F := by
  funext c j
  unfold ai_up ai_fl
  dsimp only
  by_cases h1 : c = x ∧ j = i
  · rw [if_pos h1, if_neg (fun q => hxy (h1.1.symm.trans q.1)), if_pos h1]
  · rw [if_neg h1]
    by_cases h2 : c = y ∧ 0 ≤ j ∧ j < k
    · rw [if_pos h2, if_pos h2]
    · rw [if_neg h2, if_neg h2, if_neg h1]
theorem fl2_s {h : HP} {x y k : Int} {F G : Int → Int} (hk : 0 ≤ k) (hxy : x ≠ y) : ai_up (ai_up (ai_fl (ai_fl h x k F) y k G) x k (F k)) y k (G k) = ai_fl (ai_fl h x (k + 1) F) y (k + 1) G := by
  rw [up_fl hxy, fl_s hk, fl_s hk]
theorem up_self {h : HP} {x i : Int} : ai_up h x i (h x i) = h := by
  funext c j
  unfold ai_up
  by_cases h1 : c = x ∧ j = i
  · rw [if_pos h1, h1.1, h1.2]
  · rw [if_neg h1]
/-- a step that writes nothing where F says what stands there -/
theorem fl_keep {h : HP} {x k : Int} {F : Int → Int} (hk : 0 ≤ k) (hF : F k = h x k) : ai_fl h x (k + 1) F = ai_fl h x k F := by
  have e : h x k = ai_fl h x k F x k := (fl_hi (Int.le_refl k)).symm
  rw [← fl_s hk, hF, e, up_self]
theorem ex_fl {cs : List Int} {h h1 : HP} {x k : Int} {F : Int → Int} (a : ai_ex cs h h1) (hx : x ∈ cs) : ai_ex cs h (ai_fl h1 x k F) := fun c hc j => by
  rw [fl_out (fun z => hc (by rw [z]; exact hx))]
  exact a c hc j
theorem cp_fl {h : HP} {s d len : Int} (hl : 0 ≤ len) : ai_cp h s 0 d 0 len = ai_fl h d len (fun j => h s j) := by
  funext c j
  unfold ai_cp ai_fl
  by_cases h1 : c = d ∧ 0 ≤ j ∧ j < len
  · rw [if_pos ⟨h1.1, h1.2.1, by omega⟩, if_pos h1]
    congr 1
    omega
  · rw [if_neg (fun q => h1 ⟨q.1, q.2.1, by omega⟩), if_neg h1]
