-- deps: 18 19 20 21 22 23 24 25 26 27 28 29 30 31 32 33 34 35 36 37 9S 9W
/-! the machines that a text tells, pure; rows that are alike where they count -/
section
variable {m S I N : Nat} {t t2 o o2 : Int → Int}
theorem AC_r24 (hm3 : m ≤ 3) (hm : mok t o) (r : r24 t t2) {p x : Int} (hp : 0 ≤ p ∧ p < 8) : AC m t p x = AC m t2 p x := fw_ext fun w => by
  constructor
  · rintro ⟨h1, h2⟩
    exact ⟨h1, by rw [← (dS_r24 r (mok_t hm) hp w (wok3 hm3 h1)).1]; exact h2⟩
  · rintro ⟨h1, h2⟩
    exact ⟨h1, by rw [(dS_r24 r (mok_t hm) hp w (wok3 hm3 h1)).1]; exact h2⟩
theorem SPr_r24 (hm3 : m ≤ 3) (hm : mok t o) (r : r24 t t2) (q : r24 o o2) {a b : Int} (ha : 0 ≤ a ∧ a < 8) (hb : 0 ≤ b ∧ b < 8) : SPr m t o a b = SPr m t2 o2 a b := fw_ext fun w => by
  constructor
  · rintro ⟨h1, h2⟩
    exact ⟨h1, by rw [← aS_r24 r q hm ha w (wok3 hm3 h1), ← aS_r24 r q hm hb w (wok3 hm3 h1)]; exact h2⟩
  · rintro ⟨h1, h2⟩
    exact ⟨h1, by rw [aS_r24 r q hm ha w (wok3 hm3 h1), aS_r24 r q hm hb w (wok3 hm3 h1)]; exact h2⟩
theorem spS_r24 (hm3 : m ≤ 3) (hS : S ≤ 6) (hm : mok t o) (hc : clo S t) (r : r24 t t2) (q : r24 o o2) : ∀ k, k ≤ 36 → spS m S t o k = spS m S t2 o2 k
  | 0, _ => rfl
  | k + 1, hk => by
    have ih := spS_r24 hm3 hS hm hc r q k (by omega)
    have a1 := AC_r24 hm3 hm r (p := 0) (x := ((k / 6 : Nat) : Int)) (by omega)
    have a2 := AC_r24 hm3 hm r (p := 0) (x := ((k % 6 : Nat) : Int)) (by omega)
    have a3 := SPr_r24 hm3 hm r q (a := ((k / 6 : Nat) : Int)) (b := ((k % 6 : Nat) : Int)) (by omega) (by omega)
    have a4 : (∀ w ∈ spS m S t o k, aS t o ((k / 6 : Nat) : Int) w = aS t o ((k % 6 : Nat) : Int) w) ↔ ∀ w ∈ spS m S t2 o2 k, aS t2 o2 ((k / 6 : Nat) : Int) w = aS t2 o2 ((k % 6 : Nat) : Int) w := by
      rw [← ih]
      constructor
      · intro h w hw
        have ok := (spS_w hm3 hS hm hc k w hw).1
        rw [← aS_r24 r q hm (by omega) w (wok3 hm3 ok), ← aS_r24 r q hm (by omega) w (wok3 hm3 ok)]
        exact h w hw
      · intro h w hw
        have ok := (spS_w hm3 hS hm hc k w hw).1
        rw [aS_r24 r q hm (by omega) w (wok3 hm3 ok), aS_r24 r q hm (by omega) w (wok3 hm3 ok)]
        exact h w hw
    by_cases z : k / 6 < k % 6 ∧ k % 6 < S ∧ 0 ≤ AC m t 0 ((k / 6 : Nat) : Int) ∧ 0 ≤ AC m t 0 ((k % 6 : Nat) : Int) ∧ SPr m t o ((k / 6 : Nat) : Int) ((k % 6 : Nat) : Int) ≠ -2 ∧ ∀ w ∈ spS m S t o k, aS t o ((k / 6 : Nat) : Int) w = aS t o ((k % 6 : Nat) : Int) w
    · have z2 := z
      rw [a1, a2, a3, a4] at z2
      rw [spS_yes z, spS_yes z2, ih, a3]
    · have z2 := z
      rw [a1, a2, a3, a4] at z2
      rw [spS_no z, spS_no z2, ih]
theorem SPL_r24 (hm3 : m ≤ 3) (hS : S ≤ 6) (hm : mok t o) (hc : clo S t) (r : r24 t t2) (q : r24 o o2) : SPL m S t o = SPL m S t2 o2 := by
  unfold SPL; rw [spS_r24 hm3 hS hm hc r q 36 (Nat.le_refl _)]
theorem cA_r24 (hm3 : m ≤ 3) (hm : mok t o) (r : r24 t t2) : cA (AC m t 0) S = cA (AC m t2 0) S := cntB_ext fun s _ => by rw [AC_r24 hm3 hm r (by omega)]
theorem NX_r24 {h : HP} (r : r24 t t2) (q : r24 o o2) (X : NX S I t o h) : NX S I t2 o2 h := ⟨X.1, X.2.1, r24_tr X.2.2.1 r, r24_tr X.2.2.2 q⟩
theorem NP_r24 {h : HP} (T : TV S I t o) (r : r24 t t2) (q : r24 o o2) (P : NP S I t o h) : NP S I t2 o2 h := by
  obtain ⟨hS, hI, hm, hc, -⟩ := T
  refine ⟨fun x hx => ?_, ?_, fun a b ha hb => ?_, ?_, ?_⟩
  · rw [← AC_r24 hI hm r (by omega)]; exact P.1 x hx
  · rw [← cA_r24 hI hm r]; exact P.2.1
  · rw [← SPr_r24 hI hm r q (by omega) (by omega)]; exact P.2.2.1 a b ha hb
  · rw [← SPL_r24 hI hS hm hc r q]; exact P.2.2.2.1
  · rw [← SPL_r24 hI hS hm hc r q]; exact P.2.2.2.2
end
/-! the machine that is meant, the one that is built -/
def tM (s : DS) (a : Int) : Int := if dA s a = -1 then a / 3 else dA s a / 16
def oM (s : DS) (a : Int) : Int := if dA s a = -1 then 0 else dA s a % 16
def tB (s : DS) (a : Int) : Int := if dB s a = -1 then tM s a else dB s a / 16
def oB (s : DS) (a : Int) : Int := if dB s a = -1 then oM s a else dB s a % 16
/-- so many more states are looked for -/
def sE (s : DS) : Nat := (dX s - 1).toNat
def sD (s : DS) : Int := if dD s = 0 then 0 else dD s - 1
theorem TV_s {s : DS} (O : dOK s) : TV (dM s) (dJ s).length (tM s) (oM s) := by
  obtain ⟨⟨o1, o2, o3, o4, o5⟩, oA, -⟩ := O
  refine ⟨o1, o5, fun a a1 a2 => ?_, fun p i p1 p2 i3 => ?_, fun a a1 a2 h => ?_⟩
  · unfold tM oM
    rcases oA a a1 a2 with q | q
    · rw [if_pos q, if_pos q]; omega
    · rw [if_neg (by omega), if_neg (by omega)]; omega
  · unfold tM
    rcases oA (3 * p + (i : Int)) (by omega) (by omega) with q | q
    · rw [if_pos q]; omega
    · rw [if_neg (by omega)]; omega
  · unfold tM oM
    rcases oA a a1 a2 with q | q
    · rw [if_pos q, if_pos q]; exact ⟨rfl, rfl⟩
    · omega
theorem mok_B {s : DS} (O : dOK s) : mok (tB s) (oB s) := by
  have tv := (TV_s O).2.2.1
  obtain ⟨⟨o1, o2, o3, o4, o5⟩, -, oB', -⟩ := O
  intro a a1 a2
  have := tv a a1 a2
  unfold tB oB
  rcases oB' a a1 a2 with q | q
  · rw [if_pos q, if_pos q]; exact this
  · rw [if_neg (by omega), if_neg (by omega)]; omega
/-- a machine stays within so many places -/
theorem clo_M {s : DS} (O : dOK s) : clo (dN s).length (tM s) := by
  obtain ⟨⟨o1, o2, o3, o4, o5⟩, oA, -⟩ := O
  intro p i p1 p2 i3
  unfold tM
  rcases oA (3 * p + (i : Int)) (by omega) (by omega) with q | q
  · rw [if_pos q]; omega
  · rw [if_neg (by omega)]; omega
theorem clo_B {s : DS} (O : dOK s) : clo (dN s).length (tB s) := by
  have c := clo_M O
  obtain ⟨⟨o1, o2, o3, o4, o5⟩, -, oB', -⟩ := O
  intro p i p1 p2 i3
  have := c p i p1 p2 i3
  unfold tB
  rcases oB' (3 * p + (i : Int)) (by omega) (by omega) with q | q
  · rw [if_pos q]; exact this
  · rw [if_neg (by omega)]; omega
theorem sE_3 {s : DS} (O : dOK s) : sE s < 3 ∧ ((sE s : Nat) : Int) = if dX s = 0 then 0 else dX s - 1 := by
  have := O.2.2.2.1
  unfold sE
  split <;> omega
