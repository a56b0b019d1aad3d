-- deps: 18 19 20 21 23 24 25 26 27 28 29 22 30 31 32 33 34 35 38 39 40 41 42 43 44 45 46 47 48 49 50 62 63 64 65 66 67 68 69 70 71 72 73 74 75 76 77 78 79 80 81 82 83 84 85 86 87 88 89
/-! any suite: its nodes, its tests; the class gives and runs it -/
theorem srt_ex {P : Nat → Prop} : ∀ B, (∀ x, P x → x < B) → ∃ l, asc l ∧ ∀ x, x ∈ l ↔ P x
  | 0, h => ⟨[], asc_0, fun x => ⟨fun q => (by cases q), fun q => by have := h x q; omega⟩⟩
  | B + 1, h => by
    obtain ⟨l, l1, l2⟩ := srt_ex (P := fun x => P x ∧ x < B) B fun x q => q.2
    by_cases z : P B
    · refine ⟨l ++ [B], asc_add l1 fun x hx => ((l2 x).mp hx).2, fun x => ?_⟩
      rw [List.mem_append, List.mem_singleton, l2]
      constructor
      · rintro (q | q)
        · exact q.1
        · rw [q]; exact z
      · intro q
        have := h x q
        by_cases y : x = B
        · exact Or.inr y
        · exact Or.inl ⟨q, by omega⟩
    · refine ⟨l, l1, fun x => ?_⟩
      rw [l2]
      refine ⟨fun q => q.1, fun q => ⟨q, ?_⟩⟩
      have := h x q
      have : x ≠ B := fun y => z (y ▸ q)
      omega
theorem srt_m {P : Nat → Prop} {B : Nat} (h : ∀ x, P x → x < B) : asc (srt P) ∧ ∀ x, x ∈ srt P ↔ P x := by
  obtain ⟨l, l1, l2⟩ := srt_ex B h
  rw [srt_of l1 l2]
  exact ⟨l1, l2⟩
section
variable {Q : RP} {n : Nat} {hr h : HP} {S I : Nat} {t o t' o' : Int → Int}
/-- its nodes -/
noncomputable def OSs (S I : Nat) (t o : Int → Int) (e su : Nat) : List Nat := if S = 0 then [] else if su < 2 then NDs S I t o su e else pfx (TOUR S I t o (su - 2))
theorem ND_lt {A : List Nat} {BH : Nat → List Nat} (hI : I ≤ 3) (hA : okA I A) (hB : okB I BH) {m x : Nat} (H : ND I A BH m x) : x < 4 ^ (m + 11) := wlen_le.mp (ND_ok hI hA hB H).2
theorem NDs_m (hS : S ≤ 6) (hS0 : 0 < S) (hI : I ≤ 3) (hm : mok t o) (hc : clo S t) (su e : Nat) : asc (NDs S I t o su e) ∧ (∀ x, x ∈ NDs S I t o su e ↔ ND I (ALs I t S) (BHf S I t o su) e x) ∧ asc (LFs S I t o su e) ∧ (∀ x, x ∈ LFs S I t o su e ↔ LF I (ALs I t S) (BHf S I t o su) e x) := by
  have okA := ALs_ok hS hS0 hI hc
  have okB := BHf_ok (o := o) hS hS0 hI hm hc su
  have a := srt_m (P := ND I (ALs I t S) (BHf S I t o su) e) (B := 4 ^ (e + 11)) fun x q => ND_lt hI okA okB q
  have b := srt_m (P := LF I (ALs I t S) (BHf S I t o su) e) (B := 4 ^ (e + 11)) fun x q => ND_lt hI okA okB (ND_W q.1)
  exact ⟨a.1, a.2, b.1, b.2⟩
theorem asc_first {l : List Nat} (h : asc l) (h0 : 0 ∈ l) : l[0]? = some 0 := by
  obtain ⟨k, hk⟩ := mem_at.mp h0
  rcases Nat.eq_zero_or_pos k with z | z
  · rw [z] at hk; exact hk
  · have kl := (List.getElem?_eq_some_iff.mp hk).1
    have e := List.getElem?_eq_getElem (l := l) (i := 0) (by omega)
    have := h 0 k _ _ z e hk
    omega
theorem TOUR_WY (hS0 : 0 < S) (wh : Nat) : WY S I t o wh = TOUR S I t o wh := by unfold WY; rw [if_neg (by omega)]
theorem LFr_LFs (hS0 : 0 < S) (su e : Nat) : LFr S I t o su e = LFs S I t o su e := by unfold LFr; rw [if_neg (by omega)]
theorem OSs_ok (hS : S ≤ 6) (hI : I ≤ 3) (hm : mok t o) (hc : clo S t) {e su : Nat} (he : e < 3) : (OSs S I t o e su = [] ∨ (OSs S I t o e su)[0]? = some 0) ∧ (∀ w ∈ OSs S I t o e su, wok 3 w) ∧ ((OSs S I t o e su).length ≤ if su < 2 then 26 * mH e else 253) := by
  unfold OSs
  by_cases z : S = 0
  · rw [if_pos z]
    exact ⟨Or.inl rfl, fun w hw => (by cases hw), Nat.zero_le _⟩
  · rw [if_neg z]
    by_cases y : su < 2
    · rw [if_pos y, if_pos y]
      have okA := ALs_ok hS (by omega) hI hc
      have okB := BHf_ok (o := o) hS (by omega) hI hm hc su
      have nd := NDs_m hS (by omega) hI hm hc su e
      refine ⟨Or.inr (asc_first nd.1 ((nd.2.1 0).mpr (ND_H hI okA okB (HD_0 okA.2.1)))), fun w hw => ?_, ?_⟩
      · exact wok_mono hI (ND_ok hI okA okB ((nd.2.1 w).mp hw)).1
      · have := nod_len (asc_nod nd.1) fun y hy => ND_L hI okA okB ((nd.2.1 y).mp hy)
        have := NDL_len hI okA okB he
        omega
    · rw [if_neg y, if_neg y]
      have wl := WY_len (o := o) hS hI hc (su - 2)
      rw [TOUR_WY (by omega)] at wl
      have l3 : ∀ y ∈ TOUR S I t o (su - 2), y < 3 := fun y hy => by have := wl.2 y hy; omega
      refine ⟨Or.inr (pfx_at.mpr ⟨Nat.zero_le _, by rw [List.take_zero]; rfl⟩), fun w hw => ?_, by rw [pfx_len]; omega⟩
      obtain ⟨k, hk⟩ := mem_at.mp hw
      obtain ⟨k1, k2⟩ := pfx_at.mp hk
      rw [k2]
      exact (wrd_ok (I := 3) (by omega) l3 k k1).1
/-- each node begins a test -/
theorem ND_LF {A : List Nat} {BH : Nat → List Nat} (hI : I ≤ 3) (hA : okA I A) (hB : okB I BH) {m : Nat} : ∀ d x, m + 12 - wlen x = d → ND I A BH m x → ∃ v k, LF I A BH m v ∧ x = v / 4 ^ k
  | 0, x, hd, h => by have := (ND_ok hI hA hB h).2; omega
  | d + 1, x, hd, h => by
    by_cases z : ∃ i, i < I ∧ ND I A BH m (4 * x + i + 1)
    · obtain ⟨i, hi, g⟩ := z
      obtain ⟨v, k, v1, v2⟩ := ND_LF hI hA hB d (4 * x + i + 1) (by rw [wlen_c _ (by omega)]; omega) g
      refine ⟨v, k + 1, v1, ?_⟩
      rw [div_s, ← v2]; omega
    · exact ⟨x, 0, LF_of hI hA hB h fun i hi g => z ⟨i, hi, g⟩, by rw [Nat.pow_zero, Nat.div_one]⟩
theorem OS_pre (hS : S ≤ 6) (hI : I ≤ 3) (hm : mok t o) (hc : clo S t) {e su w : Nat} (hw : w ∈ OSs S I t o e su) : ∃ v k, v ∈ SWl S I t o e su ∧ w = v / 4 ^ k := by
  unfold OSs at hw
  by_cases z : S = 0
  · rw [if_pos z] at hw; cases hw
  · rw [if_neg z] at hw
    unfold SWl
    by_cases y : su < 2
    · rw [if_pos y] at hw ⊢
      have okA := ALs_ok hS (by omega) hI hc
      have okB := BHf_ok (o := o) hS (by omega) hI hm hc su
      have nd := NDs_m hS (by omega) hI hm hc su e
      obtain ⟨v, k, v1, v2⟩ := ND_LF hI okA okB _ w rfl ((nd.2.1 w).mp hw)
      rw [LFr_LFs (by omega)]
      exact ⟨v, k, (nd.2.2.2 v).mpr v1, v2⟩
    · rw [if_neg y] at hw ⊢
      rw [if_neg z, TOUR_WY (by omega)]
      have wl := WY_len (o := o) hS hI hc (su - 2)
      rw [TOUR_WY (by omega)] at wl
      have l3 : ∀ y ∈ TOUR S I t o (su - 2), y < 3 := fun y hy => by have := wl.2 y hy; omega
      obtain ⟨k, hk⟩ := mem_at.mp hw
      obtain ⟨k1, k2⟩ := pfx_at.mp hk
      refine ⟨_, (TOUR S I t o (su - 2)).length - k, List.mem_singleton.mpr rfl, ?_⟩
      rw [wrd_div l3 _ (by omega), show (TOUR S I t o (su - 2)).length - ((TOUR S I t o (su - 2)).length - k) = k by omega]
      exact k2
theorem SW_OS (hS : S ≤ 6) (hI : I ≤ 3) (hm : mok t o) (hc : clo S t) {e su w : Nat} (hw : w ∈ SWl S I t o e su) : w ∈ OSs S I t o e su := by
  unfold SWl at hw
  unfold OSs
  by_cases z : S = 0
  · have : SWl S I t o e su = [] := by unfold SWl LFr; simp [z]
    unfold SWl at this; rw [this] at hw; cases hw
  · rw [if_neg z]
    by_cases y : su < 2
    · rw [if_pos y] at hw ⊢
      rw [LFr_LFs (by omega)] at hw
      have nd := NDs_m hS (by omega) hI hm hc su e
      exact (nd.2.1 w).mpr (ND_W ((nd.2.2.2 w).mp hw).1)
    · rw [if_neg y] at hw ⊢
      rw [if_neg z, TOUR_WY (by omega)] at hw
      rw [List.mem_singleton.mp hw]
      exact mem_at.mpr ⟨(TOUR S I t o (su - 2)).length, pfx_at.mpr ⟨Nat.le_refl _, by rw [List.take_length]⟩⟩
theorem aS_pre (hm : mok t o) (hm' : mok t' o') {v : Nat} (hv : wok 3 v) (k : Nat) (h : aS t o 0 (v / 4 ^ k) ≠ aS t' o' 0 (v / 4 ^ k)) : aS t o 0 v ≠ aS t' o' 0 v := by
  refine (RN_neg hm' hv).mp ?_
  have := RN_mm hm hm' hv 0 k (by rw [Nat.zero_add]; exact (RN_neg hm' (wok_divp k hv)).mpr h)
  simpa using this
/-- a test fails -/
def FA (S I : Nat) (t o : Int → Int) (e su : Nat) (t' o' : Int → Int) : Prop := ∃ w ∈ SWl S I t o e su, aS t o 0 w ≠ aS t' o' 0 w
theorem OS_fa (hS : S ≤ 6) (hI : I ≤ 3) (hm : mok t o) (hc : clo S t) (hm' : mok t' o') {e su : Nat} (he : e < 3) : (∃ w ∈ OSs S I t o e su, aS t o 0 w ≠ aS t' o' 0 w) ↔ FA S I t o e su t' o' := by
  constructor
  · rintro ⟨w, w1, w2⟩
    obtain ⟨v, k, v1, rfl⟩ := OS_pre hS hI hm hc w1
    exact ⟨v, v1, aS_pre hm hm' ((SWl_ok hS hI hm hc he).2 v v1).1 k w2⟩
  · rintro ⟨w, w1, w2⟩
    exact ⟨w, SW_OS hS hI hm hc w1, w2⟩
/-- its cell -/
def gx (e su : Nat) : Int := if su < 2 then tc su e else tw (su - 2)
theorem gx_b {e su : Nat} (he : e < 3) (hsu : su < 4) : 46 ≤ gx e su ∧ gx e su ≤ 95 := by
  unfold gx tc tw; split <;> omega
/-- suite su is known -/
def GTs (S I : Nat) (t o : Int → Int) (e su : Nat) (h : HP) : Prop := TXo t o h (gx e su) (OSs S I t o e su) ∧ TXl h (gx e su) (OSs S I t o e su) (SWl S I t o e su) ∧ (su < 2 → TXw h (gx e su) (SWl S I t o e su)) 
theorem gx_row (V : CW n hr) (hS : S ≤ 6) (hI : I ≤ 3) (hm : mok t o) (hc : clo S t) {e su : Nat} (he : e < 3) (hsu : su < 4) : ∃ nl tl, trow hr (gx e su) n nl tl ∧ ((OSs S I t o e su).length : Int) ≤ nl ∧ ((SWl S I t o e su).length : Int) ≤ tl := by
  have ok := (OSs_ok (o := o) hS hI hm hc (su := su) he).2.2
  unfold gx SWl
  by_cases y : su < 2
  · rw [if_pos y] at ok ⊢
    rw [if_pos y]
    have := LFr_len (o := o) hS hI hm hc (su := su) he
    exact ⟨_, _, tr_c V y he, by omega, by omega⟩
  · rw [if_neg y] at ok ⊢
    rw [if_neg y]
    have l1 : ((if S = 0 then [] else [wrd (WY S I t o (su - 2))] : List Nat).length : Int) ≤ 1 := by split <;> simp
    rcases (by omega : su - 2 = 0 ∨ su - 2 = 1) with q | q
    · refine ⟨253, 1, ?_, by omega, l1⟩
      rw [q]; exact tr_88 V
    · refine ⟨253, 1, ?_, by omega, l1⟩
      rw [q]; exact tr_95 V
theorem GT_of_TKn {e su : Nat} (y : su < 2) (H : TKn S I t o h su e) : GTs S I t o e su h := by
  have ew : SWl S I t o e su = LFr S I t o su e := by unfold SWl; rw [if_pos y]
  have eg : gx e su = tc su e := by unfold gx; rw [if_pos y]
  unfold GTs OSs
  rw [ew, eg]
  rcases H.2 with ⟨z, h7, h8⟩ | ⟨z, a, b, c⟩
  · rw [if_pos z]
    have el : LFr S I t o su e = [] := by unfold LFr; rw [if_pos z]
    rw [el]
    exact ⟨⟨h7, fun k v _ hk => (by cases hk)⟩, ⟨h8, fun j w hj => (by cases hj)⟩, fun _ j w hj => (by cases hj)⟩
  · rw [if_neg (by omega), if_pos y, LFr_LFs z]
    exact ⟨a, b, fun _ => c⟩
theorem GT_of_TWn {e su : Nat} (y : ¬ su < 2) (H : TWn S I t o h (su - 2)) : GTs S I t o e su h := by
  have ew : SWl S I t o e su = if S = 0 then [] else [wrd (WY S I t o (su - 2))] := by unfold SWl; rw [if_neg y]
  have eg : gx e su = tw (su - 2) := by unfold gx; rw [if_neg y]
  unfold GTs OSs
  rw [ew, eg]
  rcases H.2 with ⟨z, h7, h8⟩ | ⟨z, a, b⟩
  · rw [if_pos z, if_pos z]
    exact ⟨⟨h7, fun k v _ hk => (by cases hk)⟩, ⟨h8, fun j w hj => (by cases hj)⟩, fun q => absurd q y⟩
  · rw [if_neg (show ¬ S = 0 by omega), if_neg (show ¬ S = 0 by omega), if_neg y, TOUR_WY z]
    exact ⟨a, b, fun q => absurd q y⟩
theorem GT_fr {e su : Nat} {h1 : HP} (he : e < 3) (hsu : su < 4) (H : GTs S I t o e su h) (k : ∀ c : Int, 46 ≤ c → c ≤ 101 → h1 c = h c) : GTs S I t o e su h1 := by
  have b := gx_b he hsu
  unfold GTs TXo TXl TXw
  rw [k (gx e su) (by omega) (by omega), k (gx e su + 1) (by omega) (by omega), k (gx e su + 2) (by omega) (by omega), k (gx e su + 3) (by omega) (by omega), k (gx e su + 4) (by omega) (by omega), k (gx e su + 5) (by omega) (by omega), k (gx e su + 6) (by omega) (by omega)]
  exact H
/-- run, also where there is nothing -/
theorem sp_E_run_g {x m nl tl : Int} {os : List Nat} (R : trow hr x n nl tl) (hx : 46 ≤ x ∧ x ≤ 95) (M : mrow hr m n) (hmx : m + 2 < 45 ∨ 45 < m) (hm : mok t o) (hm' : mok t' o') (r1 : r24 (h (m + 1)) t') (r2 : r24 (h (m + 2)) o') (O : TXo t o h x os) (h0 : os = [] ∨ os[0]? = some 0) (hok : ∀ w ∈ os, wok 3 w) (hl : (os.length : Int) ≤ nl) (hQ : ∀ h1, EX [45] [] h h1 → ATS t o t' o' h1 os os.length → Q (9, 0) n hr h1) : f_E_run [(2, x), (2, m)] n hr h Q := by
  rcases h0 with h0 | h0
  · subst h0
    have R0 := R
    obtain ⟨q0, q1, q2, q3, q4, q5, q6, q7, q8, q9⟩ := R
    have e7 : (ai_up h 45 0 0) x 7 = 0 := by rw [up_oth (by omega)]; exact O.1
    apply e_E_run
    simp (disch := omega) only [q0, q7, true_and]
    repeat (refine ⟨by omega, ?_⟩)
    refine b_E_run_9 ?_
    simp (disch := omega) only [q0, e7, true_and]
    exact ⟨fun _ => q_at rfl (hQ _ (EX_upc EX_rf (by decide)) fun j w hj => absurd hj (Nat.not_lt_zero j)), fun z => by omega⟩
  · exact sp_E_run R hx M hmx hm hm' r1 r2 O h0 hok hl hQ
theorem sp_E_isFailedBy_g {m : Int} {e su : Nat} (V : CW n hr) (hS : S ≤ 6) (hI : I ≤ 3) (hc : clo S t) (he : e < 3) (hsu : su < 4) (M : mrow hr m n) (hmx : m + 2 < 45 ∨ 45 < m) (hm : mok t o) (hm' : mok t' o') (r1 : r24 (h (m + 1)) t') (r2 : r24 (h (m + 2)) o') (G : GTs S I t o e su h) (hQ1 : ∀ h1, EX [45] [] h h1 → FA S I t o e su t' o' → Q (0, 1) n hr h1) (hQ0 : ∀ h1, EX [45] [] h h1 → ¬ FA S I t o e su t' o' → Q (0, 0) n hr h1) : f_E_isFailedBy [(2, gx e su), (2, m)] n hr h Q := by
  obtain ⟨nl, tl, R, l1, l2⟩ := gx_row (o := o) V hS hI hm hc he hsu
  have ok := OSs_ok (o := o) hS hI hm hc (su := su) he
  have fa := OS_fa hS hI hm hc hm' (su := su) he
  have hx := gx_b he hsu
  rcases ok.1 with z | z
  · have R0 := R
    obtain ⟨q0, q1, q2, q3, q4, q5, q6, q7, q8, q9⟩ := R
    have e7 : (ai_up h 45 0 0) (gx e su) 7 = 0 := by rw [up_oth (by omega), G.1.1, z]; rfl
    apply e_E_isFailedBy
    simp (disch := omega) only [q0, q7, true_and]
    repeat (refine ⟨by omega, ?_⟩)
    refine b_E_isFailedBy_9 ?_
    simp (disch := omega) only [q0, e7, true_and, true_or, or_true]
    refine ⟨fun _ => q_at rfl (hQ0 _ (EX_upc EX_rf (by decide)) fun q => ?_), fun z => by omega⟩
    obtain ⟨w, w1, _⟩ := fa.mpr q
    rw [z] at w1; cases w1
  · refine sp_E_isFailedBy R hx M hmx hm hm' r1 r2 G.1 z ok.2.1 l1 (fun h1 e1 q => hQ1 h1 e1 (fa.mp q)) (fun h1 e1 q => hQ0 h1 e1 fun g => ?_)
    obtain ⟨w, w1, w2⟩ := fa.mpr g
    exact w2 (q w w1)
end
