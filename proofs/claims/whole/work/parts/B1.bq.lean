-- deps: 18 19 20 21 22 23 24 25 26 27 28 29 30 31 32 33 34 35 36 37 38 39 40 41 42 43 44 45 46 47 48 49 50 51 52 53 54 55 56 57 58 59 60 61 62 63 64 65 66 67 68 69 70 71 72 73 74 75 76 77 78 79 80 81 82 83 84 85 86 87 88 89 90 91 92 93 94 95 96 97 98 99 9A 9B 9C 9D 9E 9F 9G 9H 9I 9J 9K 9L 9M 9N 9O 9P 9Q 9R 9S 9T 9U 9V 9W 9X 9Y 9Z A0 A1 A2 A3 A4 A5 A6 A7 B0
/-! the class's own methods: what is only looked up -/
theorem wok_dig {m : Nat} : ∀ {w : Nat}, wok m w ↔ ∀ k, k < wlen w → 1 ≤ w / 4 ^ k % 4 ∧ w / 4 ^ k % 4 ≤ m := by
  intro w
  induction w using Nat.strongRecOn with
  | ind w ih =>
    by_cases hw : w = 0
    · subst hw
      exact ⟨fun _ k hk => by rw [wlen_0] at hk; omega, fun _ => wok_0 m⟩
    · rw [wok_s hw, ih (w / 4) (by omega), wlen_s hw]
      constructor
      · rintro ⟨h1, h2⟩ k hk
        cases k with
        | zero => rw [Nat.pow_zero, Nat.div_one]; exact h1
        | succ k => rw [Nat.pow_succ, Nat.mul_comm, ← Nat.div_div_eq_div_mul]; exact h2 k (by omega)
      · intro h
        refine ⟨?_, fun k hk => ?_⟩
        · have := h 0 (by omega)
          rwa [Nat.pow_zero, Nat.div_one] at this
        · have := h (k + 1) (by omega)
          rwa [Nat.pow_succ, Nat.mul_comm, ← Nat.div_div_eq_div_mul] at this
section
variable {Q : RP} {n : Nat} {hr h : HP} {z : ST} {d : Int} {k : Nat}
theorem sp_B_isWord {I : Nat} {w : Int} (hI : I ≤ 3) (h1 : wq I w → Q (0, 1) n hr h) (h0 : ¬ wq I w → Q (0, 0) n hr h) : f_B_isWord [(0, w), (0, (I : Int))] n hr h Q := by
  unfold wq at h0 h1
  apply e_B_isWord
  simp only [true_or, or_true, true_and]
  refine ⟨fun q => (by first | exact q_at rfl (h0 (by omega)) | exact (h0 (by omega))), fun q => ⟨fun q2 => ?_, fun q2 => (by first | exact q_at rfl (h0 (by omega)) | exact (h0 (by omega)))⟩⟩
  obtain ⟨v, rfl⟩ := Int.eq_ofNat_of_zero_le q
  rw [Int.toNat_natCast] at h0 h1
  have e15 : (4 : Nat) ^ 15 = 1073741824 := by decide
  have v15 : v < 4 ^ 15 := by omega
  have l15 : wlen v ≤ 15 := wlen_le.mpr v15
  refine sp_B_lengthOf v15 ?_
  have main := lupN (N := wlen v) (P := fun i => (∀ j, j < i → 1 ≤ v / 4 ^ j % 4 ∧ v / 4 ^ j % 4 ≤ I) → p_B_isWord_20 (n + 0) (ai_q 0 n Q) (v : Int) (I : Int) (wlen v : Int) (i : Int) n hr h) ?_ ?_
  · exact main fun j hj => by omega
  · intro g
    refine b_B_isWord_20 ?_
    simp only [true_or, or_true, true_and]
    exact ⟨fun _ => (by first | exact q_at rfl (h1 ⟨q, q2, wok_dig.mpr g⟩) | exact (h1 ⟨q, q2, wok_dig.mpr g⟩)), fun y => by omega⟩
  · intro i hi ih g
    refine b_B_isWord_20 ?_
    simp only [true_or, or_true, true_and]
    refine ⟨fun y => by omega, fun _ => sp_B_inputAt v15 (by omega) ⟨fun y => ?_, fun y => ⟨fun y2 => ?_, fun y2 => ?_⟩⟩⟩
    · dsimp only at y
      exact (by first | exact q_at rfl (h0 (fun r => by have := wok_dig.mp r.2.2 i hi; omega)) | exact (h0 (fun r => by have := wok_dig.mp r.2.2 i hi; omega)))
    · dsimp only at y y2
      rw [w32_id (by omega) (by omega)]
      refine ih fun j hj => ?_
      by_cases e : j = i
      · subst e; omega
      · exact g j (by omega)
    · dsimp only at y y2
      exact (by first | exact q_at rfl (h0 (fun r => by have := wok_dig.mp r.2.2 i hi; omega)) | exact (h0 (fun r => by have := wok_dig.mp r.2.2 i hi; omega)))
theorem sp_B_isSuite {s : Int} (h1 : (0 ≤ s ∧ s ≤ 3) → Q (0, 1) n hr h) (h0 : ¬ (0 ≤ s ∧ s ≤ 3) → Q (0, 0) n hr h) : f_B_isSuite [(0, s)] n hr h Q := by
  apply e_B_isSuite
  simp only [true_and, true_or, or_true]
  exact ⟨fun q => (by first | exact q_at rfl (h0 (by omega)) | exact (h0 (by omega))), fun q => ⟨fun q2 => (by first | exact q_at rfl (h0 (by omega)) | exact (h0 (by omega))), fun q2 => (by first | exact q_at rfl (h1 (by omega)) | exact (h1 (by omega)))⟩⟩
theorem sp_B_isPlanned {s : Int} (h1 : (s = 0 ∨ s = 1) → Q (0, 1) n hr h) (h0 : ¬ (s = 0 ∨ s = 1) → Q (0, 0) n hr h) : f_B_isPlanned [(0, s)] n hr h Q := by
  apply e_B_isPlanned
  simp only [true_and, true_or, or_true]
  exact ⟨fun q => (by first | exact q_at rfl (h1 (by omega)) | exact (h1 (by omega))), fun q => ⟨fun q2 => (by first | exact q_at rfl (h0 (by omega)) | exact (h0 (by omega))), fun q2 => (by first | exact q_at rfl (h1 (by omega)) | exact (h1 (by omega)))⟩⟩
theorem sp_B_isState {s : Int} {S : Nat} (V : CW n hr) (eS : h 13 2 = (S : Int)) (h1 : (0 ≤ s ∧ s < (S : Int)) → Q (0, 1) n hr h) (h0 : ¬ (0 ≤ s ∧ s < (S : Int)) → Q (0, 0) n hr h) : f_B_isState [(2, 0), (0, s)] n hr h Q := by
  apply e_B_isState
  simp only [ok_0 V.1, cr_0_1 V, ok_13 V.1, eS, true_and, true_or, or_true]
  exact ⟨fun q => (by first | exact q_at rfl (h0 (by omega)) | exact (h0 (by omega))), fun q => ⟨fun q2 => (by first | exact q_at rfl (h0 (by omega)) | exact (h0 (by omega))), fun q2 => (by first | exact q_at rfl (h1 (by omega)) | exact (h1 (by omega)))⟩⟩
theorem sp_B_fault {w : Int} (V : CW n hr) (C : CAL z d k h) (hQ : Q (0, if w = 0 then zF z else if w = 1 then zP z else -1) n hr h) : f_B_fault [(2, 0), (0, w)] n hr h Q := by
  apply e_B_fault
  simp only [ok_0 V.1, cr_0_0 V, ok_1 V.1, C.1.2.2.1, C.1.2.2.2.1, true_and]
  refine ⟨fun q => ⟨fun q2 => ?_, fun q2 => ?_⟩, fun q => ?_⟩
  · rw [if_neg q, if_neg q2] at hQ; exact (by first | exact q_at rfl (hQ) | exact (hQ))
  · rw [if_neg q, if_pos q2] at hQ; exact (by first | exact q_at rfl (hQ) | exact (hQ))
  · rw [if_pos q] at hQ; exact (by first | exact q_at rfl (hQ) | exact (hQ))
theorem sp_B_named {v : Int} (V : CW n hr) (hd : d = 3 ∨ d = 8) (rt : hr 0 12 = d) (O : zOK z) (C : CAL z d k h) (hQ : Q (0, if 0 ≤ fnK (dN (zS z)) v 0 then fnK (dN (zS z)) v 0 else if 0 ≤ fnK (dJ (zS z)) v 0 then 100 + fnK (dJ (zS z)) v 0 else -1) n hr h) : f_B_named [(2, 0), (0, v)] n hr h Q := by
  have p0 := (prow_of V hd).1
  have fb := fnK_bd (dJ (zS z)) v
  have o5 := O.2.1.1.2.2.2.2
  apply e_B_named
  simp only [ok_0 V.1, rt, p0, true_and]
  refine sp_P_placeNamed V hd O.2.1 C.1.2.2.2.2 ⟨fun q => ⟨ok_0 V.1, ?_⟩, fun q => ?_⟩
  · dsimp only at q
    rw [if_neg (show ¬ 0 ≤ fnK (dN (zS z)) v 0 by omega)] at hQ
    rw [rt]
    refine ⟨p0, sp_P_inputNamed V hd O.2.1 C.1.2.2.2.2 ⟨fun q2 => ?_, fun q2 => ?_⟩⟩
    · dsimp only at q2
      rw [if_neg (show ¬ 0 ≤ fnK (dJ (zS z)) v 0 by omega)] at hQ; exact (by first | exact q_at rfl (hQ) | exact (hQ))
    · dsimp only at q2
      rw [if_pos q2] at hQ
      dsimp only
      rw [w32_id (by omega) (by omega)]
      exact (by first | exact q_at rfl (hQ) | exact (hQ))
  · dsimp only at q
    rw [if_pos q] at hQ; exact (by first | exact q_at rfl (hQ) | exact (hQ))
theorem sp_B_built {p i w : Int} (V : CW n hr) (O : zOK z) (C : CAL z d k h) (h0 : ¬ ((0 ≤ p ∧ p < ((dN (zS z)).length : Int) ∧ 0 ≤ i ∧ i < ((dJ (zS z)).length : Int)) ∧ 0 ≤ w ∧ w ≤ 1) → Q (0, -1) n hr h) (h1 : ((0 ≤ p ∧ p < ((dN (zS z)).length : Int) ∧ 0 ≤ i ∧ i < ((dJ (zS z)).length : Int)) ∧ 0 ≤ w ∧ w ≤ 1) → Q (0, if w = 0 then zt z (3 * p + i) else zo z (3 * p + i)) n hr h) : f_B_built [(2, 0), (0, p), (0, i), (0, w)] n hr h Q := by
  obtain ⟨⟨o1, o2, o3, o4, o5⟩, -⟩ := O.2.1
  have c2 := C.2.1
  apply e_B_built
  simp only [ok_0 V.1, cr_0_2 V, true_and]
  refine sp_M_has (mr_16 V) ?_
  rw [c2.2.1, c2.2.2.1]
  by_cases y : 0 ≤ p ∧ p < ((dN (zS z)).length : Int) ∧ 0 ≤ i ∧ i < ((dJ (zS z)).length : Int)
  · rw [if_pos y]
    refine ⟨fun q => absurd q (by decide), fun _ => ⟨fun q => (by first | exact q_at rfl (h0 (by omega)) | exact (h0 (by omega))), fun q => ⟨fun q2 => ⟨ok_0 V.1, ?_⟩, fun q2 => (by first | exact q_at rfl (h0 (by omega)) | exact (h0 (by omega)))⟩⟩⟩
    have H := h1 ⟨y, q, q2⟩
    rw [(cr_0_2 V).1]
    refine ⟨ok_16 V.1, sp_M_part (mr_16 V) (by omega) (by omega) ?_⟩
    have g1 := c2.2.2.2.1 (3 * p + i) (by omega) (by omega)
    have g2 := c2.2.2.2.2 (3 * p + i) (by omega) (by omega)
    rw [g1, g2]
    exact (by first | exact q_at rfl (H) | exact (H))
  · rw [if_neg y]
    exact ⟨fun _ => (by first | exact q_at rfl (h0 (fun r => y r.1)) | exact (h0 (fun r => y r.1))), fun q => absurd rfl q⟩
theorem wq15 {I : Nat} {w : Int} (q : wq I w) : w.toNat < 4 ^ 15 ∧ wok I w.toNat ∧ w = (w.toNat : Int) := by
  unfold wq at q
  have e15 : (4 : Nat) ^ 15 = 1073741824 := by decide
  exact ⟨by omega, q.2.2, by omega⟩
theorem sp_B_answer {s w : Int} (V : CW n hr) (O : zOK z) (C : CAL z d k h) (h1 : (0 ≤ s ∧ s < (dM (zS z) : Int)) → wq (dJ (zS z)).length w → Q (1, aS (tM (zS z)) (oM (zS z)) s w.toNat) n hr h) (h0 : ¬ ((0 ≤ s ∧ s < (dM (zS z) : Int)) ∧ wq (dJ (zS z)).length w) → Q (1, -1) n hr h) : f_B_answer [(2, 0), (0, s), (0, w)] n hr h Q := by
  obtain ⟨hS, hI, hm, hc, hT⟩ := TV_s O.2.1
  have X := C.2.1.1
  apply e_B_answer
  refine ⟨ok_0 V.1, sp_B_isState V X.1 (fun q => ⟨fun r => absurd r (by decide), fun _ => ?_⟩) fun q => ⟨fun _ => (by first | exact q_at rfl (h0 (fun r => q r.1)) | exact (h0 (fun r => q r.1))), fun r => absurd rfl r⟩⟩
  simp only [ok_0 V.1, cr_0_1 V, ok_13 V.1, X.2.1, true_and]
  refine sp_B_isWord hI (fun q2 => ⟨fun _ => ⟨ok_0 V.1, ?_⟩, fun r => absurd r (by decide)⟩) fun q2 => ⟨fun r => absurd rfl r, fun _ => (by first | exact q_at rfl (h0 (fun r => q2 r.2)) | exact (h0 (fun r => q2 r.2)))⟩
  have H := h1 q q2
  obtain ⟨a1, a2, a3⟩ := wq15 q2
  rw [(cr_0_1 V).1]
  rw [a3]
  exact ⟨ok_13 V.1, sp_M_tl (mr_13 V) hm X.2.2.1 X.2.2.2 (by omega) a1 (wok_mono hI a2) (by first | exact q_at rfl (H) | exact (H))⟩
theorem sp_B_leads {s w : Int} (V : CW n hr) (O : zOK z) (C : CAL z d k h) (h1 : (0 ≤ s ∧ s < (dM (zS z) : Int)) → wq (dJ (zS z)).length w → Q (0, dS (tM (zS z)) s w.toNat) n hr h) (h0 : ¬ ((0 ≤ s ∧ s < (dM (zS z) : Int)) ∧ wq (dJ (zS z)).length w) → Q (0, -1) n hr h) : f_B_leads [(2, 0), (0, s), (0, w)] n hr h Q := by
  obtain ⟨hS, hI, hm, hc, hT⟩ := TV_s O.2.1
  have X := C.2.1.1
  apply e_B_leads
  refine ⟨ok_0 V.1, sp_B_isState V X.1 (fun q => ⟨fun r => absurd r (by decide), fun _ => ?_⟩) fun q => ⟨fun _ => (by first | exact q_at rfl (h0 (fun r => q r.1)) | exact (h0 (fun r => q r.1))), fun r => absurd rfl r⟩⟩
  simp only [ok_0 V.1, cr_0_1 V, ok_13 V.1, X.2.1, true_and]
  refine sp_B_isWord hI (fun q2 => ⟨fun _ => ⟨ok_0 V.1, ?_⟩, fun r => absurd r (by decide)⟩) fun q2 => ⟨fun r => absurd rfl r, fun _ => (by first | exact q_at rfl (h0 (fun r => q2 r.2)) | exact (h0 (fun r => q2 r.2)))⟩
  have H := h1 q q2
  obtain ⟨a1, a2, a3⟩ := wq15 q2
  rw [(cr_0_1 V).1]
  rw [a3]
  exact ⟨ok_13 V.1, sp_M_goo (mr_13 V) hm X.2.2.1 X.2.2.2 (by omega) a1 (wok_mono hI a2) (by first | exact q_at rfl (H) | exact (H))⟩
theorem sp_B_answerBuilt {w : Int} (V : CW n hr) (O : zOK z) (C : CAL z d k h) (h1 : 0 < dM (zS z) → wq (dJ (zS z)).length w → Q (1, aS (zt z) (zo z) 0 w.toNat) n hr h) (h0 : ¬ (0 < dM (zS z) ∧ wq (dJ (zS z)).length w) → Q (1, -1) n hr h) : f_B_answerBuilt [(2, 0), (0, w)] n hr h Q := by
  obtain ⟨hS, hI, hm, hc, hT⟩ := TV_s O.2.1
  have X := C.2.1.1
  have c2 := C.2.1
  apply e_B_answerBuilt
  simp only [ok_0 V.1, cr_0_1 V, cr_0_2 V, ok_13 V.1, ok_16 V.1, X.1, c2.2.2.1, true_and]
  refine ⟨fun q => (by first | exact q_at rfl (h0 (fun r => by omega)) | exact (h0 (fun r => by omega))), fun q => ?_⟩
  refine sp_B_isWord hI (fun q2 => ⟨fun _ => ⟨ok_0 V.1, ?_⟩, fun r => absurd r (by decide)⟩) fun q2 => ⟨fun r => absurd rfl r, fun _ => (by first | exact q_at rfl (h0 (fun r => q2 r.2)) | exact (h0 (fun r => q2 r.2)))⟩
  have H := h1 (by omega) q2
  obtain ⟨a1, a2, a3⟩ := wq15 q2
  rw [(cr_0_2 V).1]
  rw [a3]
  exact ⟨ok_16 V.1, sp_M_tl (mr_16 V) O.2.2.1.1 c2.2.2.2.1 c2.2.2.2.2 (by omega) a1 (wok_mono hI a2) (by first | exact q_at rfl (H) | exact (H))⟩
theorem sp_B_access {s : Int} (V : CW n hr) (O : zOK z) (C : CAL z d k h) (h1 : (0 ≤ s ∧ s < (dM (zS z) : Int)) → Q (0, AC (dJ (zS z)).length (tM (zS z)) 0 s) n hr h) (h0 : ¬ (0 ≤ s ∧ s < (dM (zS z) : Int)) → Q (0, -1) n hr h) : f_B_access [(2, 0), (0, s)] n hr h Q := by
  obtain ⟨hS, hI, hm, hc, hT⟩ := TV_s O.2.1
  apply e_B_access
  refine ⟨ok_0 V.1, sp_B_isState V C.2.1.1.1 (fun q => ⟨fun r => absurd r (by decide), fun _ => ?_⟩) fun q => ⟨fun _ => (by first | exact q_at rfl (h0 q) | exact (h0 q)), fun r => absurd rfl r⟩⟩
  obtain ⟨i, rfl⟩ := Int.eq_ofNat_of_zero_le q.1
  have H := h1 q
  simp only [ok_0 V.1, cr_0_3 V, cr_19_1 V, C.2.2.1.2.1 i (by omega), true_and]
  repeat (refine ⟨by omega, ?_⟩)
  exact (by first | exact q_at rfl (H) | exact (H))
theorem sp_B_kind {s : Int} (V : CW n hr) (O : zOK z) (C : CAL z d k h) (h1 : (0 ≤ s ∧ s < (dM (zS z) : Int)) → Q (0, KD (dJ (zS z)).length (tM (zS z)) (oM (zS z)) s.toNat) n hr h) (h0 : ¬ (0 ≤ s ∧ s < (dM (zS z) : Int)) → Q (0, -1) n hr h) : f_B_kind [(2, 0), (0, s)] n hr h Q := by
  obtain ⟨hS, hI, hm, hc, hT⟩ := TV_s O.2.1
  apply e_B_kind
  refine ⟨ok_0 V.1, sp_B_isState V C.2.1.1.1 (fun q => ⟨fun r => absurd r (by decide), fun _ => ?_⟩) fun q => ⟨fun _ => (by first | exact q_at rfl (h0 q) | exact (h0 q)), fun r => absurd rfl r⟩⟩
  obtain ⟨i, rfl⟩ := Int.eq_ofNat_of_zero_le q.1
  have H := h1 q
  rw [Int.toNat_natCast] at H
  simp only [ok_0 V.1, cr_0_3 V, cr_19_3 V, C.2.2.1.2.2.2.2.1 i (by omega), true_and]
  repeat (refine ⟨by omega, ?_⟩)
  exact (by first | exact q_at rfl (H) | exact (H))
theorem sp_B_separator {s x : Int} (V : CW n hr) (O : zOK z) (C : CAL z d k h) (h1 : (0 ≤ s ∧ s < (dM (zS z) : Int)) → (0 ≤ x ∧ x < (dM (zS z) : Int)) → Q (0, SPr (dJ (zS z)).length (tM (zS z)) (oM (zS z)) s x) n hr h) (h0 : ¬ ((0 ≤ s ∧ s < (dM (zS z) : Int)) ∧ (0 ≤ x ∧ x < (dM (zS z) : Int))) → Q (0, -1) n hr h) : f_B_separator [(2, 0), (0, s), (0, x)] n hr h Q := by
  obtain ⟨hS, hI, hm, hc, hT⟩ := TV_s O.2.1
  apply e_B_separator
  refine ⟨ok_0 V.1, sp_B_isState V C.2.1.1.1 (fun q => ⟨fun r => absurd r (by decide), fun _ => ⟨ok_0 V.1, ?_⟩⟩) fun q => ⟨fun _ => (by first | exact q_at rfl (h0 (fun r => q r.1)) | exact (h0 (fun r => q r.1))), fun r => absurd rfl r⟩⟩
  refine sp_B_isState V C.2.1.1.1 (fun q2 => ⟨fun _ => ?_, fun r => absurd r (by decide)⟩) fun q2 => ⟨fun r => absurd rfl r, fun _ => (by first | exact q_at rfl (h0 (fun r => q2 r.2)) | exact (h0 (fun r => q2 r.2)))⟩
  have H := h1 q q2
  obtain ⟨i, rfl⟩ := Int.eq_ofNat_of_zero_le q.1
  obtain ⟨j, rfl⟩ := Int.eq_ofNat_of_zero_le q2.1
  have g := C.2.2.1.2.2.2.1 i j (by omega) (by omega)
  have e6 : (i : Int) * 6 + (j : Int) = 6 * (i : Int) + (j : Int) := by omega
  simp (disch := omega) only [ok_0 V.1, cr_0_3 V, cr_19_2 V, w32_id, e6, g, true_and]
  repeat (refine ⟨by omega, ?_⟩)
  exact (by first | exact q_at rfl (H) | exact (H))
theorem sp_B_splitter {x : Int} (V : CW n hr) (O : zOK z) (C : CAL z d k h) (h2 : x < 0 ∨ dM (zS z) = 0 → Q (0, -1) n hr h) (h1 : ∀ (j w : Nat), 0 < dM (zS z) → x = (j : Int) → (SPL (dJ (zS z)).length (dM (zS z)) (tM (zS z)) (oM (zS z)))[j]? = some w → Q (0, (w : Int)) n hr h) (h0 : 0 < dM (zS z) → ((SPL (dJ (zS z)).length (dM (zS z)) (tM (zS z)) (oM (zS z))).length : Int) ≤ x → Q (0, -2) n hr h) (hl : (SPL (dJ (zS z)).length (dM (zS z)) (tM (zS z)) (oM (zS z))).length ≤ 6) : f_B_splitter [(2, 0), (0, x)] n hr h Q := by
  apply e_B_splitter
  simp only [ok_0 V.1, cr_0_1 V, ok_13 V.1, cr_0_3 V, ok_19 V.1, cr_19_4 V, C.2.1.1.1, C.2.2.1.2.2.2.2.2.2.1, true_and]
  refine ⟨fun q => (by first | exact q_at rfl (h2 (Or.inl q)) | exact (h2 (Or.inl q))), fun q => ⟨fun q2 => ⟨fun q3 => (by first | exact q_at rfl (h0 (by omega) q3) | exact (h0 (by omega) q3)), fun q3 => ?_⟩, fun q2 => (by first | exact q_at rfl (h2 (Or.inr (by omega))) | exact (h2 (Or.inr (by omega))))⟩⟩
  obtain ⟨j, rfl⟩ := Int.eq_ofNat_of_zero_le q
  have e := List.getElem?_eq_getElem (l := SPL (dJ (zS z)).length (dM (zS z)) (tM (zS z)) (oM (zS z))) (i := j) (by omega)
  have g := C.2.2.1.2.2.2.2.2.2.2.1 j _ e
  rw [Int.zero_add] at g
  rw [g]
  repeat (refine ⟨by omega, ?_⟩)
  exact (by first | exact q_at rfl (h1 j _ (by omega) rfl e) | exact (h1 j _ (by omega) rfl e))
theorem sp_B_mark {s x : Int} (V : CW n hr) (O : zOK z) (C : CAL z d k h) (h1 : (0 ≤ s ∧ s < (dM (zS z) : Int)) → 0 ≤ x → Q (0, MK (dM (zS z)) (dJ (zS z)).length (tM (zS z)) (oM (zS z)) s.toNat x.toNat) n hr h) (h0 : ¬ ((0 ≤ s ∧ s < (dM (zS z) : Int)) ∧ 0 ≤ x) → Q (0, -1) n hr h) : f_B_mark [(2, 0), (0, s), (0, x)] n hr h Q := by
  obtain ⟨hS, hI, hm, hc, hT⟩ := TV_s O.2.1
  apply e_B_mark
  refine ⟨fun q => (by first | exact q_at rfl (h0 (fun r => by omega)) | exact (h0 (fun r => by omega))), fun q => ⟨ok_0 V.1, ?_⟩⟩
  refine sp_B_isState V C.2.1.1.1 (fun q2 => ⟨fun _ => ?_, fun r => absurd r (by decide)⟩) fun q2 => ⟨fun r => absurd rfl r, fun _ => (by first | exact q_at rfl (h0 (fun r => q2 r.1)) | exact (h0 (fun r => q2 r.1)))⟩
  have H := h1 q2 q
  obtain ⟨i, rfl⟩ := Int.eq_ofNat_of_zero_le q2.1
  obtain ⟨j, rfl⟩ := Int.eq_ofNat_of_zero_le q
  rw [Int.toNat_natCast, Int.toNat_natCast] at H
  obtain ⟨c, m1, m2, m3, m4, m5⟩ := C.2.2.1.2.2.2.2.2.2.2.2 i (by omega)
  have e6 : (i : Int) * 6 + (j : Int) = 6 * (i : Int) + (j : Int) := by omega
  simp only [ok_0 V.1, cr_0_3 V, ok_19 V.1, cr_19_5 V, cr_19_6 V, m1, true_and]
  repeat (refine ⟨by omega, ?_⟩)
  refine ⟨fun q3 => ?_, fun q3 => ?_⟩
  · have m6 := MK_neg m5 (j - c)
    rw [show c + (j - c) = j by omega] at m6
    rw [m6] at H
    exact (by first | exact q_at rfl (H) | exact (H))
  · have g := (m4 j (by omega)).1
    simp (disch := omega) only [w32_id, e6, g, true_and]
    repeat (refine ⟨by omega, ?_⟩)
    exact (by first | exact q_at rfl (H) | exact (H))
end
