-- deps: 01 02 02 03 04 05 06 07 08 09 10 11 12 13 14 15 16 17 17 17 17 17 17 17 17 17 18 18 18 18 18 19 20 21 22 23 24 25 26 27 28 29 30 31 32 33 34 35 36 37 38 39 40 41 42 43 44 45 46 47 48 49 50 51 52 53 54 55 56 57 58 59 60 61 62 63 64 65 66 67 68 69 70 71 72 73 74 75 76 77 78 79 80 81 82 83 84 85 86 87 88 89 90 91 92 93 94 95 96 97 98 99 9A 9B 9C 9D 9E 9F 9G 9H 9I 9J 9K 9L 9M 9N 9O 9P 9Q 9R 9S 9T 9U 9V 9W 9X 9Y 9Z A0 A1 A2 A3 A4 A5 A6 A7 B0 B1 B2 B3 B4 B5 B6 B7 B8 B9 BA BB BC BD BE C0 C1 C2 C3 C4 C5 C6
/-! each call of the law but one: both sides answer the same, and hold the same again -/
abbrev lawL (i : Int) : List (Option AV) := [some (4, 0), some (2, 0), some (2, 138), some (2, 181), some (0, i), none, none]
/-- what is to be shown of one call of the law -/
def LAW (pc : Nat) : Prop := ∀ {Kw : KP} {Q : RP} {xl : Int} {xf : Int → Int} {i : Int} {z : ST} {d : Int} {k : Nat} {hr h : HP}, REL z d k 182 hr h → k ≤ 100000 → 0 ≤ i → i + 6 ≤ xl → xl ≤ 3072 → (∀ j, xf j ≤ 2147483647) → (∀ (z1 : ST) (d1 : Int) (k1 : Nat) (hr1 h1 : HP), k1 ≤ k + 1 → REL z1 d1 k1 182 hr1 h1 → Kw 1548 (lawL i) [] 182 hr1 h1) → ai_run o_Q_law 182 (some (xl, xf)) k_Q_law cut_Q_law Q Kw 120 pc (lawL i) [] 182 hr h
theorem law_o0 : ai_ok 182 0 11 := ⟨by decide, by decide, rfl⟩
theorem law_o1 : ai_ok 182 138 12 := ⟨by decide, by decide, rfl⟩
theorem law_cmp {x : Int} : l_cmp x x = 0 := by unfold l_cmp; simp
theorem law_w {i xl : Int} (j : Int) (hi : 0 ≤ i) (hl : i + 6 ≤ xl) (hx : xl ≤ 3072) (j0 : 0 ≤ j) (j5 : j ≤ 5) : w32 (i + j) = i + j := w32_id (by omega) (by omega)
set_option maxRecDepth 100000 in
theorem law_feed : LAW 224 := by
  intro Kw Q xl xf i z d k hr h R hk hi hl hx hf hK
  have H : 0 ≤ (w32 (i + 1)) ∧ (w32 (i + 1)) < xl ∧ 0 ≤ (w32 (i + 2)) ∧ (w32 (i + 2)) < xl ∧ 0 ≤ (w32 (i + 3)) ∧ (w32 (i + 3)) < xl ∧ 0 ≤ (w32 (i + 4)) ∧ (w32 (i + 4)) < xl ∧ 0 ≤ (w32 (i + 5)) ∧ (w32 (i + 5)) < xl ∧ ai_ok 182 0 11 ∧ f_B_feed [(2, 0), (0, xf (w32 (i + 1))), (0, xf (w32 (i + 2))), (0, xf (w32 (i + 3))), (0, xf (w32 (i + 4))), (0, xf (w32 (i + 5)))] 182 hr h fun r1 n1 hr1 h1 => 0 ≤ (w32 (i + 1)) ∧ (w32 (i + 1)) < xl ∧ 0 ≤ (w32 (i + 2)) ∧ (w32 (i + 2)) < xl ∧ 0 ≤ (w32 (i + 3)) ∧ (w32 (i + 3)) < xl ∧ 0 ≤ (w32 (i + 4)) ∧ (w32 (i + 4)) < xl ∧ 0 ≤ (w32 (i + 5)) ∧ (w32 (i + 5)) < xl ∧ ai_ok n1 138 12 ∧ f_N_feed [(2, 138), (0, xf (w32 (i + 1))), (0, xf (w32 (i + 2))), (0, xf (w32 (i + 3))), (0, xf (w32 (i + 4))), (0, xf (w32 (i + 5)))] n1 hr1 h1 fun r2 n2 hr2 h2 => ((r1.2) = (r2.2) → Kw 1548 [some (4, 0), some (2, 0), some (2, 138), some (2, 181), some (0, i), none, none] [] n2 hr2 h2) ∧ ((r1.2) ≠ (r2.2) → ((0 : Int) = 0 ∨ (0 : Int) = 1) ∧ Q (0, 0) n2 hr2 h2) := by
    have z1_0 : 0 ≤ i + 1 := by omega
    have z1_1 : i + 1 < xl := by omega
    have z2_0 : 0 ≤ i + 2 := by omega
    have z2_1 : i + 2 < xl := by omega
    have z3_0 : 0 ≤ i + 3 := by omega
    have z3_1 : i + 3 < xl := by omega
    have z4_0 : 0 ≤ i + 4 := by omega
    have z4_1 : i + 4 < xl := by omega
    have z5_0 : 0 ≤ i + 5 := by omega
    have z5_1 : i + 5 < xl := by omega
    simp only [law_w 1 hi hl hx (by decide) (by decide), law_w 2 hi hl hx (by decide) (by decide), law_w 3 hi hl hx (by decide) (by decide), law_w 4 hi hl hx (by decide) (by decide), law_w 5 hi hl hx (by decide) (by decide), z1_0, z1_1, z2_0, z2_1, z3_0, z3_1, z4_0, z4_1, z5_0, z5_1, law_o0, law_o1, true_and]
    refine jo_feed R fun v hr1 h1 w F => ?_
    simp only [z1_0, z1_1, z2_0, z2_1, z3_0, z3_1, z4_0, z4_1, z5_0, z5_1, law_o1, true_and]
    refine mf_N_feed _ _ _ _ _ _ (fun r2 n2 hr2 h2 g => ?_) F
    obtain ⟨rfl, rfl, z1, d1, k1, hk1, R1⟩ := g
    exact ⟨fun _ => hK z1 d1 k1 hr2 h2 hk1 R1, fun y => absurd rfl y⟩
  exact H
set_option maxRecDepth 100000 in
theorem law_text : LAW 297 := by
  intro Kw Q xl xf i z d k hr h R hk hi hl hx hf hK
  have H : 0 ≤ (w32 (i + 1)) ∧ (w32 (i + 1)) < xl ∧ ai_ok 182 0 11 ∧ f_B_text [(2, 0), (0, xf (w32 (i + 1)))] 182 hr h fun r1 n1 hr1 h1 => 0 ≤ (w32 (i + 1)) ∧ (w32 (i + 1)) < xl ∧ ai_ok n1 138 12 ∧ f_N_text [(2, 138), (0, xf (w32 (i + 1)))] n1 hr1 h1 fun r2 n2 hr2 h2 => ((r1.2) = (r2.2) → Kw 1548 [some (4, 0), some (2, 0), some (2, 138), some (2, 181), some (0, i), none, none] [] n2 hr2 h2) ∧ ((r1.2) ≠ (r2.2) → ((0 : Int) = 0 ∨ (0 : Int) = 1) ∧ Q (0, 0) n2 hr2 h2) := by
    have z1_0 : 0 ≤ i + 1 := by omega
    have z1_1 : i + 1 < xl := by omega
    simp only [law_w 1 hi hl hx (by decide) (by decide), z1_0, z1_1, law_o0, law_o1, true_and]
    refine jo_text R fun v hr1 h1 w F => ?_
    simp only [z1_0, z1_1, law_o1, true_and]
    refine mf_N_text _ _ _ _ _ _ (fun r2 n2 hr2 h2 g => ?_) F
    obtain ⟨rfl, rfl, z1, d1, k1, hk1, R1⟩ := g
    exact ⟨fun _ => hK z1 d1 k1 hr2 h2 hk1 R1, fun y => absurd rfl y⟩
  exact H
set_option maxRecDepth 100000 in
theorem law_fault : LAW 322 := by
  intro Kw Q xl xf i z d k hr h R hk hi hl hx hf hK
  have H : 0 ≤ (w32 (i + 1)) ∧ (w32 (i + 1)) < xl ∧ ai_ok 182 0 11 ∧ f_B_fault [(2, 0), (0, xf (w32 (i + 1)))] 182 hr h fun r1 n1 hr1 h1 => 0 ≤ (w32 (i + 1)) ∧ (w32 (i + 1)) < xl ∧ ai_ok n1 138 12 ∧ f_N_fault [(2, 138), (0, xf (w32 (i + 1)))] n1 hr1 h1 fun r2 n2 hr2 h2 => ((r1.2) = (r2.2) → Kw 1548 [some (4, 0), some (2, 0), some (2, 138), some (2, 181), some (0, i), none, none] [] n2 hr2 h2) ∧ ((r1.2) ≠ (r2.2) → ((0 : Int) = 0 ∨ (0 : Int) = 1) ∧ Q (0, 0) n2 hr2 h2) := by
    have z1_0 : 0 ≤ i + 1 := by omega
    have z1_1 : i + 1 < xl := by omega
    simp only [law_w 1 hi hl hx (by decide) (by decide), z1_0, z1_1, law_o0, law_o1, true_and]
    refine jo_fault R fun v hr1 h1 w F => ?_
    simp only [z1_0, z1_1, law_o1, true_and]
    refine mf_N_fault _ _ _ _ _ _ (fun r2 n2 hr2 h2 g => ?_) F
    obtain ⟨rfl, rfl, z1, d1, k1, hk1, R1⟩ := g
    exact ⟨fun _ => hK z1 d1 k1 hr2 h2 hk1 R1, fun y => absurd rfl y⟩
  exact H
set_option maxRecDepth 100000 in
theorem law_named : LAW 347 := by
  intro Kw Q xl xf i z d k hr h R hk hi hl hx hf hK
  have H : 0 ≤ (w32 (i + 1)) ∧ (w32 (i + 1)) < xl ∧ ai_ok 182 0 11 ∧ f_B_named [(2, 0), (0, xf (w32 (i + 1)))] 182 hr h fun r1 n1 hr1 h1 => 0 ≤ (w32 (i + 1)) ∧ (w32 (i + 1)) < xl ∧ ai_ok n1 138 12 ∧ f_N_named [(2, 138), (0, xf (w32 (i + 1)))] n1 hr1 h1 fun r2 n2 hr2 h2 => ((r1.2) = (r2.2) → Kw 1548 [some (4, 0), some (2, 0), some (2, 138), some (2, 181), some (0, i), none, none] [] n2 hr2 h2) ∧ ((r1.2) ≠ (r2.2) → ((0 : Int) = 0 ∨ (0 : Int) = 1) ∧ Q (0, 0) n2 hr2 h2) := by
    have z1_0 : 0 ≤ i + 1 := by omega
    have z1_1 : i + 1 < xl := by omega
    simp only [law_w 1 hi hl hx (by decide) (by decide), z1_0, z1_1, law_o0, law_o1, true_and]
    refine jo_named R fun v hr1 h1 w F => ?_
    simp only [z1_0, z1_1, law_o1, true_and]
    refine mf_N_named _ _ _ _ _ _ (fun r2 n2 hr2 h2 g => ?_) F
    obtain ⟨rfl, rfl, z1, d1, k1, hk1, R1⟩ := g
    exact ⟨fun _ => hK z1 d1 k1 hr2 h2 hk1 R1, fun y => absurd rfl y⟩
  exact H
set_option maxRecDepth 100000 in
theorem law_built : LAW 452 := by
  intro Kw Q xl xf i z d k hr h R hk hi hl hx hf hK
  have H : 0 ≤ (w32 (i + 1)) ∧ (w32 (i + 1)) < xl ∧ 0 ≤ (w32 (i + 2)) ∧ (w32 (i + 2)) < xl ∧ 0 ≤ (w32 (i + 3)) ∧ (w32 (i + 3)) < xl ∧ ai_ok 182 0 11 ∧ f_B_built [(2, 0), (0, xf (w32 (i + 1))), (0, xf (w32 (i + 2))), (0, xf (w32 (i + 3)))] 182 hr h fun r1 n1 hr1 h1 => 0 ≤ (w32 (i + 1)) ∧ (w32 (i + 1)) < xl ∧ 0 ≤ (w32 (i + 2)) ∧ (w32 (i + 2)) < xl ∧ 0 ≤ (w32 (i + 3)) ∧ (w32 (i + 3)) < xl ∧ ai_ok n1 138 12 ∧ f_N_built [(2, 138), (0, xf (w32 (i + 1))), (0, xf (w32 (i + 2))), (0, xf (w32 (i + 3)))] n1 hr1 h1 fun r2 n2 hr2 h2 => ((r1.2) = (r2.2) → Kw 1548 [some (4, 0), some (2, 0), some (2, 138), some (2, 181), some (0, i), none, none] [] n2 hr2 h2) ∧ ((r1.2) ≠ (r2.2) → ((0 : Int) = 0 ∨ (0 : Int) = 1) ∧ Q (0, 0) n2 hr2 h2) := by
    have z1_0 : 0 ≤ i + 1 := by omega
    have z1_1 : i + 1 < xl := by omega
    have z2_0 : 0 ≤ i + 2 := by omega
    have z2_1 : i + 2 < xl := by omega
    have z3_0 : 0 ≤ i + 3 := by omega
    have z3_1 : i + 3 < xl := by omega
    simp only [law_w 1 hi hl hx (by decide) (by decide), law_w 2 hi hl hx (by decide) (by decide), law_w 3 hi hl hx (by decide) (by decide), z1_0, z1_1, z2_0, z2_1, z3_0, z3_1, law_o0, law_o1, true_and]
    refine jo_built R fun v hr1 h1 w F => ?_
    simp only [z1_0, z1_1, z2_0, z2_1, z3_0, z3_1, law_o1, true_and]
    refine mf_N_built _ _ _ _ _ _ (fun r2 n2 hr2 h2 g => ?_) F
    obtain ⟨rfl, rfl, z1, d1, k1, hk1, R1⟩ := g
    exact ⟨fun _ => hK z1 d1 k1 hr2 h2 hk1 R1, fun y => absurd rfl y⟩
  exact H
set_option maxRecDepth 100000 in
theorem law_answer : LAW 501 := by
  intro Kw Q xl xf i z d k hr h R hk hi hl hx hf hK
  have H : 0 ≤ (w32 (i + 1)) ∧ (w32 (i + 1)) < xl ∧ 0 ≤ (w32 (i + 2)) ∧ (w32 (i + 2)) < xl ∧ ai_ok 182 0 11 ∧ f_B_answer [(2, 0), (0, xf (w32 (i + 1))), (0, xf (w32 (i + 2)))] 182 hr h fun r1 n1 hr1 h1 => 0 ≤ (w32 (i + 1)) ∧ (w32 (i + 1)) < xl ∧ 0 ≤ (w32 (i + 2)) ∧ (w32 (i + 2)) < xl ∧ ai_ok n1 138 12 ∧ f_N_answer [(2, 138), (0, xf (w32 (i + 1))), (0, xf (w32 (i + 2)))] n1 hr1 h1 fun r2 n2 hr2 h2 => ((l_cmp (r1.2) (r2.2)) = 0 → Kw 1548 [some (4, 0), some (2, 0), some (2, 138), some (2, 181), some (0, i), none, none] [] n2 hr2 h2) ∧ ((l_cmp (r1.2) (r2.2)) ≠ 0 → ((0 : Int) = 0 ∨ (0 : Int) = 1) ∧ Q (0, 0) n2 hr2 h2) := by
    have z1_0 : 0 ≤ i + 1 := by omega
    have z1_1 : i + 1 < xl := by omega
    have z2_0 : 0 ≤ i + 2 := by omega
    have z2_1 : i + 2 < xl := by omega
    simp only [law_w 1 hi hl hx (by decide) (by decide), law_w 2 hi hl hx (by decide) (by decide), z1_0, z1_1, z2_0, z2_1, law_o0, law_o1, true_and]
    refine jo_answer R fun v hr1 h1 w F => ?_
    simp only [z1_0, z1_1, z2_0, z2_1, law_o1, true_and]
    refine mf_N_answer _ _ _ _ _ _ (fun r2 n2 hr2 h2 g => ?_) F
    obtain ⟨rfl, rfl, z1, d1, k1, hk1, R1⟩ := g
    exact ⟨fun _ => hK z1 d1 k1 hr2 h2 hk1 R1, fun y => absurd law_cmp y⟩
  exact H
set_option maxRecDepth 100000 in
theorem law_leads : LAW 539 := by
  intro Kw Q xl xf i z d k hr h R hk hi hl hx hf hK
  have H : 0 ≤ (w32 (i + 1)) ∧ (w32 (i + 1)) < xl ∧ 0 ≤ (w32 (i + 2)) ∧ (w32 (i + 2)) < xl ∧ ai_ok 182 0 11 ∧ f_B_leads [(2, 0), (0, xf (w32 (i + 1))), (0, xf (w32 (i + 2)))] 182 hr h fun r1 n1 hr1 h1 => 0 ≤ (w32 (i + 1)) ∧ (w32 (i + 1)) < xl ∧ 0 ≤ (w32 (i + 2)) ∧ (w32 (i + 2)) < xl ∧ ai_ok n1 138 12 ∧ f_N_leads [(2, 138), (0, xf (w32 (i + 1))), (0, xf (w32 (i + 2)))] n1 hr1 h1 fun r2 n2 hr2 h2 => ((r1.2) = (r2.2) → Kw 1548 [some (4, 0), some (2, 0), some (2, 138), some (2, 181), some (0, i), none, none] [] n2 hr2 h2) ∧ ((r1.2) ≠ (r2.2) → ((0 : Int) = 0 ∨ (0 : Int) = 1) ∧ Q (0, 0) n2 hr2 h2) := by
    have z1_0 : 0 ≤ i + 1 := by omega
    have z1_1 : i + 1 < xl := by omega
    have z2_0 : 0 ≤ i + 2 := by omega
    have z2_1 : i + 2 < xl := by omega
    simp only [law_w 1 hi hl hx (by decide) (by decide), law_w 2 hi hl hx (by decide) (by decide), z1_0, z1_1, z2_0, z2_1, law_o0, law_o1, true_and]
    refine jo_leads R fun v hr1 h1 w F => ?_
    simp only [z1_0, z1_1, z2_0, z2_1, law_o1, true_and]
    refine mf_N_leads _ _ _ _ _ _ (fun r2 n2 hr2 h2 g => ?_) F
    obtain ⟨rfl, rfl, z1, d1, k1, hk1, R1⟩ := g
    exact ⟨fun _ => hK z1 d1 k1 hr2 h2 hk1 R1, fun y => absurd rfl y⟩
  exact H
set_option maxRecDepth 100000 in
theorem law_answerBuilt : LAW 576 := by
  intro Kw Q xl xf i z d k hr h R hk hi hl hx hf hK
  have H : 0 ≤ (w32 (i + 1)) ∧ (w32 (i + 1)) < xl ∧ ai_ok 182 0 11 ∧ f_B_answerBuilt [(2, 0), (0, xf (w32 (i + 1)))] 182 hr h fun r1 n1 hr1 h1 => 0 ≤ (w32 (i + 1)) ∧ (w32 (i + 1)) < xl ∧ ai_ok n1 138 12 ∧ f_N_answerBuilt [(2, 138), (0, xf (w32 (i + 1)))] n1 hr1 h1 fun r2 n2 hr2 h2 => ((l_cmp (r1.2) (r2.2)) = 0 → Kw 1548 [some (4, 0), some (2, 0), some (2, 138), some (2, 181), some (0, i), none, none] [] n2 hr2 h2) ∧ ((l_cmp (r1.2) (r2.2)) ≠ 0 → ((0 : Int) = 0 ∨ (0 : Int) = 1) ∧ Q (0, 0) n2 hr2 h2) := by
    have z1_0 : 0 ≤ i + 1 := by omega
    have z1_1 : i + 1 < xl := by omega
    simp only [law_w 1 hi hl hx (by decide) (by decide), z1_0, z1_1, law_o0, law_o1, true_and]
    refine jo_answerBuilt R fun v hr1 h1 w F => ?_
    simp only [z1_0, z1_1, law_o1, true_and]
    refine mf_N_answerBuilt _ _ _ _ _ _ (fun r2 n2 hr2 h2 g => ?_) F
    obtain ⟨rfl, rfl, z1, d1, k1, hk1, R1⟩ := g
    exact ⟨fun _ => hK z1 d1 k1 hr2 h2 hk1 R1, fun y => absurd law_cmp y⟩
  exact H
set_option maxRecDepth 100000 in
theorem law_access : LAW 602 := by
  intro Kw Q xl xf i z d k hr h R hk hi hl hx hf hK
  have H : 0 ≤ (w32 (i + 1)) ∧ (w32 (i + 1)) < xl ∧ ai_ok 182 0 11 ∧ f_B_access [(2, 0), (0, xf (w32 (i + 1)))] 182 hr h fun r1 n1 hr1 h1 => 0 ≤ (w32 (i + 1)) ∧ (w32 (i + 1)) < xl ∧ ai_ok n1 138 12 ∧ f_N_access [(2, 138), (0, xf (w32 (i + 1)))] n1 hr1 h1 fun r2 n2 hr2 h2 => ((r1.2) = (r2.2) → Kw 1548 [some (4, 0), some (2, 0), some (2, 138), some (2, 181), some (0, i), none, none] [] n2 hr2 h2) ∧ ((r1.2) ≠ (r2.2) → ((0 : Int) = 0 ∨ (0 : Int) = 1) ∧ Q (0, 0) n2 hr2 h2) := by
    have z1_0 : 0 ≤ i + 1 := by omega
    have z1_1 : i + 1 < xl := by omega
    simp only [law_w 1 hi hl hx (by decide) (by decide), z1_0, z1_1, law_o0, law_o1, true_and]
    refine jo_access R fun v hr1 h1 w F => ?_
    simp only [z1_0, z1_1, law_o1, true_and]
    refine mf_N_access _ _ _ _ _ _ (fun r2 n2 hr2 h2 g => ?_) F
    obtain ⟨rfl, rfl, z1, d1, k1, hk1, R1⟩ := g
    exact ⟨fun _ => hK z1 d1 k1 hr2 h2 hk1 R1, fun y => absurd rfl y⟩
  exact H
set_option maxRecDepth 100000 in
theorem law_kind : LAW 627 := by
  intro Kw Q xl xf i z d k hr h R hk hi hl hx hf hK
  have H : 0 ≤ (w32 (i + 1)) ∧ (w32 (i + 1)) < xl ∧ ai_ok 182 0 11 ∧ f_B_kind [(2, 0), (0, xf (w32 (i + 1)))] 182 hr h fun r1 n1 hr1 h1 => 0 ≤ (w32 (i + 1)) ∧ (w32 (i + 1)) < xl ∧ ai_ok n1 138 12 ∧ f_N_kind [(2, 138), (0, xf (w32 (i + 1)))] n1 hr1 h1 fun r2 n2 hr2 h2 => ((r1.2) = (r2.2) → Kw 1548 [some (4, 0), some (2, 0), some (2, 138), some (2, 181), some (0, i), none, none] [] n2 hr2 h2) ∧ ((r1.2) ≠ (r2.2) → ((0 : Int) = 0 ∨ (0 : Int) = 1) ∧ Q (0, 0) n2 hr2 h2) := by
    have z1_0 : 0 ≤ i + 1 := by omega
    have z1_1 : i + 1 < xl := by omega
    simp only [law_w 1 hi hl hx (by decide) (by decide), z1_0, z1_1, law_o0, law_o1, true_and]
    refine jo_kind R fun v hr1 h1 w F => ?_
    simp only [z1_0, z1_1, law_o1, true_and]
    refine mf_N_kind _ _ _ _ _ _ (fun r2 n2 hr2 h2 g => ?_) F
    obtain ⟨rfl, rfl, z1, d1, k1, hk1, R1⟩ := g
    exact ⟨fun _ => hK z1 d1 k1 hr2 h2 hk1 R1, fun y => absurd rfl y⟩
  exact H
set_option maxRecDepth 100000 in
theorem law_separator : LAW 652 := by
  intro Kw Q xl xf i z d k hr h R hk hi hl hx hf hK
  have H : 0 ≤ (w32 (i + 1)) ∧ (w32 (i + 1)) < xl ∧ 0 ≤ (w32 (i + 2)) ∧ (w32 (i + 2)) < xl ∧ ai_ok 182 0 11 ∧ f_B_separator [(2, 0), (0, xf (w32 (i + 1))), (0, xf (w32 (i + 2)))] 182 hr h fun r1 n1 hr1 h1 => 0 ≤ (w32 (i + 1)) ∧ (w32 (i + 1)) < xl ∧ 0 ≤ (w32 (i + 2)) ∧ (w32 (i + 2)) < xl ∧ ai_ok n1 138 12 ∧ f_N_separator [(2, 138), (0, xf (w32 (i + 1))), (0, xf (w32 (i + 2)))] n1 hr1 h1 fun r2 n2 hr2 h2 => ((r1.2) = (r2.2) → Kw 1548 [some (4, 0), some (2, 0), some (2, 138), some (2, 181), some (0, i), none, none] [] n2 hr2 h2) ∧ ((r1.2) ≠ (r2.2) → ((0 : Int) = 0 ∨ (0 : Int) = 1) ∧ Q (0, 0) n2 hr2 h2) := by
    have z1_0 : 0 ≤ i + 1 := by omega
    have z1_1 : i + 1 < xl := by omega
    have z2_0 : 0 ≤ i + 2 := by omega
    have z2_1 : i + 2 < xl := by omega
    simp only [law_w 1 hi hl hx (by decide) (by decide), law_w 2 hi hl hx (by decide) (by decide), z1_0, z1_1, z2_0, z2_1, law_o0, law_o1, true_and]
    refine jo_separator R fun v hr1 h1 w F => ?_
    simp only [z1_0, z1_1, z2_0, z2_1, law_o1, true_and]
    refine mf_N_separator _ _ _ _ _ _ (fun r2 n2 hr2 h2 g => ?_) F
    obtain ⟨rfl, rfl, z1, d1, k1, hk1, R1⟩ := g
    exact ⟨fun _ => hK z1 d1 k1 hr2 h2 hk1 R1, fun y => absurd rfl y⟩
  exact H
set_option maxRecDepth 100000 in
theorem law_splitter : LAW 689 := by
  intro Kw Q xl xf i z d k hr h R hk hi hl hx hf hK
  have H : 0 ≤ (w32 (i + 1)) ∧ (w32 (i + 1)) < xl ∧ ai_ok 182 0 11 ∧ f_B_splitter [(2, 0), (0, xf (w32 (i + 1)))] 182 hr h fun r1 n1 hr1 h1 => 0 ≤ (w32 (i + 1)) ∧ (w32 (i + 1)) < xl ∧ ai_ok n1 138 12 ∧ f_N_splitter [(2, 138), (0, xf (w32 (i + 1)))] n1 hr1 h1 fun r2 n2 hr2 h2 => ((r1.2) = (r2.2) → Kw 1548 [some (4, 0), some (2, 0), some (2, 138), some (2, 181), some (0, i), none, none] [] n2 hr2 h2) ∧ ((r1.2) ≠ (r2.2) → ((0 : Int) = 0 ∨ (0 : Int) = 1) ∧ Q (0, 0) n2 hr2 h2) := by
    have z1_0 : 0 ≤ i + 1 := by omega
    have z1_1 : i + 1 < xl := by omega
    simp only [law_w 1 hi hl hx (by decide) (by decide), z1_0, z1_1, law_o0, law_o1, true_and]
    refine jo_splitter R fun v hr1 h1 w F => ?_
    simp only [z1_0, z1_1, law_o1, true_and]
    refine mf_N_splitter _ _ _ _ _ _ (fun r2 n2 hr2 h2 g => ?_) F
    obtain ⟨rfl, rfl, z1, d1, k1, hk1, R1⟩ := g
    exact ⟨fun _ => hK z1 d1 k1 hr2 h2 hk1 R1, fun y => absurd rfl y⟩
  exact H
set_option maxRecDepth 100000 in
theorem law_mark : LAW 714 := by
  intro Kw Q xl xf i z d k hr h R hk hi hl hx hf hK
  have H : 0 ≤ (w32 (i + 1)) ∧ (w32 (i + 1)) < xl ∧ 0 ≤ (w32 (i + 2)) ∧ (w32 (i + 2)) < xl ∧ ai_ok 182 0 11 ∧ f_B_mark [(2, 0), (0, xf (w32 (i + 1))), (0, xf (w32 (i + 2)))] 182 hr h fun r1 n1 hr1 h1 => 0 ≤ (w32 (i + 1)) ∧ (w32 (i + 1)) < xl ∧ 0 ≤ (w32 (i + 2)) ∧ (w32 (i + 2)) < xl ∧ ai_ok n1 138 12 ∧ f_N_mark [(2, 138), (0, xf (w32 (i + 1))), (0, xf (w32 (i + 2)))] n1 hr1 h1 fun r2 n2 hr2 h2 => ((r1.2) = (r2.2) → Kw 1548 [some (4, 0), some (2, 0), some (2, 138), some (2, 181), some (0, i), none, none] [] n2 hr2 h2) ∧ ((r1.2) ≠ (r2.2) → ((0 : Int) = 0 ∨ (0 : Int) = 1) ∧ Q (0, 0) n2 hr2 h2) := by
    have z1_0 : 0 ≤ i + 1 := by omega
    have z1_1 : i + 1 < xl := by omega
    have z2_0 : 0 ≤ i + 2 := by omega
    have z2_1 : i + 2 < xl := by omega
    simp only [law_w 1 hi hl hx (by decide) (by decide), law_w 2 hi hl hx (by decide) (by decide), z1_0, z1_1, z2_0, z2_1, law_o0, law_o1, true_and]
    refine jo_mark R (hf _) fun v hr1 h1 w F => ?_
    simp only [z1_0, z1_1, z2_0, z2_1, law_o1, true_and]
    refine mf_N_mark _ _ _ _ _ _ (fun r2 n2 hr2 h2 g => ?_) F
    obtain ⟨rfl, rfl, z1, d1, k1, hk1, R1⟩ := g
    exact ⟨fun _ => hK z1 d1 k1 hr2 h2 hk1 R1, fun y => absurd rfl y⟩
  exact H
set_option maxRecDepth 100000 in
theorem law_sign : LAW 751 := by
  intro Kw Q xl xf i z d k hr h R hk hi hl hx hf hK
  have H : 0 ≤ (w32 (i + 1)) ∧ (w32 (i + 1)) < xl ∧ ai_ok 182 0 11 ∧ f_B_sign [(2, 0), (0, xf (w32 (i + 1)))] 182 hr h fun r1 n1 hr1 h1 => 0 ≤ (w32 (i + 1)) ∧ (w32 (i + 1)) < xl ∧ ai_ok n1 138 12 ∧ f_N_sign [(2, 138), (0, xf (w32 (i + 1)))] n1 hr1 h1 fun r2 n2 hr2 h2 => ((r1.2) = (r2.2) → Kw 1548 [some (4, 0), some (2, 0), some (2, 138), some (2, 181), some (0, i), none, none] [] n2 hr2 h2) ∧ ((r1.2) ≠ (r2.2) → ((0 : Int) = 0 ∨ (0 : Int) = 1) ∧ Q (0, 0) n2 hr2 h2) := by
    have z1_0 : 0 ≤ i + 1 := by omega
    have z1_1 : i + 1 < xl := by omega
    simp only [law_w 1 hi hl hx (by decide) (by decide), z1_0, z1_1, law_o0, law_o1, true_and]
    refine jo_sign R fun v hr1 h1 w F => ?_
    simp only [z1_0, z1_1, law_o1, true_and]
    refine mf_N_sign _ _ _ _ _ _ (fun r2 n2 hr2 h2 g => ?_) F
    obtain ⟨rfl, rfl, z1, d1, k1, hk1, R1⟩ := g
    exact ⟨fun _ => hK z1 d1 k1 hr2 h2 hk1 R1, fun y => absurd rfl y⟩
  exact H
set_option maxRecDepth 100000 in
theorem law_suite : LAW 776 := by
  intro Kw Q xl xf i z d k hr h R hk hi hl hx hf hK
  have H : 0 ≤ (w32 (i + 1)) ∧ (w32 (i + 1)) < xl ∧ 0 ≤ (w32 (i + 2)) ∧ (w32 (i + 2)) < xl ∧ ai_ok 182 0 11 ∧ f_B_suite [(2, 0), (0, xf (w32 (i + 1))), (0, xf (w32 (i + 2)))] 182 hr h fun r1 n1 hr1 h1 => 0 ≤ (w32 (i + 1)) ∧ (w32 (i + 1)) < xl ∧ 0 ≤ (w32 (i + 2)) ∧ (w32 (i + 2)) < xl ∧ ai_ok n1 138 12 ∧ f_N_suite [(2, 138), (0, xf (w32 (i + 1))), (0, xf (w32 (i + 2)))] n1 hr1 h1 fun r2 n2 hr2 h2 => ((r1.2) = (r2.2) → Kw 1548 [some (4, 0), some (2, 0), some (2, 138), some (2, 181), some (0, i), none, none] [] n2 hr2 h2) ∧ ((r1.2) ≠ (r2.2) → ((0 : Int) = 0 ∨ (0 : Int) = 1) ∧ Q (0, 0) n2 hr2 h2) := by
    have z1_0 : 0 ≤ i + 1 := by omega
    have z1_1 : i + 1 < xl := by omega
    have z2_0 : 0 ≤ i + 2 := by omega
    have z2_1 : i + 2 < xl := by omega
    simp only [law_w 1 hi hl hx (by decide) (by decide), law_w 2 hi hl hx (by decide) (by decide), z1_0, z1_1, z2_0, z2_1, law_o0, law_o1, true_and]
    refine jo_suite R fun v hr1 h1 w F => ?_
    simp only [z1_0, z1_1, z2_0, z2_1, law_o1, true_and]
    refine mf_N_suite _ _ _ _ _ _ (fun r2 n2 hr2 h2 g => ?_) F
    obtain ⟨rfl, rfl, z1, d1, k1, hk1, R1⟩ := g
    exact ⟨fun _ => hK z1 d1 k1 hr2 h2 hk1 R1, fun y => absurd rfl y⟩
  exact H
set_option maxRecDepth 100000 in
theorem law_test : LAW 813 := by
  intro Kw Q xl xf i z d k hr h R hk hi hl hx hf hK
  have H : 0 ≤ (w32 (i + 1)) ∧ (w32 (i + 1)) < xl ∧ 0 ≤ (w32 (i + 2)) ∧ (w32 (i + 2)) < xl ∧ ai_ok 182 0 11 ∧ f_B_test [(2, 0), (0, xf (w32 (i + 1))), (0, xf (w32 (i + 2)))] 182 hr h fun r1 n1 hr1 h1 => 0 ≤ (w32 (i + 1)) ∧ (w32 (i + 1)) < xl ∧ 0 ≤ (w32 (i + 2)) ∧ (w32 (i + 2)) < xl ∧ ai_ok n1 138 12 ∧ f_N_test [(2, 138), (0, xf (w32 (i + 1))), (0, xf (w32 (i + 2)))] n1 hr1 h1 fun r2 n2 hr2 h2 => ((r1.2) = (r2.2) → Kw 1548 [some (4, 0), some (2, 0), some (2, 138), some (2, 181), some (0, i), none, none] [] n2 hr2 h2) ∧ ((r1.2) ≠ (r2.2) → ((0 : Int) = 0 ∨ (0 : Int) = 1) ∧ Q (0, 0) n2 hr2 h2) := by
    have z1_0 : 0 ≤ i + 1 := by omega
    have z1_1 : i + 1 < xl := by omega
    have z2_0 : 0 ≤ i + 2 := by omega
    have z2_1 : i + 2 < xl := by omega
    simp only [law_w 1 hi hl hx (by decide) (by decide), law_w 2 hi hl hx (by decide) (by decide), z1_0, z1_1, z2_0, z2_1, law_o0, law_o1, true_and]
    refine jo_test R (hf _) fun v hr1 h1 w F => ?_
    simp only [z1_0, z1_1, z2_0, z2_1, law_o1, true_and]
    refine mf_N_test _ _ _ _ _ _ (fun r2 n2 hr2 h2 g => ?_) F
    obtain ⟨rfl, rfl, z1, d1, k1, hk1, R1⟩ := g
    exact ⟨fun _ => hK z1 d1 k1 hr2 h2 hk1 R1, fun y => absurd rfl y⟩
  exact H
set_option maxRecDepth 100000 in
theorem law_way : LAW 850 := by
  intro Kw Q xl xf i z d k hr h R hk hi hl hx hf hK
  have H : 0 ≤ (w32 (i + 1)) ∧ (w32 (i + 1)) < xl ∧ 0 ≤ (w32 (i + 2)) ∧ (w32 (i + 2)) < xl ∧ ai_ok 182 0 11 ∧ f_B_way [(2, 0), (0, xf (w32 (i + 1))), (0, xf (w32 (i + 2)))] 182 hr h fun r1 n1 hr1 h1 => 0 ≤ (w32 (i + 1)) ∧ (w32 (i + 1)) < xl ∧ 0 ≤ (w32 (i + 2)) ∧ (w32 (i + 2)) < xl ∧ ai_ok n1 138 12 ∧ f_N_way [(2, 138), (0, xf (w32 (i + 1))), (0, xf (w32 (i + 2)))] n1 hr1 h1 fun r2 n2 hr2 h2 => ((r1.2) = (r2.2) → Kw 1548 [some (4, 0), some (2, 0), some (2, 138), some (2, 181), some (0, i), none, none] [] n2 hr2 h2) ∧ ((r1.2) ≠ (r2.2) → ((0 : Int) = 0 ∨ (0 : Int) = 1) ∧ Q (0, 0) n2 hr2 h2) := by
    have z1_0 : 0 ≤ i + 1 := by omega
    have z1_1 : i + 1 < xl := by omega
    have z2_0 : 0 ≤ i + 2 := by omega
    have z2_1 : i + 2 < xl := by omega
    simp only [law_w 1 hi hl hx (by decide) (by decide), law_w 2 hi hl hx (by decide) (by decide), z1_0, z1_1, z2_0, z2_1, law_o0, law_o1, true_and]
    refine jo_way R fun v hr1 h1 w F => ?_
    simp only [z1_0, z1_1, z2_0, z2_1, law_o1, true_and]
    refine mf_N_way _ _ _ _ _ _ (fun r2 n2 hr2 h2 g => ?_) F
    obtain ⟨rfl, rfl, z1, d1, k1, hk1, R1⟩ := g
    exact ⟨fun _ => hK z1 d1 k1 hr2 h2 hk1 R1, fun y => absurd rfl y⟩
  exact H
set_option maxRecDepth 100000 in
theorem law_verdict : LAW 887 := by
  intro Kw Q xl xf i z d k hr h R hk hi hl hx hf hK
  have H : 0 ≤ (w32 (i + 1)) ∧ (w32 (i + 1)) < xl ∧ 0 ≤ (w32 (i + 2)) ∧ (w32 (i + 2)) < xl ∧ ai_ok 182 0 11 ∧ f_B_verdict [(2, 0), (0, xf (w32 (i + 1))), (0, xf (w32 (i + 2)))] 182 hr h fun r1 n1 hr1 h1 => 0 ≤ (w32 (i + 1)) ∧ (w32 (i + 1)) < xl ∧ 0 ≤ (w32 (i + 2)) ∧ (w32 (i + 2)) < xl ∧ ai_ok n1 138 12 ∧ f_N_verdict [(2, 138), (0, xf (w32 (i + 1))), (0, xf (w32 (i + 2)))] n1 hr1 h1 fun r2 n2 hr2 h2 => ((r1.2) = (r2.2) → Kw 1548 [some (4, 0), some (2, 0), some (2, 138), some (2, 181), some (0, i), none, none] [] n2 hr2 h2) ∧ ((r1.2) ≠ (r2.2) → ((0 : Int) = 0 ∨ (0 : Int) = 1) ∧ Q (0, 0) n2 hr2 h2) := by
    have z1_0 : 0 ≤ i + 1 := by omega
    have z1_1 : i + 1 < xl := by omega
    have z2_0 : 0 ≤ i + 2 := by omega
    have z2_1 : i + 2 < xl := by omega
    simp only [law_w 1 hi hl hx (by decide) (by decide), law_w 2 hi hl hx (by decide) (by decide), z1_0, z1_1, z2_0, z2_1, law_o0, law_o1, true_and]
    refine jo_verdict R fun v hr1 h1 w F => ?_
    simp only [z1_0, z1_1, z2_0, z2_1, law_o1, true_and]
    refine mf_N_verdict _ _ _ _ _ _ (fun r2 n2 hr2 h2 g => ?_) F
    obtain ⟨rfl, rfl, z1, d1, k1, hk1, R1⟩ := g
    exact ⟨fun _ => hK z1 d1 k1 hr2 h2 hk1 R1, fun y => absurd rfl y⟩
  exact H
set_option maxRecDepth 100000 in
theorem law_isEqual : LAW 924 := by
  intro Kw Q xl xf i z d k hr h R hk hi hl hx hf hK
  have H : ai_ok 182 0 11 ∧ f_B_isEqual [(2, 0)] 182 hr h fun r1 n1 hr1 h1 => ai_ok n1 138 12 ∧ f_N_isEqual [(2, 138)] n1 hr1 h1 fun r2 n2 hr2 h2 => ((r1.2) = (r2.2) → Kw 1548 [some (4, 0), some (2, 0), some (2, 138), some (2, 181), some (0, i), none, none] [] n2 hr2 h2) ∧ ((r1.2) ≠ (r2.2) → ((0 : Int) = 0 ∨ (0 : Int) = 1) ∧ Q (0, 0) n2 hr2 h2) := by
    simp only [law_o0, law_o1, true_and]
    refine jo_isEqual R fun v hr1 h1 w F => ?_
    simp only [ law_o1, true_and]
    refine mf_N_isEqual _ _ _ _ _ _ (fun r2 n2 hr2 h2 g => ?_) F
    obtain ⟨rfl, rfl, z1, d1, k1, hk1, R1⟩ := g
    exact ⟨fun _ => hK z1 d1 k1 hr2 h2 hk1 R1, fun y => absurd rfl y⟩
  exact H
set_option maxRecDepth 100000 in
theorem law_witness : LAW 937 := by
  intro Kw Q xl xf i z d k hr h R hk hi hl hx hf hK
  have H : ai_ok 182 0 11 ∧ f_B_witness [(2, 0)] 182 hr h fun r1 n1 hr1 h1 => ai_ok n1 138 12 ∧ f_N_witness [(2, 138)] n1 hr1 h1 fun r2 n2 hr2 h2 => ((r1.2) = (r2.2) → Kw 1548 [some (4, 0), some (2, 0), some (2, 138), some (2, 181), some (0, i), none, none] [] n2 hr2 h2) ∧ ((r1.2) ≠ (r2.2) → ((0 : Int) = 0 ∨ (0 : Int) = 1) ∧ Q (0, 0) n2 hr2 h2) := by
    simp only [law_o0, law_o1, true_and]
    refine jo_witness R fun v hr1 h1 w F => ?_
    simp only [ law_o1, true_and]
    refine mf_N_witness _ _ _ _ _ _ (fun r2 n2 hr2 h2 g => ?_) F
    obtain ⟨rfl, rfl, z1, d1, k1, hk1, R1⟩ := g
    exact ⟨fun _ => hK z1 d1 k1 hr2 h2 hk1 R1, fun y => absurd rfl y⟩
  exact H
set_option maxRecDepth 100000 in
theorem law_enough : LAW 950 := by
  intro Kw Q xl xf i z d k hr h R hk hi hl hx hf hK
  have H : 0 ≤ (w32 (i + 1)) ∧ (w32 (i + 1)) < xl ∧ ai_ok 182 0 11 ∧ f_B_enough [(2, 0), (0, xf (w32 (i + 1)))] 182 hr h fun r1 n1 hr1 h1 => 0 ≤ (w32 (i + 1)) ∧ (w32 (i + 1)) < xl ∧ ai_ok n1 138 12 ∧ f_N_enough [(2, 138), (0, xf (w32 (i + 1)))] n1 hr1 h1 fun r2 n2 hr2 h2 => ((r1.2) = (r2.2) → Kw 1548 [some (4, 0), some (2, 0), some (2, 138), some (2, 181), some (0, i), none, none] [] n2 hr2 h2) ∧ ((r1.2) ≠ (r2.2) → ((0 : Int) = 0 ∨ (0 : Int) = 1) ∧ Q (0, 0) n2 hr2 h2) := by
    have z1_0 : 0 ≤ i + 1 := by omega
    have z1_1 : i + 1 < xl := by omega
    simp only [law_w 1 hi hl hx (by decide) (by decide), z1_0, z1_1, law_o0, law_o1, true_and]
    refine jo_enough R fun v hr1 h1 w F => ?_
    simp only [z1_0, z1_1, law_o1, true_and]
    refine mf_N_enough _ _ _ _ _ _ (fun r2 n2 hr2 h2 g => ?_) F
    obtain ⟨rfl, rfl, z1, d1, k1, hk1, R1⟩ := g
    exact ⟨fun _ => hK z1 d1 k1 hr2 h2 hk1 R1, fun y => absurd rfl y⟩
  exact H
set_option maxRecDepth 100000 in
theorem law_mutants : LAW 975 := by
  intro Kw Q xl xf i z d k hr h R hk hi hl hx hf hK
  have H : 0 ≤ (w32 (i + 1)) ∧ (w32 (i + 1)) < xl ∧ 0 ≤ (w32 (i + 2)) ∧ (w32 (i + 2)) < xl ∧ ai_ok 182 0 11 ∧ f_B_mutants [(2, 0), (0, xf (w32 (i + 1))), (0, xf (w32 (i + 2)))] 182 hr h fun r1 n1 hr1 h1 => 0 ≤ (w32 (i + 1)) ∧ (w32 (i + 1)) < xl ∧ 0 ≤ (w32 (i + 2)) ∧ (w32 (i + 2)) < xl ∧ ai_ok n1 138 12 ∧ f_N_mutants [(2, 138), (0, xf (w32 (i + 1))), (0, xf (w32 (i + 2)))] n1 hr1 h1 fun r2 n2 hr2 h2 => ((r1.2) = (r2.2) → Kw 1548 [some (4, 0), some (2, 0), some (2, 138), some (2, 181), some (0, i), none, none] [] n2 hr2 h2) ∧ ((r1.2) ≠ (r2.2) → ((0 : Int) = 0 ∨ (0 : Int) = 1) ∧ Q (0, 0) n2 hr2 h2) := by
    have z1_0 : 0 ≤ i + 1 := by omega
    have z1_1 : i + 1 < xl := by omega
    have z2_0 : 0 ≤ i + 2 := by omega
    have z2_1 : i + 2 < xl := by omega
    simp only [law_w 1 hi hl hx (by decide) (by decide), law_w 2 hi hl hx (by decide) (by decide), z1_0, z1_1, z2_0, z2_1, law_o0, law_o1, true_and]
    refine jo_mutants R fun v hr1 h1 w F => ?_
    simp only [z1_0, z1_1, z2_0, z2_1, law_o1, true_and]
    refine mf_N_mutants _ _ _ _ _ _ (fun r2 n2 hr2 h2 g => ?_) F
    obtain ⟨rfl, rfl, z1, d1, k1, hk1, R1⟩ := g
    exact ⟨fun _ => hK z1 d1 k1 hr2 h2 hk1 R1, fun y => absurd rfl y⟩
  exact H
set_option maxRecDepth 100000 in
theorem law_mutant : LAW 1012 := by
  intro Kw Q xl xf i z d k hr h R hk hi hl hx hf hK
  have H : 0 ≤ (w32 (i + 1)) ∧ (w32 (i + 1)) < xl ∧ 0 ≤ (w32 (i + 2)) ∧ (w32 (i + 2)) < xl ∧ ai_ok 182 0 11 ∧ f_B_mutant [(2, 0), (0, xf (w32 (i + 1))), (0, xf (w32 (i + 2)))] 182 hr h fun r1 n1 hr1 h1 => 0 ≤ (w32 (i + 1)) ∧ (w32 (i + 1)) < xl ∧ 0 ≤ (w32 (i + 2)) ∧ (w32 (i + 2)) < xl ∧ ai_ok n1 138 12 ∧ f_N_mutant [(2, 138), (0, xf (w32 (i + 1))), (0, xf (w32 (i + 2)))] n1 hr1 h1 fun r2 n2 hr2 h2 => ((r1.2) = (r2.2) → Kw 1548 [some (4, 0), some (2, 0), some (2, 138), some (2, 181), some (0, i), none, none] [] n2 hr2 h2) ∧ ((r1.2) ≠ (r2.2) → ((0 : Int) = 0 ∨ (0 : Int) = 1) ∧ Q (0, 0) n2 hr2 h2) := by
    have z1_0 : 0 ≤ i + 1 := by omega
    have z1_1 : i + 1 < xl := by omega
    have z2_0 : 0 ≤ i + 2 := by omega
    have z2_1 : i + 2 < xl := by omega
    simp only [law_w 1 hi hl hx (by decide) (by decide), law_w 2 hi hl hx (by decide) (by decide), z1_0, z1_1, z2_0, z2_1, law_o0, law_o1, true_and]
    refine jo_mutant R fun v hr1 h1 w F => ?_
    simp only [z1_0, z1_1, z2_0, z2_1, law_o1, true_and]
    refine mf_N_mutant _ _ _ _ _ _ (fun r2 n2 hr2 h2 g => ?_) F
    obtain ⟨rfl, rfl, z1, d1, k1, hk1, R1⟩ := g
    exact ⟨fun _ => hK z1 d1 k1 hr2 h2 hk1 R1, fun y => absurd rfl y⟩
  exact H
set_option maxRecDepth 100000 in
theorem law_parts : LAW 1049 := by
  intro Kw Q xl xf i z d k hr h R hk hi hl hx hf hK
  have H : 0 ≤ (w32 (i + 1)) ∧ (w32 (i + 1)) < xl ∧ 0 ≤ (w32 (i + 2)) ∧ (w32 (i + 2)) < xl ∧ ai_ok 182 0 11 ∧ f_B_parts [(2, 0), (0, xf (w32 (i + 1))), (0, xf (w32 (i + 2)))] 182 hr h fun r1 n1 hr1 h1 => 0 ≤ (w32 (i + 1)) ∧ (w32 (i + 1)) < xl ∧ 0 ≤ (w32 (i + 2)) ∧ (w32 (i + 2)) < xl ∧ ai_ok n1 138 12 ∧ f_N_parts [(2, 138), (0, xf (w32 (i + 1))), (0, xf (w32 (i + 2)))] n1 hr1 h1 fun r2 n2 hr2 h2 => ((r1.2) = (r2.2) → Kw 1548 [some (4, 0), some (2, 0), some (2, 138), some (2, 181), some (0, i), none, none] [] n2 hr2 h2) ∧ ((r1.2) ≠ (r2.2) → ((0 : Int) = 0 ∨ (0 : Int) = 1) ∧ Q (0, 0) n2 hr2 h2) := by
    have z1_0 : 0 ≤ i + 1 := by omega
    have z1_1 : i + 1 < xl := by omega
    have z2_0 : 0 ≤ i + 2 := by omega
    have z2_1 : i + 2 < xl := by omega
    simp only [law_w 1 hi hl hx (by decide) (by decide), law_w 2 hi hl hx (by decide) (by decide), z1_0, z1_1, z2_0, z2_1, law_o0, law_o1, true_and]
    refine jo_parts R fun v hr1 h1 w F => ?_
    simp only [z1_0, z1_1, z2_0, z2_1, law_o1, true_and]
    refine mf_N_parts _ _ _ _ _ _ (fun r2 n2 hr2 h2 g => ?_) F
    obtain ⟨rfl, rfl, z1, d1, k1, hk1, R1⟩ := g
    exact ⟨fun _ => hK z1 d1 k1 hr2 h2 hk1 R1, fun y => absurd rfl y⟩
  exact H
set_option maxRecDepth 100000 in
theorem law_small : LAW 1086 := by
  intro Kw Q xl xf i z d k hr h R hk hi hl hx hf hK
  have H : 0 ≤ (w32 (i + 1)) ∧ (w32 (i + 1)) < xl ∧ 0 ≤ (w32 (i + 2)) ∧ (w32 (i + 2)) < xl ∧ 0 ≤ (w32 (i + 3)) ∧ (w32 (i + 3)) < xl ∧ ai_ok 182 0 11 ∧ f_B_small [(2, 0), (0, xf (w32 (i + 1))), (0, xf (w32 (i + 2))), (0, xf (w32 (i + 3)))] 182 hr h fun r1 n1 hr1 h1 => 0 ≤ (w32 (i + 1)) ∧ (w32 (i + 1)) < xl ∧ 0 ≤ (w32 (i + 2)) ∧ (w32 (i + 2)) < xl ∧ 0 ≤ (w32 (i + 3)) ∧ (w32 (i + 3)) < xl ∧ ai_ok n1 138 12 ∧ f_N_small [(2, 138), (0, xf (w32 (i + 1))), (0, xf (w32 (i + 2))), (0, xf (w32 (i + 3)))] n1 hr1 h1 fun r2 n2 hr2 h2 => ((r1.2) = (r2.2) → Kw 1548 [some (4, 0), some (2, 0), some (2, 138), some (2, 181), some (0, i), none, none] [] n2 hr2 h2) ∧ ((r1.2) ≠ (r2.2) → ((0 : Int) = 0 ∨ (0 : Int) = 1) ∧ Q (0, 0) n2 hr2 h2) := by
    have z1_0 : 0 ≤ i + 1 := by omega
    have z1_1 : i + 1 < xl := by omega
    have z2_0 : 0 ≤ i + 2 := by omega
    have z2_1 : i + 2 < xl := by omega
    have z3_0 : 0 ≤ i + 3 := by omega
    have z3_1 : i + 3 < xl := by omega
    simp only [law_w 1 hi hl hx (by decide) (by decide), law_w 2 hi hl hx (by decide) (by decide), law_w 3 hi hl hx (by decide) (by decide), z1_0, z1_1, z2_0, z2_1, z3_0, z3_1, law_o0, law_o1, true_and]
    refine jo_small R fun v hr1 h1 w F => ?_
    simp only [z1_0, z1_1, z2_0, z2_1, z3_0, z3_1, law_o1, true_and]
    refine mf_N_small _ _ _ _ _ _ (fun r2 n2 hr2 h2 g => ?_) F
    obtain ⟨rfl, rfl, z1, d1, k1, hk1, R1⟩ := g
    exact ⟨fun _ => hK z1 d1 k1 hr2 h2 hk1 R1, fun y => absurd rfl y⟩
  exact H
set_option maxRecDepth 100000 in
theorem law_tree : LAW 1135 := by
  intro Kw Q xl xf i z d k hr h R hk hi hl hx hf hK
  have H : 0 ≤ (w32 (i + 1)) ∧ (w32 (i + 1)) < xl ∧ 0 ≤ (w32 (i + 2)) ∧ (w32 (i + 2)) < xl ∧ ai_ok 182 0 11 ∧ f_B_tree [(2, 0), (0, xf (w32 (i + 1))), (0, xf (w32 (i + 2)))] 182 hr h fun r1 n1 hr1 h1 => 0 ≤ (w32 (i + 1)) ∧ (w32 (i + 1)) < xl ∧ 0 ≤ (w32 (i + 2)) ∧ (w32 (i + 2)) < xl ∧ ai_ok n1 138 12 ∧ f_N_tree [(2, 138), (0, xf (w32 (i + 1))), (0, xf (w32 (i + 2)))] n1 hr1 h1 fun r2 n2 hr2 h2 => ((r1.2) = (r2.2) → Kw 1548 [some (4, 0), some (2, 0), some (2, 138), some (2, 181), some (0, i), none, none] [] n2 hr2 h2) ∧ ((r1.2) ≠ (r2.2) → ((0 : Int) = 0 ∨ (0 : Int) = 1) ∧ Q (0, 0) n2 hr2 h2) := by
    have z1_0 : 0 ≤ i + 1 := by omega
    have z1_1 : i + 1 < xl := by omega
    have z2_0 : 0 ≤ i + 2 := by omega
    have z2_1 : i + 2 < xl := by omega
    simp only [law_w 1 hi hl hx (by decide) (by decide), law_w 2 hi hl hx (by decide) (by decide), z1_0, z1_1, z2_0, z2_1, law_o0, law_o1, true_and]
    refine jo_tree R fun v hr1 h1 w F => ?_
    simp only [z1_0, z1_1, z2_0, z2_1, law_o1, true_and]
    refine mf_N_tree _ _ _ _ _ _ (fun r2 n2 hr2 h2 g => ?_) F
    obtain ⟨rfl, rfl, z1, d1, k1, hk1, R1⟩ := g
    exact ⟨fun _ => hK z1 d1 k1 hr2 h2 hk1 R1, fun y => absurd rfl y⟩
  exact H
set_option maxRecDepth 100000 in
theorem law_word : LAW 1172 := by
  intro Kw Q xl xf i z d k hr h R hk hi hl hx hf hK
  have H : 0 ≤ (w32 (i + 1)) ∧ (w32 (i + 1)) < xl ∧ ai_ok 182 0 11 ∧ f_B_word [(2, 0), (0, xf (w32 (i + 1)))] 182 hr h fun r1 n1 hr1 h1 => 0 ≤ (w32 (i + 1)) ∧ (w32 (i + 1)) < xl ∧ ai_ok n1 138 12 ∧ f_N_word [(2, 138), (0, xf (w32 (i + 1)))] n1 hr1 h1 fun r2 n2 hr2 h2 => ((r1.2) = (r2.2) → Kw 1548 [some (4, 0), some (2, 0), some (2, 138), some (2, 181), some (0, i), none, none] [] n2 hr2 h2) ∧ ((r1.2) ≠ (r2.2) → ((0 : Int) = 0 ∨ (0 : Int) = 1) ∧ Q (0, 0) n2 hr2 h2) := by
    have z1_0 : 0 ≤ i + 1 := by omega
    have z1_1 : i + 1 < xl := by omega
    simp only [law_w 1 hi hl hx (by decide) (by decide), z1_0, z1_1, law_o0, law_o1, true_and]
    refine jo_word R fun v hr1 h1 w F => ?_
    simp only [z1_0, z1_1, law_o1, true_and]
    refine mf_N_word _ _ _ _ _ _ (fun r2 n2 hr2 h2 g => ?_) F
    obtain ⟨rfl, rfl, z1, d1, k1, hk1, R1⟩ := g
    exact ⟨fun _ => hK z1 d1 k1 hr2 h2 hk1 R1, fun y => absurd rfl y⟩
  exact H
set_option maxRecDepth 100000 in
theorem law_covered : LAW 1197 := by
  intro Kw Q xl xf i z d k hr h R hk hi hl hx hf hK
  have H : 0 ≤ (w32 (i + 1)) ∧ (w32 (i + 1)) < xl ∧ ai_ok 182 0 11 ∧ f_B_covered [(2, 0), (0, xf (w32 (i + 1)))] 182 hr h fun r1 n1 hr1 h1 => 0 ≤ (w32 (i + 1)) ∧ (w32 (i + 1)) < xl ∧ ai_ok n1 138 12 ∧ f_N_covered [(2, 138), (0, xf (w32 (i + 1)))] n1 hr1 h1 fun r2 n2 hr2 h2 => ((r1.2) = (r2.2) → Kw 1548 [some (4, 0), some (2, 0), some (2, 138), some (2, 181), some (0, i), none, none] [] n2 hr2 h2) ∧ ((r1.2) ≠ (r2.2) → ((0 : Int) = 0 ∨ (0 : Int) = 1) ∧ Q (0, 0) n2 hr2 h2) := by
    have z1_0 : 0 ≤ i + 1 := by omega
    have z1_1 : i + 1 < xl := by omega
    simp only [law_w 1 hi hl hx (by decide) (by decide), z1_0, z1_1, law_o0, law_o1, true_and]
    refine jo_covered R fun v hr1 h1 w F => ?_
    simp only [z1_0, z1_1, law_o1, true_and]
    refine mf_N_covered _ _ _ _ _ _ (fun r2 n2 hr2 h2 g => ?_) F
    obtain ⟨rfl, rfl, z1, d1, k1, hk1, R1⟩ := g
    exact ⟨fun _ => hK z1 d1 k1 hr2 h2 hk1 R1, fun y => absurd rfl y⟩
  exact H
set_option maxRecDepth 100000 in
theorem law_ask : LAW 1222 := by
  intro Kw Q xl xf i z d k hr h R hk hi hl hx hf hK
  have H : 0 ≤ (w32 (i + 1)) ∧ (w32 (i + 1)) < xl ∧ ai_ok 182 0 11 ∧ f_B_ask [(2, 0), (0, xf (w32 (i + 1)))] 182 hr h fun r1 n1 hr1 h1 => 0 ≤ (w32 (i + 1)) ∧ (w32 (i + 1)) < xl ∧ ai_ok n1 138 12 ∧ f_N_ask [(2, 138), (0, xf (w32 (i + 1)))] n1 hr1 h1 fun r2 n2 hr2 h2 => ((l_cmp (r1.2) (r2.2)) = 0 → Kw 1548 [some (4, 0), some (2, 0), some (2, 138), some (2, 181), some (0, i), none, none] [] n2 hr2 h2) ∧ ((l_cmp (r1.2) (r2.2)) ≠ 0 → ((0 : Int) = 0 ∨ (0 : Int) = 1) ∧ Q (0, 0) n2 hr2 h2) := by
    have z1_0 : 0 ≤ i + 1 := by omega
    have z1_1 : i + 1 < xl := by omega
    simp only [law_w 1 hi hl hx (by decide) (by decide), z1_0, z1_1, law_o0, law_o1, true_and]
    refine jo_ask R fun v hr1 h1 w F => ?_
    simp only [z1_0, z1_1, law_o1, true_and]
    refine mf_N_ask _ _ _ _ _ _ (fun r2 n2 hr2 h2 g => ?_) F
    obtain ⟨rfl, rfl, z1, d1, k1, hk1, R1⟩ := g
    exact ⟨fun _ => hK z1 d1 k1 hr2 h2 hk1 R1, fun y => absurd law_cmp y⟩
  exact H
set_option maxRecDepth 100000 in
theorem law_forget : LAW 1248 := by
  intro Kw Q xl xf i z d k hr h R hk hi hl hx hf hK
  have H : ai_ok 182 0 11 ∧ f_B_forget [(2, 0)] 182 hr h fun r1 n1 hr1 h1 => ai_ok n1 138 12 ∧ f_N_forget [(2, 138)] n1 hr1 h1 fun r2 n2 hr2 h2 => ((r1.2) = (r2.2) → Kw 1548 [some (4, 0), some (2, 0), some (2, 138), some (2, 181), some (0, i), none, none] [] n2 hr2 h2) ∧ ((r1.2) ≠ (r2.2) → ((0 : Int) = 0 ∨ (0 : Int) = 1) ∧ Q (0, 0) n2 hr2 h2) := by
    simp only [law_o0, law_o1, true_and]
    refine jo_forget R fun v hr1 h1 w F => ?_
    simp only [ law_o1, true_and]
    refine mf_N_forget _ _ _ _ _ _ (fun r2 n2 hr2 h2 g => ?_) F
    obtain ⟨rfl, rfl, z1, d1, k1, hk1, R1⟩ := g
    exact ⟨fun _ => hK z1 d1 k1 hr2 h2 hk1 R1, fun y => absurd rfl y⟩
  exact H
set_option maxRecDepth 100000 in
theorem law_suspects : LAW 1261 := by
  intro Kw Q xl xf i z d k hr h R hk hi hl hx hf hK
  have H : 0 ≤ (w32 (i + 1)) ∧ (w32 (i + 1)) < xl ∧ ai_ok 182 0 11 ∧ f_B_suspects [(2, 0), (0, xf (w32 (i + 1)))] 182 hr h fun r1 n1 hr1 h1 => 0 ≤ (w32 (i + 1)) ∧ (w32 (i + 1)) < xl ∧ ai_ok n1 138 12 ∧ f_N_suspects [(2, 138), (0, xf (w32 (i + 1)))] n1 hr1 h1 fun r2 n2 hr2 h2 => ((r1.2) = (r2.2) → Kw 1548 [some (4, 0), some (2, 0), some (2, 138), some (2, 181), some (0, i), none, none] [] n2 hr2 h2) ∧ ((r1.2) ≠ (r2.2) → ((0 : Int) = 0 ∨ (0 : Int) = 1) ∧ Q (0, 0) n2 hr2 h2) := by
    have z1_0 : 0 ≤ i + 1 := by omega
    have z1_1 : i + 1 < xl := by omega
    simp only [law_w 1 hi hl hx (by decide) (by decide), z1_0, z1_1, law_o0, law_o1, true_and]
    refine jo_suspects R fun v hr1 h1 w F => ?_
    simp only [z1_0, z1_1, law_o1, true_and]
    refine mf_N_suspects _ _ _ _ _ _ (fun r2 n2 hr2 h2 g => ?_) F
    obtain ⟨rfl, rfl, z1, d1, k1, hk1, R1⟩ := g
    exact ⟨fun _ => hK z1 d1 k1 hr2 h2 hk1 R1, fun y => absurd rfl y⟩
  exact H
set_option maxRecDepth 100000 in
theorem law_suspect : LAW 1286 := by
  intro Kw Q xl xf i z d k hr h R hk hi hl hx hf hK
  have H : 0 ≤ (w32 (i + 1)) ∧ (w32 (i + 1)) < xl ∧ ai_ok 182 0 11 ∧ f_B_suspect [(2, 0), (0, xf (w32 (i + 1)))] 182 hr h fun r1 n1 hr1 h1 => 0 ≤ (w32 (i + 1)) ∧ (w32 (i + 1)) < xl ∧ ai_ok n1 138 12 ∧ f_N_suspect [(2, 138), (0, xf (w32 (i + 1)))] n1 hr1 h1 fun r2 n2 hr2 h2 => ((r1.2) = (r2.2) → Kw 1548 [some (4, 0), some (2, 0), some (2, 138), some (2, 181), some (0, i), none, none] [] n2 hr2 h2) ∧ ((r1.2) ≠ (r2.2) → ((0 : Int) = 0 ∨ (0 : Int) = 1) ∧ Q (0, 0) n2 hr2 h2) := by
    have z1_0 : 0 ≤ i + 1 := by omega
    have z1_1 : i + 1 < xl := by omega
    simp only [law_w 1 hi hl hx (by decide) (by decide), z1_0, z1_1, law_o0, law_o1, true_and]
    refine jo_suspect R fun v hr1 h1 w F => ?_
    simp only [z1_0, z1_1, law_o1, true_and]
    refine mf_N_suspect _ _ _ _ _ _ (fun r2 n2 hr2 h2 g => ?_) F
    obtain ⟨rfl, rfl, z1, d1, k1, hk1, R1⟩ := g
    exact ⟨fun _ => hK z1 d1 k1 hr2 h2 hk1 R1, fun y => absurd rfl y⟩
  exact H
set_option maxRecDepth 100000 in
theorem law_next : LAW 1311 := by
  intro Kw Q xl xf i z d k hr h R hk hi hl hx hf hK
  have H : ai_ok 182 0 11 ∧ f_B_next [(2, 0)] 182 hr h fun r1 n1 hr1 h1 => ai_ok n1 138 12 ∧ f_N_next [(2, 138)] n1 hr1 h1 fun r2 n2 hr2 h2 => ((r1.2) = (r2.2) → Kw 1548 [some (4, 0), some (2, 0), some (2, 138), some (2, 181), some (0, i), none, none] [] n2 hr2 h2) ∧ ((r1.2) ≠ (r2.2) → ((0 : Int) = 0 ∨ (0 : Int) = 1) ∧ Q (0, 0) n2 hr2 h2) := by
    simp only [law_o0, law_o1, true_and]
    refine jo_next R hk fun v hr1 h1 w F => ?_
    simp only [ law_o1, true_and]
    refine mf_N_next _ _ _ _ _ _ (fun r2 n2 hr2 h2 g => ?_) F
    obtain ⟨rfl, rfl, z1, d1, k1, hk1, R1⟩ := g
    exact ⟨fun _ => hK z1 d1 k1 hr2 h2 hk1 R1, fun y => absurd rfl y⟩
  exact H
set_option maxRecDepth 100000 in
theorem law_chance : LAW 1324 := by
  intro Kw Q xl xf i z d k hr h R hk hi hl hx hf hK
  have H : 0 ≤ (w32 (i + 1)) ∧ (w32 (i + 1)) < xl ∧ 0 ≤ (w32 (i + 2)) ∧ (w32 (i + 2)) < xl ∧ ai_ok 182 0 11 ∧ f_B_chance [(2, 0), (0, xf (w32 (i + 1))), (0, xf (w32 (i + 2)))] 182 hr h fun r1 n1 hr1 h1 => 0 ≤ (w32 (i + 1)) ∧ (w32 (i + 1)) < xl ∧ 0 ≤ (w32 (i + 2)) ∧ (w32 (i + 2)) < xl ∧ ai_ok n1 138 12 ∧ f_N_chance [(2, 138), (0, xf (w32 (i + 1))), (0, xf (w32 (i + 2)))] n1 hr1 h1 fun r2 n2 hr2 h2 => ((r1.2) = (r2.2) → Kw 1548 [some (4, 0), some (2, 0), some (2, 138), some (2, 181), some (0, i), none, none] [] n2 hr2 h2) ∧ ((r1.2) ≠ (r2.2) → ((0 : Int) = 0 ∨ (0 : Int) = 1) ∧ Q (0, 0) n2 hr2 h2) := by
    have z1_0 : 0 ≤ i + 1 := by omega
    have z1_1 : i + 1 < xl := by omega
    have z2_0 : 0 ≤ i + 2 := by omega
    have z2_1 : i + 2 < xl := by omega
    simp only [law_w 1 hi hl hx (by decide) (by decide), law_w 2 hi hl hx (by decide) (by decide), z1_0, z1_1, z2_0, z2_1, law_o0, law_o1, true_and]
    refine jo_chance R fun v hr1 h1 w F => ?_
    simp only [z1_0, z1_1, z2_0, z2_1, law_o1, true_and]
    refine mf_N_chance _ _ _ _ _ _ (fun r2 n2 hr2 h2 g => ?_) F
    obtain ⟨rfl, rfl, z1, d1, k1, hk1, R1⟩ := g
    exact ⟨fun _ => hK z1 d1 k1 hr2 h2 hk1 R1, fun y => absurd rfl y⟩
  exact H
set_option maxRecDepth 100000 in
theorem law_twist : LAW 1361 := by
  intro Kw Q xl xf i z d k hr h R hk hi hl hx hf hK
  have H : 0 ≤ (w32 (i + 1)) ∧ (w32 (i + 1)) < xl ∧ 0 ≤ (w32 (i + 2)) ∧ (w32 (i + 2)) < xl ∧ 0 ≤ (w32 (i + 3)) ∧ (w32 (i + 3)) < xl ∧ 0 ≤ (w32 (i + 4)) ∧ (w32 (i + 4)) < xl ∧ ai_ok 182 0 11 ∧ f_B_twist [(2, 0), (0, xf (w32 (i + 1))), (0, xf (w32 (i + 2))), (0, xf (w32 (i + 3))), (0, xf (w32 (i + 4)))] 182 hr h fun r1 n1 hr1 h1 => 0 ≤ (w32 (i + 1)) ∧ (w32 (i + 1)) < xl ∧ 0 ≤ (w32 (i + 2)) ∧ (w32 (i + 2)) < xl ∧ 0 ≤ (w32 (i + 3)) ∧ (w32 (i + 3)) < xl ∧ 0 ≤ (w32 (i + 4)) ∧ (w32 (i + 4)) < xl ∧ ai_ok n1 138 12 ∧ f_N_twist [(2, 138), (0, xf (w32 (i + 1))), (0, xf (w32 (i + 2))), (0, xf (w32 (i + 3))), (0, xf (w32 (i + 4)))] n1 hr1 h1 fun r2 n2 hr2 h2 => ((r1.2) = (r2.2) → Kw 1548 [some (4, 0), some (2, 0), some (2, 138), some (2, 181), some (0, i), none, none] [] n2 hr2 h2) ∧ ((r1.2) ≠ (r2.2) → ((0 : Int) = 0 ∨ (0 : Int) = 1) ∧ Q (0, 0) n2 hr2 h2) := by
    have z1_0 : 0 ≤ i + 1 := by omega
    have z1_1 : i + 1 < xl := by omega
    have z2_0 : 0 ≤ i + 2 := by omega
    have z2_1 : i + 2 < xl := by omega
    have z3_0 : 0 ≤ i + 3 := by omega
    have z3_1 : i + 3 < xl := by omega
    have z4_0 : 0 ≤ i + 4 := by omega
    have z4_1 : i + 4 < xl := by omega
    simp only [law_w 1 hi hl hx (by decide) (by decide), law_w 2 hi hl hx (by decide) (by decide), law_w 3 hi hl hx (by decide) (by decide), law_w 4 hi hl hx (by decide) (by decide), z1_0, z1_1, z2_0, z2_1, z3_0, z3_1, z4_0, z4_1, law_o0, law_o1, true_and]
    refine jo_twist R fun v hr1 h1 w F => ?_
    simp only [z1_0, z1_1, z2_0, z2_1, z3_0, z3_1, z4_0, z4_1, law_o1, true_and]
    refine mf_N_twist _ _ _ _ _ _ (fun r2 n2 hr2 h2 g => ?_) F
    obtain ⟨rfl, rfl, z1, d1, k1, hk1, R1⟩ := g
    exact ⟨fun _ => hK z1 d1 k1 hr2 h2 hk1 R1, fun y => absurd rfl y⟩
  exact H
set_option maxRecDepth 100000 in
theorem law_mend : LAW 1422 := by
  intro Kw Q xl xf i z d k hr h R hk hi hl hx hf hK
  have H : 0 ≤ (w32 (i + 1)) ∧ (w32 (i + 1)) < xl ∧ 0 ≤ (w32 (i + 2)) ∧ (w32 (i + 2)) < xl ∧ ai_ok 182 0 11 ∧ f_B_mend [(2, 0), (0, xf (w32 (i + 1))), (0, xf (w32 (i + 2)))] 182 hr h fun r1 n1 hr1 h1 => 0 ≤ (w32 (i + 1)) ∧ (w32 (i + 1)) < xl ∧ 0 ≤ (w32 (i + 2)) ∧ (w32 (i + 2)) < xl ∧ ai_ok n1 138 12 ∧ f_N_mend [(2, 138), (0, xf (w32 (i + 1))), (0, xf (w32 (i + 2)))] n1 hr1 h1 fun r2 n2 hr2 h2 => ((r1.2) = (r2.2) → Kw 1548 [some (4, 0), some (2, 0), some (2, 138), some (2, 181), some (0, i), none, none] [] n2 hr2 h2) ∧ ((r1.2) ≠ (r2.2) → ((0 : Int) = 0 ∨ (0 : Int) = 1) ∧ Q (0, 0) n2 hr2 h2) := by
    have z1_0 : 0 ≤ i + 1 := by omega
    have z1_1 : i + 1 < xl := by omega
    have z2_0 : 0 ≤ i + 2 := by omega
    have z2_1 : i + 2 < xl := by omega
    simp only [law_w 1 hi hl hx (by decide) (by decide), law_w 2 hi hl hx (by decide) (by decide), z1_0, z1_1, z2_0, z2_1, law_o0, law_o1, true_and]
    refine jo_mend R fun v hr1 h1 w F => ?_
    simp only [z1_0, z1_1, z2_0, z2_1, law_o1, true_and]
    refine mf_N_mend _ _ _ _ _ _ (fun r2 n2 hr2 h2 g => ?_) F
    obtain ⟨rfl, rfl, z1, d1, k1, hk1, R1⟩ := g
    exact ⟨fun _ => hK z1 d1 k1 hr2 h2 hk1 R1, fun y => absurd rfl y⟩
  exact H
set_option maxRecDepth 100000 in
theorem law_mutate : LAW 1459 := by
  intro Kw Q xl xf i z d k hr h R hk hi hl hx hf hK
  have H : 0 ≤ (w32 (i + 1)) ∧ (w32 (i + 1)) < xl ∧ ai_ok 182 0 11 ∧ f_B_mutate [(2, 0), (0, xf (w32 (i + 1)))] 182 hr h fun r1 n1 hr1 h1 => 0 ≤ (w32 (i + 1)) ∧ (w32 (i + 1)) < xl ∧ ai_ok n1 138 12 ∧ f_N_mutate [(2, 138), (0, xf (w32 (i + 1)))] n1 hr1 h1 fun r2 n2 hr2 h2 => ((r1.2) = (r2.2) → Kw 1548 [some (4, 0), some (2, 0), some (2, 138), some (2, 181), some (0, i), none, none] [] n2 hr2 h2) ∧ ((r1.2) ≠ (r2.2) → ((0 : Int) = 0 ∨ (0 : Int) = 1) ∧ Q (0, 0) n2 hr2 h2) := by
    have z1_0 : 0 ≤ i + 1 := by omega
    have z1_1 : i + 1 < xl := by omega
    simp only [law_w 1 hi hl hx (by decide) (by decide), z1_0, z1_1, law_o0, law_o1, true_and]
    refine jo_mutate R fun v hr1 h1 w F => ?_
    simp only [z1_0, z1_1, law_o1, true_and]
    refine mf_N_mutate _ _ _ _ _ _ (fun r2 n2 hr2 h2 g => ?_) F
    obtain ⟨rfl, rfl, z1, d1, k1, hk1, R1⟩ := g
    exact ⟨fun _ => hK z1 d1 k1 hr2 h2 hk1 R1, fun y => absurd rfl y⟩
  exact H
set_option maxRecDepth 100000 in
theorem law_undo : LAW 1484 := by
  intro Kw Q xl xf i z d k hr h R hk hi hl hx hf hK
  have H : ai_ok 182 0 11 ∧ f_B_undo [(2, 0)] 182 hr h fun r1 n1 hr1 h1 => ai_ok n1 138 12 ∧ f_N_undo [(2, 138)] n1 hr1 h1 fun r2 n2 hr2 h2 => ((r1.2) = (r2.2) → Kw 1548 [some (4, 0), some (2, 0), some (2, 138), some (2, 181), some (0, i), none, none] [] n2 hr2 h2) ∧ ((r1.2) ≠ (r2.2) → ((0 : Int) = 0 ∨ (0 : Int) = 1) ∧ Q (0, 0) n2 hr2 h2) := by
    simp only [law_o0, law_o1, true_and]
    refine jo_undo R fun v hr1 h1 w F => ?_
    simp only [ law_o1, true_and]
    refine mf_N_undo _ _ _ _ _ _ (fun r2 n2 hr2 h2 g => ?_) F
    obtain ⟨rfl, rfl, z1, d1, k1, hk1, R1⟩ := g
    exact ⟨fun _ => hK z1 d1 k1 hr2 h2 hk1 R1, fun y => absurd rfl y⟩
  exact H
set_option maxRecDepth 100000 in
theorem law_keep : LAW 1497 := by
  intro Kw Q xl xf i z d k hr h R hk hi hl hx hf hK
  have H : ai_ok 182 0 11 ∧ f_B_keep [(2, 0)] 182 hr h fun r1 n1 hr1 h1 => ai_ok n1 138 12 ∧ f_N_keep [(2, 138)] n1 hr1 h1 fun r2 n2 hr2 h2 => ((r1.2) = (r2.2) → Kw 1548 [some (4, 0), some (2, 0), some (2, 138), some (2, 181), some (0, i), none, none] [] n2 hr2 h2) ∧ ((r1.2) ≠ (r2.2) → ((0 : Int) = 0 ∨ (0 : Int) = 1) ∧ Q (0, 0) n2 hr2 h2) := by
    simp only [law_o0, law_o1, true_and]
    refine jo_keep R fun v hr1 h1 w F => ?_
    simp only [ law_o1, true_and]
    refine mf_N_keep _ _ _ _ _ _ (fun r2 n2 hr2 h2 g => ?_) F
    obtain ⟨rfl, rfl, z1, d1, k1, hk1, R1⟩ := g
    exact ⟨fun _ => hK z1 d1 k1 hr2 h2 hk1 R1, fun y => absurd rfl y⟩
  exact H
set_option maxRecDepth 100000 in
theorem law_back : LAW 1510 := by
  intro Kw Q xl xf i z d k hr h R hk hi hl hx hf hK
  have H : ai_ok 182 0 11 ∧ f_B_back [(2, 0)] 182 hr h fun r1 n1 hr1 h1 => ai_ok n1 138 12 ∧ f_N_back [(2, 138)] n1 hr1 h1 fun r2 n2 hr2 h2 => ((r1.2) = (r2.2) → Kw 1548 [some (4, 0), some (2, 0), some (2, 138), some (2, 181), some (0, i), none, none] [] n2 hr2 h2) ∧ ((r1.2) ≠ (r2.2) → ((0 : Int) = 0 ∨ (0 : Int) = 1) ∧ Q (0, 0) n2 hr2 h2) := by
    simp only [law_o0, law_o1, true_and]
    refine jo_back R fun v hr1 h1 w F => ?_
    simp only [ law_o1, true_and]
    refine mf_N_back _ _ _ _ _ _ (fun r2 n2 hr2 h2 g => ?_) F
    obtain ⟨rfl, rfl, z1, d1, k1, hk1, R1⟩ := g
    exact ⟨fun _ => hK z1 d1 k1 hr2 h2 hk1 R1, fun y => absurd rfl y⟩
  exact H
set_option maxRecDepth 100000 in
theorem law_count : LAW 1523 := by
  intro Kw Q xl xf i z d k hr h R hk hi hl hx hf hK
  have H : 0 ≤ (w32 (i + 1)) ∧ (w32 (i + 1)) < xl ∧ ai_ok 182 0 11 ∧ f_B_count [(2, 0), (0, xf (w32 (i + 1)))] 182 hr h fun r1 n1 hr1 h1 => 0 ≤ (w32 (i + 1)) ∧ (w32 (i + 1)) < xl ∧ ai_ok n1 138 12 ∧ f_N_count [(2, 138), (0, xf (w32 (i + 1)))] n1 hr1 h1 fun r2 n2 hr2 h2 => ((r1.2) = (r2.2) → Kw 1548 [some (4, 0), some (2, 0), some (2, 138), some (2, 181), some (0, i), none, none] [] n2 hr2 h2) ∧ ((r1.2) ≠ (r2.2) → ((0 : Int) = 0 ∨ (0 : Int) = 1) ∧ Q (0, 0) n2 hr2 h2) := by
    have z1_0 : 0 ≤ i + 1 := by omega
    have z1_1 : i + 1 < xl := by omega
    simp only [law_w 1 hi hl hx (by decide) (by decide), z1_0, z1_1, law_o0, law_o1, true_and]
    refine jo_count R fun v hr1 h1 w F => ?_
    simp only [z1_0, z1_1, law_o1, true_and]
    refine mf_N_count _ _ _ _ _ _ (fun r2 n2 hr2 h2 g => ?_) F
    obtain ⟨rfl, rfl, z1, d1, k1, hk1, R1⟩ := g
    exact ⟨fun _ => hK z1 d1 k1 hr2 h2 hk1 R1, fun y => absurd rfl y⟩
  exact H
abbrev lawCases : List Nat := [224, 297, 322, 347, 452, 501, 539, 576, 602, 627, 652, 689, 714, 751, 776, 813, 850, 887, 924, 937, 950, 975, 1012, 1049, 1086, 1135, 1172, 1197, 1222, 1248, 1261, 1286, 1311, 1324, 1361, 1422, 1459, 1484, 1497, 1510, 1523]
theorem law_all : ∀ c ∈ lawCases, LAW c := List.forall_mem_cons.mpr ⟨law_feed, List.forall_mem_cons.mpr ⟨law_text, List.forall_mem_cons.mpr ⟨law_fault, List.forall_mem_cons.mpr ⟨law_named, List.forall_mem_cons.mpr ⟨law_built, List.forall_mem_cons.mpr ⟨law_answer, List.forall_mem_cons.mpr ⟨law_leads, List.forall_mem_cons.mpr ⟨law_answerBuilt, List.forall_mem_cons.mpr ⟨law_access, List.forall_mem_cons.mpr ⟨law_kind, List.forall_mem_cons.mpr ⟨law_separator, List.forall_mem_cons.mpr ⟨law_splitter, List.forall_mem_cons.mpr ⟨law_mark, List.forall_mem_cons.mpr ⟨law_sign, List.forall_mem_cons.mpr ⟨law_suite, List.forall_mem_cons.mpr ⟨law_test, List.forall_mem_cons.mpr ⟨law_way, List.forall_mem_cons.mpr ⟨law_verdict, List.forall_mem_cons.mpr ⟨law_isEqual, List.forall_mem_cons.mpr ⟨law_witness, List.forall_mem_cons.mpr ⟨law_enough, List.forall_mem_cons.mpr ⟨law_mutants, List.forall_mem_cons.mpr ⟨law_mutant, List.forall_mem_cons.mpr ⟨law_parts, List.forall_mem_cons.mpr ⟨law_small, List.forall_mem_cons.mpr ⟨law_tree, List.forall_mem_cons.mpr ⟨law_word, List.forall_mem_cons.mpr ⟨law_covered, List.forall_mem_cons.mpr ⟨law_ask, List.forall_mem_cons.mpr ⟨law_forget, List.forall_mem_cons.mpr ⟨law_suspects, List.forall_mem_cons.mpr ⟨law_suspect, List.forall_mem_cons.mpr ⟨law_next, List.forall_mem_cons.mpr ⟨law_chance, List.forall_mem_cons.mpr ⟨law_twist, List.forall_mem_cons.mpr ⟨law_mend, List.forall_mem_cons.mpr ⟨law_mutate, List.forall_mem_cons.mpr ⟨law_undo, List.forall_mem_cons.mpr ⟨law_keep, List.forall_mem_cons.mpr ⟨law_back, List.forall_mem_cons.mpr ⟨law_count, (fun c hc => nomatch hc)⟩⟩⟩⟩⟩⟩⟩⟩⟩⟩⟩⟩⟩⟩⟩⟩⟩⟩⟩⟩⟩⟩⟩⟩⟩⟩⟩⟩⟩⟩⟩⟩⟩⟩⟩⟩⟩⟩⟩⟩⟩
