-- deps: 18 19 20 21 22 23 24 25 26 27 28 29 30 31 32 33 34 35 36 37 38 39 40 41 42 43 44 45 46 47 48 49 50 51 52 53 54 55 56 57 58 59 60 61 62 63 64 65 66 67 68 69 70 71 72 73 74 75 76 77 78 79 80 81 82 83 84 85 86 87 88 89 90 91 92 93 94 95 96 97 98 99 9A 9B 9C 9D 9E 9F 9G 9H 9I 9J 9K 9L 9M 9N 9O 9P 9Q 9R 9S 9T 9U 9V 9W 9X 9Y 9Z A0 A1 A2 A3 A4 A5 A6 A7 B0 B1 B2 B3 B4 B5 B6 B7 B8 B9 BA
/-! both sides hold the same -/
def REL (z : ST) (d : Int) (k n : Nat) (hr h : HP) : Prop := (CW n hr ∧ NW n hr) ∧ ((d = 3 ∨ d = 8) ∧ hr 0 12 = d ∧ hr 1 1 = 11 - d) ∧ zOK z ∧ CAL z d k h ∧ NAL z h
/-- what a call leaves: the same answer, and both hold the same again -/
def JP (v : AV) (k n : Nat) : RP := fun r2 n2 hr2 h2 => r2 = v ∧ n2 = n ∧ ∃ (z1 : ST) (d1 : Int) (k1 : Nat), k1 ≤ k + 1 ∧ REL z1 d1 k1 n2 hr2 h2
/-- what a call of the reference leaves alone -/
def gNx (h h1 : HP) : Prop := (∀ c : Int, (c < 138 ∨ (139 ≤ c ∧ c ≤ 146) ∨ c = 176 ∨ c = 177 ∨ c = 180 ∨ 181 ≤ c) → h1 c = h c) ∧ (h1 138 2 = h 138 2 ∧ h1 138 18 = h 138 18 ∧ h1 138 19 = h 138 19 ∧ h1 138 61 = h 138 61 ∧ h1 138 67 = h 138 67 ∧ h1 138 68 = h 138 68 ∧ h1 138 69 = h 138 69) ∧ (∀ a : Int, 24 ≤ a → a < 48 → h1 147 a = h 147 a ∧ h1 148 a = h 148 a) ∧ (NO h → NO h1)
section
variable {n : Nat} {hr h h1 : HP} {z z1 : ST} {d d1 : Int} {k k1 : Nat} {P : RP} {v : AV}
abbrev psG : List Int := [2, 18, 19, 61, 67, 68, 69]
theorem psG_e {cs : List Int} {ps : List (Int × Int)} (e : EX cs ps h h1) (a : (138 : Int) ∉ cs) (b : ∀ j ∈ psG, ((138 : Int), j) ∉ ps) : h1 138 2 = h 138 2 ∧ h1 138 18 = h 138 18 ∧ h1 138 19 = h 138 19 ∧ h1 138 61 = h 138 61 ∧ h1 138 67 = h 138 67 ∧ h1 138 68 = h 138 68 ∧ h1 138 69 = h 138 69 :=
  ⟨e _ _ a (b _ (by decide)), e _ _ a (b _ (by decide)), e _ _ a (b _ (by decide)), e _ _ a (b _ (by decide)), e _ _ a (b _ (by decide)), e _ _ a (b _ (by decide)), e _ _ a (b _ (by decide))⟩
theorem gNx_c {cs : List Int} {ps : List (Int × Int)} (e : EX cs ps h h1) (a : ∀ c ∈ cs, (147 ≤ c ∧ c ≤ 175) ∨ c = 178 ∨ c = 179) (b : ∀ q ∈ ps, q.1 = 138 ∧ q.2 ∉ psG) : (∀ c : Int, (c < 138 ∨ (139 ≤ c ∧ c ≤ 146) ∨ c = 176 ∨ c = 177 ∨ c = 180 ∨ 181 ≤ c) → h1 c = h c) ∧ (h1 138 2 = h 138 2 ∧ h1 138 18 = h 138 18 ∧ h1 138 19 = h 138 19 ∧ h1 138 61 = h 138 61 ∧ h1 138 67 = h 138 67 ∧ h1 138 68 = h 138 68 ∧ h1 138 69 = h 138 69) := by
  refine ⟨fun c hc => EX_fn e (fun q => by have := a c q; omega) (fun q => ?_), psG_e e (fun q => by have := a 138 q; omega) (fun j hj q => (b _ q).2 hj)⟩
  obtain ⟨p, hp, ep⟩ := List.mem_map.mp q
  have := (b p hp).1
  omega
theorem gNx_e {cs : List Int} {ps : List (Int × Int)} (e : EX cs ps h h1) (a : ∀ c ∈ cs, (149 ≤ c ∧ c ≤ 175) ∨ c = 178 ∨ c = 179) (b : ∀ q ∈ ps, q.1 = 138 ∧ q.2 ∉ psG) : gNx h h1 := by
  have F := gNx_c e (fun c hc => by have := a c hc; omega) b
  have k : ∀ c : Int, c = 147 ∨ c = 148 → h1 c = h c := fun c hc => EX_fn e (fun q => by have := a c q; omega) (fun q => by
    obtain ⟨p, hp, ep⟩ := List.mem_map.mp q
    have := (b p hp).1
    omega)
  exact ⟨F.1, F.2, fun x _ _ => by rw [k 147 (Or.inl rfl), k 148 (Or.inr rfl)]; exact ⟨rfl, rfl⟩, fun q => by unfold NO; rw [k 147 (Or.inl rfl), k 148 (Or.inr rfl)]; exact q⟩
theorem gNx_1 {v : Int} : gNx h (ai_up h 138 0 v) := gNx_e (cs := []) (ps := [(138, 0)]) (EX_upp EX_rf (by decide)) (by decide) (by decide)
theorem xsQ_b (p : Nat) : ∀ c ∈ xsQ p, 149 ≤ c ∧ c ≤ 175 := match p with
  | 0 => by decide
  | 1 => by decide
  | 2 => by decide
  | _ + 3 => by show ∀ c ∈ [173, 174, (175 : Int)], 149 ≤ c ∧ c ≤ 175; decide
theorem gNx_Q {p : Nat} (f : fxQ p h h1) : gNx h h1 := by
  have F := gNx_c f.1 (fun c hc => by
    rcases List.mem_append.mp hc with y | y
    · simp only [List.mem_cons, List.not_mem_nil, or_false] at y; omega
    · have := xsQ_b p c y; omega) (by decide)
  exact ⟨F.1, F.2, fun a _ a2 => f.2.1 a a2, f.2.2⟩
theorem gNx_Z (f : fxZ h h1) : gNx h h1 := by
  have F := gNx_c f.1 (by decide) (by decide)
  exact ⟨F.1, F.2, fun a _ a2 => f.2.1 a a2, f.2.2⟩
theorem gNx_S (f : fxS h h1) : gNx h h1 := gNx_e f (by decide) (by decide)
theorem gNx_U (f : fxU h h1) : gNx h h1 := gNx_e f (by decide) (by decide)
theorem N3_e {s : DS} {cs : List Int} {ps : List (Int × Int)} (H : N3 s h) (e : EX cs ps h h1) (a : ∀ c ∈ [171, 172, 164, 165, 166, 167, (175 : Int)], c ∉ cs ∧ c ∉ ps.map Prod.fst) : N3 s h1 :=
  N3_fr H (EX_fn e (a _ (by decide)).1 (a _ (by decide)).2) (EX_fn e (a _ (by decide)).1 (a _ (by decide)).2) (EX_fn e (a _ (by decide)).1 (a _ (by decide)).2) (EX_fn e (a _ (by decide)).1 (a _ (by decide)).2) (EX_fn e (a _ (by decide)).1 (a _ (by decide)).2) (EX_fn e (a _ (by decide)).1 (a _ (by decide)).2) (EX_fn e (a _ (by decide)).1 (a _ (by decide)).2)
theorem N1_G {T : Int → Int} {L : Nat} {f p : Int} {s : DS} (H : N1 T L f p s h) (g : gNx h h1) : N1 T L f p s h1 := N1_fr H g.2.1.1 g.2.1.2.1 g.2.1.2.2.1 fun c a b => g.1 c (by omega)
theorem N4_G {t o : Int → Int} (H : N4 t o h) (g : gNx h h1) : N4 t o h1 := by
  refine ⟨⟨fun a a1 a2 => ?_, fun a a1 a2 => ?_⟩, g.2.2.2 H.2⟩
  · show h1 147 (24 + a) = _
    rw [(g.2.2.1 (24 + a) (by omega) (by omega)).1]; exact H.1.1 a a1 a2
  · show h1 148 (24 + a) = _
    rw [(g.2.2.1 (24 + a) (by omega) (by omega)).2]; exact H.1.2 a a1 a2
theorem NAL_G (N : NAL z h) (g : gNx h h1) (b : N2 (zS z) h1) (c : N3 (zS z) h1) : NAL z h1 := by
  obtain ⟨a1, a2, a3, a4, a5, a6, a7⟩ := N
  have e := g.2.1
  exact ⟨N1_G a1 g, b, c, N4_G a4 g, N5_fr a5 e.2.2.2.1 (g.1 _ (by decide)) (g.1 _ (by decide)), N6_fr a6 e.2.2.2.2.1 (g.1 _ (by decide)), N7_fr a7 e.2.2.2.2.2.2 e.2.2.2.2.2.1 (g.1 _ (by decide)) (g.1 _ (by decide)) (g.1 _ (by decide))⟩
/-- after the class: the reference holds what it held -/
theorem REL_c (R : REL z d k n hr h) (e : ∀ c : Int, 138 ≤ c → h1 c = h c) (C : CAL z d k1 h1) : REL z d k1 n hr h1 := ⟨R.1, R.2.1, R.2.2.1, C, NAL_fr R.2.2.2.2 fun c p _ => e c p⟩
theorem REL_c2 (R : REL z d k n hr h) (e : ∀ c : Int, 102 ≤ c → h1 c = h c) (C : CAL z d k1 h1) : REL z d k1 n hr h1 := REL_c R (fun c hc => e c (by omega)) C
theorem REL_c8 (R : REL z d k n hr h) (e : ∀ c : Int, 118 ≤ c → h1 c = h c) (C : CAL z d k1 h1) : REL z d k1 n hr h1 := REL_c R (fun c hc => e c (by omega)) C
theorem JP_q (R : REL z d k1 n hr h) (hk : k1 ≤ k + 1) (g : gNx h h1) (b : N2 (zS z) h1) (c : N3 (zS z) h1) : JP v k n v n hr h1 := by
  obtain ⟨w, ⟨hd, x⟩, O, C, N⟩ := R
  exact ⟨rfl, rfl, z, d, k1, hk, w, ⟨hd, x⟩, O, CAL_fr hd C (fun c _ p => g.1 c (by omega)), NAL_G N g b c⟩
theorem JP_1 (R : REL z d k n hr h) : JP v k n v n hr (ai_up h 138 0 0) := JP_q R (by omega) gNx_1 (NB_1 R.2.2.2.2.2.1) (N3_e (cs := []) (ps := [(138, 0)]) R.2.2.2.2.2.2.1 (EX_upp EX_rf (by decide)) (by decide))
/-- what is to be shown of a call behind the class's answer -/
abbrev NXT (P : RP) (k n : Nat) (F : SP) (A : List AV) : Prop := ∀ (v : AV) (hr1 h1 : HP), CW n hr1 ∧ NW n hr1 → F A n hr1 h1 (JP v k n) → P v n hr1 h1
/-! calls that only look -/
theorem jo_fault {w : Int} (R : REL z d k n hr h) (hP : NXT P k n f_N_fault [(2, 138), (0, w)]) : f_B_fault [(2, 0), (0, w)] n hr h P := by
  obtain ⟨⟨V, W⟩, -, O, C, N⟩ := id R
  refine sp_B_fault V C (hP _ _ _ ⟨V, W⟩ (sp_N_fault W ?_))
  rw [N.1.2.2.1, N.1.2.2.2.1]
  exact JP_1 R
theorem jo_named {w : Int} (R : REL z d k n hr h) (hP : NXT P k n f_N_named [(2, 138), (0, w)]) : f_B_named [(2, 0), (0, w)] n hr h P := by
  obtain ⟨⟨V, W⟩, ⟨hd, rt, rd⟩, O, C, N⟩ := id R
  exact sp_B_named V hd rt O C (hP _ _ _ ⟨V, W⟩ (sp_N_named W O.2.1 N.1.2.2.2.2 (JP_1 R)))
theorem jo_built {p i w : Int} (R : REL z d k n hr h) (hP : NXT P k n f_N_built [(2, 138), (0, p), (0, i), (0, w)]) : f_B_built [(2, 0), (0, p), (0, i), (0, w)] n hr h P := by
  obtain ⟨⟨V, W⟩, -, O, C, N⟩ := id R
  obtain ⟨o1, o2, o3, o4, o5⟩ := O.2.1.1
  have D := N.1.2.2.2.2.1
  refine sp_B_built V O C (fun q => hP _ _ _ ⟨V, W⟩ (sp_N_built W (I := ((dJ (zS z)).length)) (N := (dN (zS z)).length) o5 (by omega) D.2.2.1 D.2.1 N.2.2.2.1.1 (fun _ => JP_1 R) (fun y => absurd y q))) (fun q => hP _ _ _ ⟨V, W⟩ (sp_N_built W (I := ((dJ (zS z)).length)) (N := (dN (zS z)).length) o5 (by omega) D.2.2.1 D.2.1 N.2.2.2.1.1 (fun y => absurd q y) (fun _ => JP_1 R)))
theorem jo_answer {s w : Int} (R : REL z d k n hr h) (hP : NXT P k n f_N_answer [(2, 138), (0, s), (0, w)]) : f_B_answer [(2, 0), (0, s), (0, w)] n hr h P := by
  obtain ⟨⟨V, W⟩, -, O, C, N⟩ := id R
  refine sp_B_answer V O C (fun q q2 => hP _ _ _ ⟨V, W⟩ (sp_N_answer W (TV_s O.2.1) N.2.1.1 (fun _ _ => JP_1 R) (fun y => absurd ⟨q, q2⟩ y))) (fun q => hP _ _ _ ⟨V, W⟩ (sp_N_answer W (TV_s O.2.1) N.2.1.1 (fun y y2 => absurd ⟨y, y2⟩ q) (fun _ => JP_1 R)))
theorem jo_leads {s w : Int} (R : REL z d k n hr h) (hP : NXT P k n f_N_leads [(2, 138), (0, s), (0, w)]) : f_B_leads [(2, 0), (0, s), (0, w)] n hr h P := by
  obtain ⟨⟨V, W⟩, -, O, C, N⟩ := id R
  refine sp_B_leads V O C (fun q q2 => hP _ _ _ ⟨V, W⟩ (sp_N_leads W (TV_s O.2.1) N.2.1.1 (fun _ _ => JP_1 R) (fun y => absurd ⟨q, q2⟩ y))) (fun q => hP _ _ _ ⟨V, W⟩ (sp_N_leads W (TV_s O.2.1) N.2.1.1 (fun y y2 => absurd ⟨y, y2⟩ q) (fun _ => JP_1 R)))
theorem jo_answerBuilt {w : Int} (R : REL z d k n hr h) (hP : NXT P k n f_N_answerBuilt [(2, 138), (0, w)]) : f_B_answerBuilt [(2, 0), (0, w)] n hr h P := by
  obtain ⟨⟨V, W⟩, -, O, C, N⟩ := id R
  have hI := (TV_s O.2.1).2.1
  have X := N.2.1.1
  have M := N.2.2.2.1.1
  refine sp_B_answerBuilt V O C (fun q q2 => hP _ _ _ ⟨V, W⟩ (sp_N_answerBuilt W hI X.1 X.2.1 O.2.2.1.1 M.1 M.2 (fun _ _ => JP_1 R) (fun y => absurd ⟨q, q2⟩ y))) (fun q => hP _ _ _ ⟨V, W⟩ (sp_N_answerBuilt W hI X.1 X.2.1 O.2.2.1.1 M.1 M.2 (fun y y2 => absurd ⟨y, y2⟩ q) (fun _ => JP_1 R)))
theorem jo_access {s : Int} (R : REL z d k n hr h) (hP : NXT P k n f_N_access [(2, 138), (0, s)]) : f_B_access [(2, 0), (0, s)] n hr h P := by
  obtain ⟨⟨V, W⟩, -, O, C, N⟩ := id R
  refine sp_B_access V O C (fun q => hP _ _ _ ⟨V, W⟩ (sp_N_access W (TV_s O.2.1) N.2.1.1 N.2.1.2.1 (fun _ => JP_1 R) (fun y => absurd q y))) (fun q => hP _ _ _ ⟨V, W⟩ (sp_N_access W (TV_s O.2.1) N.2.1.1 N.2.1.2.1 (fun y => absurd y q) (fun _ => JP_1 R)))
theorem jo_kind {s : Int} (R : REL z d k n hr h) (hP : NXT P k n f_N_kind [(2, 138), (0, s)]) : f_B_kind [(2, 0), (0, s)] n hr h P := by
  obtain ⟨⟨V, W⟩, -, O, C, N⟩ := id R
  refine sp_B_kind V O C (fun q => hP _ _ _ ⟨V, W⟩ (sp_N_kind W (TV_s O.2.1) N.2.1.1 N.2.1.2.1 (fun _ => JP_1 R) (fun y => absurd q y))) (fun q => hP _ _ _ ⟨V, W⟩ (sp_N_kind W (TV_s O.2.1) N.2.1.1 N.2.1.2.1 (fun y => absurd y q) (fun _ => JP_1 R)))
theorem jo_separator {s x : Int} (R : REL z d k n hr h) (hP : NXT P k n f_N_separator [(2, 138), (0, s), (0, x)]) : f_B_separator [(2, 0), (0, s), (0, x)] n hr h P := by
  obtain ⟨⟨V, W⟩, -, O, C, N⟩ := id R
  refine sp_B_separator V O C (fun q q2 => hP _ _ _ ⟨V, W⟩ (sp_N_separator W (TV_s O.2.1) N.2.1.1 N.2.1.2.1 (fun _ _ => JP_1 R) (fun y => absurd ⟨q, q2⟩ y))) (fun q => hP _ _ _ ⟨V, W⟩ (sp_N_separator W (TV_s O.2.1) N.2.1.1 N.2.1.2.1 (fun y y2 => absurd ⟨y, y2⟩ q) (fun _ => JP_1 R)))
theorem SPL_z {I S : Nat} {t o : Int → Int} (hS : S = 0) : ∀ k, spS I S t o k = []
  | 0 => rfl
  | k + 1 => by rw [spS_no (fun q => by omega)]; exact SPL_z hS k
theorem SPL_6 {S I : Nat} {t o : Int → Int} (T : TV S I t o) : (SPL I S t o).length ≤ 6 := by
  obtain ⟨hS, hI, hm, hc, -⟩ := T
  by_cases q : S = 0
  · unfold SPL
    rw [SPL_z q, if_pos rfl]
    split <;> decide
  · have := (SPL_ok hS (by omega) hI hm hc).1
    omega
theorem jo_splitter {x : Int} (R : REL z d k n hr h) (hP : NXT P k n f_N_splitter [(2, 138), (0, x)]) : f_B_splitter [(2, 0), (0, x)] n hr h P := by
  obtain ⟨⟨V, W⟩, -, O, C, N⟩ := id R
  have T := TV_s O.2.1
  have hl := SPL_6 T
  refine sp_B_splitter V O C (fun q => hP _ _ _ ⟨V, W⟩ (sp_N_splitter W T N.2.1.1 N.2.1.2.1 hl (fun _ => JP_1 R) (fun j w a b => by omega) (fun a b => by omega))) (fun j w a b c => hP _ _ _ ⟨V, W⟩ (sp_N_splitter W T N.2.1.1 N.2.1.2.1 hl (fun y => by omega) (fun j2 w2 a2 b2 c2 => ?_) (fun a2 b2 => ?_))) (fun a b => hP _ _ _ ⟨V, W⟩ (sp_N_splitter W T N.2.1.1 N.2.1.2.1 hl (fun y => by omega) (fun j w a2 b2 c2 => ?_) (fun _ _ => JP_1 R))) hl
  · have ej : j2 = j := by omega
    rw [ej, c] at c2
    cases c2
    exact JP_1 R
  · have := (List.getElem?_eq_some_iff.mp c).1
    omega
  · have := (List.getElem?_eq_some_iff.mp c2).1
    omega
theorem jo_mark {s x : Int} (R : REL z d k n hr h) (hx : x ≤ 2147483647) (hP : NXT P k n f_N_mark [(2, 138), (0, s), (0, x)]) : f_B_mark [(2, 0), (0, s), (0, x)] n hr h P := by
  obtain ⟨⟨V, W⟩, -, O, C, N⟩ := id R
  refine sp_B_mark V O C (fun q q2 => hP _ _ _ ⟨V, W⟩ (sp_N_mark W (TV_s O.2.1) N.2.1.1 N.2.1.2.1 (fun _ _ => JP_1 R) (fun y => absurd ⟨q, q2⟩ y) hx)) (fun q => hP _ _ _ ⟨V, W⟩ (sp_N_mark W (TV_s O.2.1) N.2.1.1 N.2.1.2.1 (fun y y2 => absurd ⟨y, y2⟩ q) (fun _ => JP_1 R) hx))
end
