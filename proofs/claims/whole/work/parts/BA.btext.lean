-- deps: 18 19 20 21 22 23 24 25 26 27 28 29 30 31 32 33 34 35 36 37 38 39 40 41 42 43 44 45 46 47 48 49 50 51 52 53 54 55 56 57 58 59 60 61 62 63 64 65 66 67 68 69 70 71 72 73 74 75 76 77 78 79 80 81 82 83 84 85 86 87 88 89 90 91 92 93 94 95 96 97 98 99 9A 9B 9C 9D 9E 9F 9G 9H 9I 9J 9K 9L 9M 9N 9O 9P 9Q 9R 9S 9T 9U 9V 9W 9X 9Y 9Z A0 A1 A2 A3 A4 A5 A6 A7 B0 B1 B2 B3 B4 B5 B6 B7 B8 B9
/-! the class's own methods: text -/
/-- a text was not taken -/
def zsE (z : ST) (f p : Int) : ST := (zT z, 0, f, p, zS z, zt z, zo z, zG z, zU z, zI z, zit z, zio z, ziG z)
/-- a text was taken -/
def zsT (z : ST) (s : DS) : ST := (zT z, 0, 0, -1, s, tB s, oB s, [], [], 0, zit z, zio z, ziG z)
/-- the draft and what is told change places -/
def hrS (hr : HP) (d : Int) : HP := ai_up (ai_up hr 0 12 (11 - d)) 1 1 d
section
variable {Q : RP} {n : Nat} {hr h : HP} {z : ST} {d : Int} {k : Nat} {s : DS}
theorem zOK_E {f p : Int} (O : zOK z) : zOK (zsE z f p) := ⟨Nat.zero_le _, O.2⟩
theorem zOK_T (o : dOK s) : zOK (zsT z s) := ⟨Nat.zero_le _, o, ⟨mok_B o, clo_B o⟩, ⟨Nat.zero_le _, fun p hp => by cases hp⟩, ⟨Nat.zero_le _, fun p hp => by cases hp⟩, Or.inl rfl⟩
set_option maxRecDepth 100000 in
theorem cw_sw : ∀ q ∈ cw_tbl, ¬ (q.1 = 0 ∧ q.2.1 = 12) ∧ ¬ (q.1 = 1 ∧ q.2.1 = 1) := by decide
set_option maxRecDepth 100000 in
theorem nw_sw : ∀ q ∈ nw_tbl, ¬ (q.1 = 0 ∧ q.2.1 = 12) ∧ ¬ (q.1 = 1 ∧ q.2.1 = 1) := by decide
theorem CW_sw (V : CW n hr) : CW n (hrS hr d) := ⟨V.1, fun q hq => by
  have := cw_sw q hq
  unfold hrS
  rw [up_oth (by omega), up_oth (by omega)]
  exact V.2 q hq⟩
theorem NW_sw (V : NW n hr) : NW n (hrS hr d) := ⟨V.1, fun q hq => by
  have := nw_sw q hq
  unfold hrS
  rw [up_oth (by omega), up_oth (by omega)]
  exact V.2 q hq⟩
theorem sp_B_text {x : Int} (V : CW n hr) (hd : d = 3 ∨ d = 8) (rt : hr 0 12 = d) (rd : hr 1 1 = 11 - d) (O : zOK z) (C : CAL z d k h) (h0 : ¬ (0 ≤ x ∧ x ≤ (zL z : Int)) → Q (0, -2) n hr h) (hE : (0 ≤ x ∧ x ≤ (zL z : Int)) → ∀ f p, pText (zT z) x.toNat 701 ds0 0 = .inl (f, p) → ∀ h1, (∀ c : Int, 138 ≤ c → h1 c = h c) → CAL (zsE z f p) d k h1 → Q (0, -1) n hr h1) (hK : (0 ≤ x ∧ x ≤ (zL z : Int)) → ∀ s, pText (zT z) x.toNat 701 ds0 0 = .inr s → dOK s → ∀ h1, (∀ c : Int, 138 ≤ c → h1 c = h c) → CAL (zsT z s) (11 - d) k h1 → Q (0, (dL s : Int)) n (hrS hr d) h1) : f_B_text [(2, 0), (0, x)] n hr h Q := by
  have zl := O.1
  have C' := C
  obtain ⟨a1, a2, a3, a4, a5, a6, a7, a8, a9, a10⟩ := C
  obtain ⟨T, c2, c3, c4, D⟩ := a1
  apply e_B_text
  simp only [ok_0 V.1, cr_0_0 V, ok_1 V.1, c2, true_and]
  refine ⟨fun q => (by first | exact q_at rfl (h0 (by omega)) | exact (h0 (by omega))), fun q => ⟨fun q2 => ?_, fun q2 => (by first | exact q_at rfl (h0 (by omega)) | exact (h0 (by omega)))⟩⟩
  obtain ⟨x, rfl⟩ := Int.eq_ofNat_of_zero_le q
  rw [Int.toNat_natCast] at hE hK
  refine sp_R_reads (d := 11 - d) V (by omega) rd T (by omega) (fun f p hp h1 e1 g2 ⟨g3, g4⟩ => ⟨fun y => absurd rfl y, fun _ => ?_⟩) (fun s hs o h1 e1 g2 g3 g4 D1 => ⟨fun _ => ?_, fun y => absurd y (by decide)⟩)
  · have E : ∀ c : Int, (c = 0 ∨ c = 2 ∨ c = d ∨ c = d + 1 ∨ c = d + 2 ∨ c = d + 3 ∨ c = d + 4 ∨ 12 < c) → h1 c = h c := fun c hc => EX_fn e1 (by simp; omega) (by simp; omega)
    have B : CAL (zsE z f p) d k h1 := by
      refine ⟨⟨TPc_fr T (E 2 (by omega)), g2, g3, g4, DFT_fr D (E d (by omega)) (E (d + 1) (by omega)) (E (d + 2) (by omega)) (E (d + 3) (by omega)) (E (d + 4) (by omega))⟩, C2_fr a2 fun c p q => E c (by omega), C3_fr a3 fun c p q => E c (by omega), C4_fr a4 (E _ (by omega)) (E _ (by omega)) (E _ (by omega)) (E _ (by omega)) (E _ (by omega)) (E _ (by omega)), C5_fr a5 (by rw [E 35 (by omega)]) fun c p q => E c (by omega), C6_fr a6 fun c p q => E c (by omega), C7_fr a7 fun c p q => E c (by omega), C8_fr a8 (E _ (by omega)) (E _ (by omega)) (E _ (by omega)), C9_fr a9 (by rw [E 0 (by omega)]) (by rw [E 0 (by omega)]) (E _ (by omega)), C10_fr a10 (by rw [E 0 (by omega)]) fun c p q => E c (by omega)⟩
    exact (by first | exact q_at rfl (hE ⟨by omega, q2⟩ f p hp h1 (fun c hc => E c (by omega)) B) | exact (hE ⟨by omega, q2⟩ f p hp h1 (fun c hc => E c (by omega)) B))
  · have E : ∀ c : Int, (c = 0 ∨ c = 2 ∨ 12 < c) → h1 c = h c := fun c hc => EX_fn e1 (by simp; omega) (by simp; omega)
    have eh : (ai_up (ai_up hr 0 12 (hr (hr 0 0) 1)) ((ai_up hr 0 12 (hr (hr 0 0) 1)) 0 0) 1 (hr 0 12)) = hrS hr d := by
      unfold hrS
      rw [up_oth (by omega), (cr_0_0 V).1, rd, rt]
    have e00 : (ai_up hr 0 12 (hr (hr 0 0) 1)) 0 0 = 1 := by rw [up_oth (by omega), (cr_0_0 V).1]
    rw [eh, e00]
    simp only [ok_0 V.1, cr_0_0 V, ok_1 V.1, true_and]
    have r2 : hrS hr d 0 12 = 11 - d := by unfold hrS; rw [up_oth (by omega), up_same]
    have H := hK ⟨by omega, q2⟩ s hs o
    refine sp_B_settle (s := s) (k := k) (it := zit z) (io := zio z) (iG := ziG z) (CW_sw V) (by omega) r2 o D1 ?_ ?_ ?_ ?_ fun h2 e2 e3 b2 b3 b4 b5 b6 b7 b8 b9 b10 => ?_
    · have := a4.1
      unfold SC at this ⊢
      rw [E 27 (by decide), E 30 (by decide)]; exact this
    · have := a6.2.2.2.2.2
      unfold CTl at this ⊢
      rw [E 104 (by decide), E 105 (by decide)]; exact this
    · have := a8.2.2.1
      unfold STB at this ⊢
      rw [E 121 (by decide), E 131 (by decide)]; exact this
    · rw [E 121 (by decide)]; exact a8.2.2.2
    · have Df : DFT (11 - d) s h2 := DFT_fr D1 (e3 _ (by omega) (by omega)) (e3 _ (by omega) (by omega)) (e3 _ (by omega) (by omega)) (e3 _ (by omega) (by omega)) (e3 _ (by omega) (by omega))
      have B : CAL (zsT z s) (11 - d) k h2 := ⟨⟨TPc_fr T ((e3 2 (by decide) (by decide)).trans (E 2 (by omega))), (by rw [e3 1 (by decide) (by decide)]; exact g2), (by rw [e3 1 (by decide) (by decide)]; exact g3), (by rw [e3 1 (by decide) (by decide)]; exact g4), Df⟩, b2, b3, b4, b5, b6, b7, b8, b9, b10⟩
      have H2 := H h2 (fun c hc => (e2 c hc).trans (E c (by omega))) B
      have e9 : h2 (11 - d) 9 = (dL s : Int) := Df.2.1.2.2.1
      rw [r2, e9]
      exact ⟨ok_0 V.1, (prow_of V (d := 11 - d) (by omega)).1, (by first | exact q_at rfl (H2) | exact (H2))⟩
end
