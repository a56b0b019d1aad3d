-- deps: 18 19 21 34 C0 C1 C2 C3 B0 BB
/-! 'arc' of the class, which throws, and the law's own, which catches: contracts over the machine itself -/
def k_B_arc : ai_C := [
  [(0, .aload_n 0, 1, 0, 0, 0, 0, 0, []), (1, .getfield 26, 3, 11, 1, 0, 2, 1, []), (4, .iload_n 1, 1, 1, 0, 0, 0, 0, []), (5, .iload_n 2, 1, 2, 0, 0, 0, 0, []), (6, .invokevirtual 127, 3, 0, 3, 1, 0, 0, [(0, 1)]), (9, .ifCond .ne 13, 3, 22, 0, 0, 0, 0, [])],
  [(22, .iload_n 3, 1, 3, 0, 0, 0, 0, []), (23, .ifCond .eq 18, 3, 41, 0, 0, 0, 0, []), (26, .iload_n 3, 1, 3, 0, 0, 0, 0, []), (27, .iconst 1, 1, 0, 0, 0, 0, 1, []), (28, .if_icmp .eq 13, 3, 41, 0, 0, 0, 0, [])],
  [(41, .aload_n 0, 1, 0, 0, 0, 0, 0, []), (42, .getfield 26, 3, 11, 1, 0, 2, 1, []), (45, .iload_n 1, 1, 1, 0, 0, 0, 0, []), (46, .iload_n 2, 1, 2, 0, 0, 0, 0, []), (47, .iload_n 3, 1, 3, 0, 0, 0, 0, [])],
  [(48, .invokevirtual 143, 3, 1, 4, 2, 0, 0, [(0, 1)]), (51, .ireturn, 1, 0, 0, 0, 0, 0, [])]]
def kt_B_arc : List (Jvm.Cond × Nat × Nat) := [
  ((Jvm.Cond.fieldLink "SuiteBench" (26 : Nat) "SuiteBench" "meant" "LSuiteBench$Machine;"), 3, 183),
  ((Jvm.Cond.methodLink "SuiteBench" (127 : Nat) ({ cls := "SuiteBench$Machine", name := "has", desc := "(II)Z" } : Jvm.MethodName)), 4, 110),
  ((Jvm.Cond.methodLink "SuiteBench" (143 : Nat) ({ cls := "SuiteBench$Machine", name := "part", desc := "(III)I" } : Jvm.MethodName)), 4, 114)]
def kc_B_arc : List Jvm.Cond := [
  (Jvm.Cond.fieldLink "SuiteBench" (26 : Nat) "SuiteBench" "meant" "LSuiteBench$Machine;"),
  (Jvm.Cond.methodLink "SuiteBench" (127 : Nat) ({ cls := "SuiteBench$Machine", name := "has", desc := "(II)Z" } : Jvm.MethodName)),
  (Jvm.Cond.methodLink "SuiteBench" (143 : Nat) ({ cls := "SuiteBench$Machine", name := "part", desc := "(III)I" } : Jvm.MethodName))]
theorem kc_B_arc_ok : ∀ w ∈ kc_B_arc, w ∈ ai_gw := by
  have h : kc_B_arc = kt_B_arc.map (fun q => q.1) := rfl
  rw [h]
  exact tk_mem (by decide +kernel)
def o_B_arc (a : Nat) : SP := match a with
  | 0 => f_M_has
  | 1 => f_M_part
  | _ => fun _ _ _ _ _ => False
theorem mo_B_arc : ∀ a, ai_mono (o_B_arc a)
  | 0 => mf_M_has
  | 1 => mf_M_part
  | _ + 2 => fun _ _ _ _ _ _ _ h => h
abbrev cal_B_arc : List ai_I := [i_M_has, i_M_part]
theorem cs_B_arc {E2 : (Nat → Nat) → State → Heap → Prop} (hE : ai_XH E2) : ∀ (a : Nat) (i : ai_I), ai_nth cal_B_arc a = some i → ai_S E2 i (o_B_arc a) ∧ ai_CW i := fun a i h => match a, h with
    | 0, h => by cases h; exact ⟨c_M_has hE, w_M_has⟩
    | 1, h => by cases h; exact ⟨c_M_part hE, w_M_part⟩
    | _ + 2, h => by simp [cal_B_arc, ai_nth] at h
theorem a_B_arc : ai_all "SuiteBench" prog_1_method_6_code 4 kc_B_arc cal_B_arc 6 100 false (some .int) k_B_arc = true := by decide +kernel
def cut_B_arc : List (Nat × List Bool) := [(12, [true, true, true, true]), (31, [true, true, true, true])]
abbrev lgl (S I : Nat) (p0 p1 : Int) : Prop := (0 ≤ p0 ∧ p0 < (S : Int)) ∧ 0 ≤ p1 ∧ p1 < (I : Int)
set_option maxRecDepth 100000 in
theorem run_B_arc {Q : RP} {Kw : KP} {p0 p1 p2 : Int} {S I : Nat} {t o : Int → Int} {hr h : HP} (V : CW 182 hr) (hS : S ≤ 6) (hI : I ≤ 3) (X : CX S I t o h) (k12 : ¬ lgl S I p0 p1 → Kw 12 [some (2, 0), some (0, p0), some (0, p1), some (0, p2)] [] 182 hr h) (k31 : lgl S I p0 p1 → ¬ (p2 = 0 ∨ p2 = 1) → Kw 31 [some (2, 0), some (0, p0), some (0, p1), some (0, p2)] [] 182 hr h) (kQ : lgl S I p0 p1 → (p2 = 0 ∨ p2 = 1) → Q (0, if p2 = 0 then t (3 * p0 + p1) else o (3 * p0 + p1)) 182 hr h) : ai_run o_B_arc 182 none k_B_arc cut_B_arc Q Kw 19 0 [some (2, 0), some (0, p0), some (0, p1), some (0, p2)] [] 182 hr h := by
  have H : ai_ok 182 0 11 ∧ ai_ok 182 (hr 0 1) 1 ∧ f_M_has [(2, hr 0 1), (0, p0), (0, p1)] 182 hr h fun r1 n1 hr1 h1 => ((r1.2) ≠ 0 → (p2 = 0 → ai_ok n1 0 11 ∧ ai_ok n1 (hr1 0 1) 1 ∧ f_M_part [(2, hr1 0 1), (0, p0), (0, p1), (0, p2)] n1 hr1 h1 fun r2 n2 hr2 h2 => Q (0, r2.2) n2 hr2 h2) ∧ (p2 ≠ 0 → (p2 = (1 : Int) → ai_ok n1 0 11 ∧ ai_ok n1 (hr1 0 1) 1 ∧ f_M_part [(2, hr1 0 1), (0, p0), (0, p1), (0, p2)] n1 hr1 h1 fun r3 n3 hr3 h3 => Q (0, r3.2) n3 hr3 h3) ∧ (p2 ≠ (1 : Int) → Kw 31 [some (2, 0), some (0, p0), some (0, p1), some (0, p2)] [] n1 hr1 h1))) ∧ ((r1.2) = 0 → Kw 12 [some (2, 0), some (0, p0), some (0, p1), some (0, p2)] [] n1 hr1 h1) := by
    obtain ⟨x2, x3, x4, x5⟩ := X
    simp only [ok_0 V.1, cr_0_1 V, ok_13 V.1, true_and]
    refine sp_M_has (mr_13 V) ?_
    rw [x2, x3]
    by_cases q : 0 ≤ p0 ∧ p0 < (S : Int) ∧ 0 ≤ p1 ∧ p1 < (I : Int)
    · have lg : lgl S I p0 p1 := ⟨⟨q.1, q.2.1⟩, q.2.2⟩
      rw [if_pos q]
      refine ⟨fun _ => ?_, fun y => absurd y (by decide)⟩
      have fin : (p2 = 0 ∨ p2 = 1) → f_M_part [(2, 13), (0, p0), (0, p1), (0, p2)] 182 hr h (fun r2 n2 hr2 h2 => Q (0, r2.2) n2 hr2 h2) := fun ok => by
        refine sp_M_part (mr_13 V) ⟨q.1, by omega⟩ ⟨q.2.2.1, by omega⟩ ?_
        have e1 := x4 (3 * p0 + p1) (by omega) (by omega)
        have e2 := x5 (3 * p0 + p1) (by omega) (by omega)
        rw [show (13 : Int) + 1 = 14 from rfl, show (13 : Int) + 2 = 15 from rfl] at *
        rw [e1, e2]
        exact kQ lg ok
      simp only [ok_0 V.1, cr_0_1 V, ok_13 V.1, true_and]
      refine ⟨fun y => fin (Or.inl y), fun y => ⟨fun y2 => fin (Or.inr y2), fun y2 => k31 lg fun y3 => ?_⟩⟩
      rcases y3 with y3 | y3
      · exact y y3
      · exact y2 y3
    · rw [if_neg q]
      exact ⟨fun y => absurd rfl y, fun _ => k12 fun lg => q ⟨lg.1.1, lg.1.2, lg.2⟩⟩
  exact H
abbrev arcU : List String := ["java/lang/RuntimeException", "java/lang/Exception"]
theorem gd_good {w : Jvm.Cond} (h : goodWord w = true) : ai_gd w = true := by unfold ai_gd; rw [h]; rfl
abbrev nsB : List Cond := (nsA "SuiteBench" 142 "java/util/NoSuchElementException" 13 prog_31_method_4_code "java/lang/RuntimeException" ["java/lang/Exception"]).filter vx_no
theorem at_IO : ∀ w ∈ (vx_atS "SuiteBench" 135 "java/lang/IndexOutOfBoundsException" arcU).filter goodWord, w ∈ lw_tbl := by decide +kernel
theorem at_NS : ∀ w ∈ nsB.filter goodWord, w ∈ lw_tbl := by decide +kernel
theorem no_IO : ∀ w ∈ (vx_atS "SuiteBench" 135 "java/lang/IndexOutOfBoundsException" arcU).filter (fun w => !goodWord w), w ∈ sxW := by decide +kernel
theorem no_NS : ∀ w ∈ nsB.filter (fun w => !goodWord w), w ∈ sxW := by decide +kernel
theorem ot_IO : ∀ w ∈ Cond.classLink "SuiteBench" 131 "java/lang/IndexOutOfBoundsException" :: Cond.initialized "java/lang/IndexOutOfBoundsException" :: vx_atS "SuiteBench" 135 "java/lang/IndexOutOfBoundsException" arcU, vx_ot w = true := by decide +kernel
theorem ot_NS : ∀ w ∈ Cond.classLink "SuiteBench" 138 "java/util/NoSuchElementException" :: Cond.initialized "java/util/NoSuchElementException" :: nsB, vx_ot w = true := by decide +kernel
theorem fl_tr {l : Launch} (h : l.flags = flags0) : l.stackTraces = false := by
  unfold Launch.stackTraces
  rw [h]
  decide
theorem jd_B_12 : decode prog_1_method_6_code 12 = .ok (.new 131, 3) := by decide +kernel
theorem jd_B_15 : decode prog_1_method_6_code 15 = .ok (.dup, 1) := by decide +kernel
theorem jd_B_16 : decode prog_1_method_6_code 16 = .ok (.ldc 133, 2) := by decide +kernel
theorem jd_B_18 : decode prog_1_method_6_code 18 = .ok (.invokespecial 135, 3) := by decide +kernel
theorem jd_B_21 : decode prog_1_method_6_code 21 = .ok (.athrow, 1) := by decide +kernel
theorem jd_B_31 : decode prog_1_method_6_code 31 = .ok (.new 138, 3) := by decide +kernel
theorem jd_B_34 : decode prog_1_method_6_code 34 = .ok (.dup, 1) := by decide +kernel
theorem jd_B_35 : decode prog_1_method_6_code 35 = .ok (.ldc 140, 2) := by decide +kernel
theorem jd_B_37 : decode prog_1_method_6_code 37 = .ok (.invokespecial 142, 3) := by decide +kernel
theorem jd_B_40 : decode prog_1_method_6_code 40 = .ok (.athrow, 1) := by decide +kernel
/-- heap cells stay: the world stays -/
theorem W_kept {D : va_G} {cid : Nat → ClassId} {B0 : Nat} {ad : Nat → Nat} {n : Nat} {hr h : HP} {H H1 : Heap} (w : ai_W D cid B0 ad n hr h H) (hk : ∀ q : Nat, q < H.size → H1[q]? = H[q]?) : ai_W D cid B0 ad n hr h H1 := ⟨w.1.kept fun k q hq => hk _ (w.1 k q hq).lt, w.2⟩
abbrev arcV (t o : Int → Int) (p0 p1 p2 : Int) : Int := if p2 = 0 then t (3 * p0 + p1) else o (3 * p0 + p1)
abbrev arcA (p0 p1 p2 : Int) : List AV := [(2, 0), (0, p0), (0, p1), (0, p2)]
abbrev arcX (D : va_G) (cid : Nat → ClassId) (B : Nat) (ad : Nat → Nat) (hr h : HP) (lg ok : Prop) : String → State → State → Prop := vx_X (S := Nat → Nat) (fun _ => True) (fun E ad2 t => (∀ c, c < 182 → ad2 c = ad c) ∧ ((¬ lg ∧ E = "java/lang/IndexOutOfBoundsException") ∨ (lg ∧ ¬ ok ∧ E = "java/util/NoSuchElementException")) ∧ ai_W D cid B ad2 182 hr h t.heap) (fun q => B ≤ q)
abbrev arcQ (D : va_G) (cid : Nat → ClassId) (B : Nat) (ad : Nat → Nat) (hr h : HP) (lg ok : Prop) (v : Int) : Array Value → State → Outcome → State → Prop := va_Qi (fun r (_ : Nat → Nat) => lg ∧ ok ∧ r = Int32.ofInt v) (fun ad2 t => (∀ c, c < 182 → ad2 c = ad c) ∧ ai_W D cid B ad2 182 hr h t.heap) (fun q => B ≤ q)
set_option maxHeartbeats 4000000 in
set_option maxRecDepth 100000 in
theorem c_B_arc {l : Launch} (hfl : l.flags = flags0) {B : Nat} {D : va_G} {cid : Nat → ClassId} {xa ad : Nat → Nat} {p0 p1 p2 : Int} {S I : Nat} {t o : Int → Int} {hr h : HP} (V : CW 182 hr) (hS : S ≤ 6) (hI : I ≤ 3) (X : CX S I t o h) (hIH : ai_IH 182 hr h) (i0 : i32 p0) (i1 : i32 p1) (i2 : i32 p2) : vx_Met l ({ cls := "SuiteBench", name := "arc", desc := "(III)I" } : Jvm.MethodName) ((Jvm.Cond.code ({ cls := "SuiteBench", name := "arc", desc := "(III)I" } : Jvm.MethodName) prog_1_method_6_code (4 : Nat) (Option.some Jvm.ClassFile.FieldType.int)) :: ai_gw) ({ frames := 6, cells := 1, slots := 6, locals := 100 } : Room) (va_Pc ((arcA p0 p1 p2).map (ai_cv ad xa)) (ai_Pw (sxE B) D cid B xa ad 182 hr h)) (arcQ D cid B ad hr h (lgl S I p0 p1) (p2 = 0 ∨ p2 = 1) (arcV t o p0 p1 p2)) (arcX D cid B ad hr h (lgl S I p0 p1) (p2 = 0 ∨ p2 = 1)) 1 6 (fun q => B ≤ q) := by
  refine vx_ofW (cc := prog_1_method_6_code) (maxL := 4) (ret := some .int) (by decide) rfl ?_
  intro p e s m margs below meth c s₁ B' hml hnox hv
  obtain ⟨rfl, hB0, hW, hK, hEX⟩ := hv
  have hts := atoms_spec (ws := (Jvm.Cond.code ({ cls := "SuiteBench", name := "arc", desc := "(III)I" } : Jvm.MethodName) prog_1_method_6_code (4 : Nat) (Option.some Jvm.ClassFile.FieldType.int)) :: ai_gw) B'.pre
  have hg : ∀ w ∈ ai_gw, w.before ((arcA p0 p1 p2).map (ai_cv ad xa)).toArray s = true := fun w hw => hts w (List.mem_cons_of_mem _ hw)
  have hown : s.vm.findClass "SuiteBench" = some m.cls := findClass_of_methodNamed B'.named
  have hlocks := B'.notSynchronized
  have F : ai_F p s m ((arcA p0 p1 p2).map (ai_cv ad xa)).toArray meth c prog_1_method_6_code 4 "SuiteBench" false D cid B xa (sxE B) kc_B_arc := ⟨B'.exec, B'.bytes, hml, hown, hg, (fun z => by cases z), hK, hB0, hEX, sxE_ok B, kc_B_arc_ok⟩
  have hR : ai_RM ({ frames := 6, cells := 1, slots := 6, locals := 100 } : Room) 6 100 182 182 0 0 := ⟨Nat.le_refl _, Nat.le_refl _, by show 182 - 182 + 0 ≤ 1; decide, by rw [Nat.sub_self]; exact Nat.zero_le _⟩
  obtain ⟨-, -, -, -, -, -, -, -, -, e8, e9, e10, e11, -, e12⟩ := id hEX
  have thr : ∀ (E : String) (ad2 : Nat → Nat) (H : Heap) (locs : List Loc), ((¬ lgl S I p0 p1 ∧ E = "java/lang/IndexOutOfBoundsException") ∨ (lgl S I p0 p1 ∧ ¬ (p2 = 0 ∨ p2 = 1) ∧ E = "java/util/NoSuchElementException")) → (∀ q, q < 182 → ad2 q = ad q) → ai_W D cid B ad2 182 hr h H → va_S (fun q : Nat => B ≤ q) s.heap H locs → ∀ t : State, s.vm.Alike t.vm → H.size ≤ t.heap.size → (∀ q : Nat, q < H.size → t.heap[q]? = H[q]?) → arcX D cid B ad hr h (lgl S I p0 p1) (p2 = 0 ∨ p2 = 1) E s t := fun E ad2 H locs hE h3 h4 h9 t _ z k => ⟨ad2, trivial, ⟨h3, hE, W_kept h4 k⟩, Nat.le_trans h9.1 z, fun q h1 h2 => (k q (Nat.lt_of_lt_of_le h1 h9.1)).trans (h9.2.1 q h1 h2)⟩
  have key := sn_run (l := l) (e := e) (R := ({ frames := 6, cells := 1, slots := 6, locals := 100 } : Room)) (below := below) (X := none) (n0 := 182) (lim := 182) (ad0 := ad) (gx := 0) (gy := 0) (Qf := vx_MQ below (arcQ D cid B ad hr h (lgl S I p0 p1) (p2 = 0 ∨ p2 = 1) (arcV t o p0 p1 p2)) (arcX D cid B ad hr h (lgl S I p0 p1) (p2 = 0 ∨ p2 = 1)) ((arcA p0 p1 p2).map (ai_cv ad xa)).toArray s 1 6 (fun q => B ≤ q)) (Q := fun r n' hr' h' => lgl S I p0 p1 ∧ (p2 = 0 ∨ p2 = 1) ∧ r = (0, arcV t o p0 p1 p2) ∧ n' = 182 ∧ hr' = hr ∧ h' = h) F trivial hR (cs_B_arc (c_XH B)) hfl ?_ mo_B_arc a_B_arc (cut := cut_B_arc) 19 0 [some (2, 0), some (0, p0), some (0, p1), some (0, p2)] [] 182 hr h (run_B_arc V hS hI X (fun lg => ?_) (fun lg ok => ?_) fun lg ok => ⟨lg, ok, rfl, rfl, rfl, rfl⟩)
  · have := key ad s.heap [] ((lg_sl ((arcA p0 p1 p2).map (ai_cv ad xa)) ++ List.replicate (4 - (lg_sl ((arcA p0 p1 p2).map (ai_cv ad xa))).length) Slot.unset).toArray) (Nat.le_refl _) (Nat.le_refl _) (fun _ _ => rfl) hW hIH (LR_ent (A := arcA p0 p1 p2) (nL := 4) (Nat.le_of_ble_eq_true rfl)) (LI_ent (A := arcA p0 p1 p2) (k := 4) (SI_cons.mpr ⟨⟨by decide, by decide⟩, SI_cons.mpr ⟨i0, SI_cons.mpr ⟨i1, SI_cons.mpr ⟨i2, fun v hv => by cases hv⟩⟩⟩⟩)) (fun v hv => by cases hv) va_S.rf
    rw [lg_entry_eq]
    simp only [Nat.sub_self, Nat.add_zero] at this
    exact this
  · intro r n' hr' h' ad' H locs ls pc hq h1 h2 h3 h4 h5 h6 h9
    obtain ⟨lg, ok, rfl, rfl, rfl, rfl⟩ := hq
    refine ⟨fun hr0 hd hrt => ?_, fun hr0 => absurd (show (0 : Nat) = 1 from hr0) (by decide), fun hr0 => absurd (show (0 : Nat) = 2 from hr0) (by decide), fun hr0 => absurd (show (0 : Nat) = 9 from congrArg Prod.fst hr0) (by decide)⟩
    refine vx_ret (W.widen (k := 1) (n := 6) (by omega) (by omega) ?_)
    exact W.iret (v := Int32.ofInt (arcV t o p0 p1 p2)) B'.exec B'.bytes B'.returns (fun t ht _ => ⟨⟨_, ad', rfl, ⟨lg, ok, rfl⟩, h3, by rw [ht]; exact h4⟩, h9.F ht⟩) h9.2.2 hd
  · intro ad' H locs ls h1 h2 h3 h4 h5 h6 h7 h8 h9
    exact vx_throwS (rest := []) (ik := 131) (is := 133) (ic := 135) (names := arcU) (A := fun q => B ≤ q) B'.exec B'.bytes (fl_tr hfl) hown (by decide) (by decide) (hg _ (tk_mem (l := [((Jvm.Cond.classLink "SuiteBench" (131 : Nat) "java/lang/IndexOutOfBoundsException"), 6, 192)]) (by decide +kernel) _ (List.mem_singleton.mpr rfl))) (hg _ (tk_mem (l := [((Jvm.Cond.initialized "java/lang/IndexOutOfBoundsException"), 1, 23)]) (by decide +kernel) _ (List.mem_singleton.mpr rfl))) e8 (vx_hat (fun w hw => hg w (gw_mem (at_IO w hw) (gd_good (List.mem_filter.mp hw).2))) no_IO (sxW_at e12)) ot_IO e10 e11 h9 (h6.2.1.trans hml.symm) jd_B_12 jd_B_15 jd_B_16 jd_B_18 jd_B_21 (fun x hx => (hnox x hx).elim) (by decide) (by decide) (by show 182 - 182 + 0 + 1 ≤ 1; decide) (by show ai_cs 182 - ai_cs 182 + 0 + 6 ≤ 6; rw [Nat.sub_self]; decide) hlocks (thr _ ad' H locs (Or.inl ⟨lg, rfl⟩) h3 h4 h9) h9.2.2 (by show 182 - 182 + 0 + 1 ≤ 1; decide) (by rw [Nat.sub_self]; decide)
  · intro ad' H locs ls h1 h2 h3 h4 h5 h6 h7 h8 h9
    exact ns_throw (rest := []) (ik := 138) (is := 140) (ic := 142) (ix := 13) (rx := prog_31_method_4_code) (Y := "java/lang/RuntimeException") (r := ["java/lang/Exception"]) (A := fun q => B ≤ q) B'.exec B'.bytes (fl_tr hfl) (by decide +kernel) (by decide +kernel) (by decide +kernel) (by decide +kernel) hown (by decide) (by decide) (by decide) (hg _ (tk_mem (l := [((Jvm.Cond.classLink "SuiteBench" (138 : Nat) "java/util/NoSuchElementException"), 7, 18)]) (by decide +kernel) _ (List.mem_singleton.mpr rfl))) (hg _ (tk_mem (l := [((Jvm.Cond.initialized "java/util/NoSuchElementException"), 1, 24)]) (by decide +kernel) _ (List.mem_singleton.mpr rfl))) e9 (vx_hat (fun w hw => hg w (gw_mem (at_NS w hw) (gd_good (List.mem_filter.mp hw).2))) no_NS (sxW_at e12)) ot_NS e10 e11 h9 (h6.2.1.trans hml.symm) jd_B_31 jd_B_34 jd_B_35 jd_B_37 jd_B_40 (fun x hx => (hnox x hx).elim) (by decide) (by decide) (by show 182 - 182 + 0 + 1 ≤ 1; decide) (by show ai_cs 182 - ai_cs 182 + 0 + 6 ≤ 6; rw [Nat.sub_self]; decide) hlocks (thr _ ad' H locs (Or.inr ⟨lg, ok, rfl⟩) h3 h4 h9) h9.2.2 (by show 182 - 182 + 0 + 1 ≤ 1; decide) (by rw [Nat.sub_self]; decide)
