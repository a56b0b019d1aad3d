-- deps: 18 19 21 34 C0 C1 C2 C3 C4 B0 BB
/-! the law's own 'arc', which catches -/
def k_Q_arc : ai_C := [
  [(0, .aload 4, 2, 4, 0, 0, 0, 0, []), (2, .iconst 0, 1, 0, 0, 0, 0, 0, []), (3, .aload_n 0, 1, 0, 0, 0, 0, 0, []), (4, .iload_n 1, 1, 1, 0, 0, 0, 0, []), (5, .iload_n 2, 1, 2, 0, 0, 0, 0, []), (6, .iload_n 3, 1, 3, 0, 0, 0, 0, []), (10, .i2l, 1, 0, 0, 0, 0, 0, []), (11, .lastore, 1, 0, 0, 0, 0, 0, []), (12, .goto 11, 3, 23, 0, 0, 0, 0, [])],
  [(23, .iconst 0, 1, 0, 0, 0, 0, 0, []), (24, .ireturn, 1, 0, 0, 0, 0, 0, [])]]
def o_Q_arc (_ : Nat) : SP := fun _ _ _ _ _ => False
theorem mo_Q_arc : ∀ a, ai_mono (o_Q_arc a) := fun _ _ _ _ _ _ _ _ h => h
theorem cs_Q_arc {E2 : (Nat → Nat) → State → Heap → Prop} : ∀ (a : Nat) (i : ai_I), ai_nth ([] : List ai_I) a = some i → ai_S E2 i (o_Q_arc a) ∧ ai_CW i := fun a i h => by simp [ai_nth] at h
theorem a_Q_arc : ai_all "SuiteBenchLaw" method_3_code 6 [] [] 9 400 false (some .int) k_Q_arc = true := by decide +kernel
def cut_Q_arc : List (Nat × List Bool) := [(7, [true, true, true, true, true, true])]
abbrev arcL (p0 p1 p2 : Int) : List (Option AV) := [some (2, 0), some (0, p0), some (0, p1), some (0, p2), some (2, 181), none]
abbrev arcB (p0 p1 p2 : Int) : List AV := [(2, 0), (0, p0), (0, p1), (0, p2), (2, 181)]
abbrev arcR : Room := { frames := 9, cells := 1, slots := 6, locals := 400 }
theorem run_Q_arc0 {Q : RP} {Kw : KP} {p0 p1 p2 : Int} {hr h : HP} (k7 : Kw 7 (arcL p0 p1 p2) [(0, p2), (0, p1), (0, p0), (2, 0), (0, 0), (2, 181)] 182 hr h) : ai_run o_Q_arc 182 none k_Q_arc cut_Q_arc Q Kw 10 0 (arcL p0 p1 p2) [] 182 hr h := k7
theorem run_Q_arc1 {Q : RP} {Kw : KP} {p0 p1 p2 v : Int} {hr h : HP} (kQ : Q (0, 0) 182 hr (ai_up h 181 0 v)) : ai_run o_Q_arc 182 none k_Q_arc cut_Q_arc Q Kw 10 10 (arcL p0 p1 p2) [(0, v), (0, 0), (2, 181)] 182 hr h := by
  have H : ai_ok 182 181 51 ∧ 0 ≤ (0 : Int) ∧ 0 < ai_l 181 ∧ Q (0, 0) 182 hr (ai_up h 181 0 v) := ⟨⟨by decide, by decide, rfl⟩, by decide, by decide, kQ⟩
  exact H
theorem jd_Q_7 : decode method_3_code 7 = .ok (.invokevirtual 7, 3) := by decide +kernel
theorem jd_Q_15 : decode method_3_code 15 = .ok (.astore 5, 2) := by decide +kernel
theorem jd_Q_17 : decode method_3_code 17 = .ok (.iconst 1, 1) := by decide +kernel
theorem jd_Q_18 : decode method_3_code 18 = .ok (.ireturn, 1) := by decide +kernel
theorem jd_Q_19 : decode method_3_code 19 = .ok (.astore 5, 2) := by decide +kernel
theorem jd_Q_21 : decode method_3_code 21 = .ok (.iconst 2, 1) := by decide +kernel
theorem jd_Q_22 : decode method_3_code 22 = .ok (.ireturn, 1) := by decide +kernel
/-- what the law's arc answers, and what it lays into the row -/
def arcP (S I : Nat) (t o : Int → Int) (p0 p1 p2 : Int) (h : HP) (r : Int32) (h1 : HP) : Prop := (¬ lgl S I p0 p1 → r = 1 ∧ h1 = h) ∧ (lgl S I p0 p1 → ¬ (p2 = 0 ∨ p2 = 1) → r = 2 ∧ h1 = h) ∧ (lgl S I p0 p1 → (p2 = 0 ∨ p2 = 1) → r = 0 ∧ h1 = ai_up h 181 0 (arcV t o p0 p1 p2))
abbrev arcZ (D : va_G) (cid : Nat → ClassId) (B : Nat) (ad : Nat → Nat) (hr : HP) (P : Int32 → HP → Prop) : Array Value → State → Outcome → State → Prop := va_Qi (fun r (u : HP × (Nat → Nat)) => P r u.1) (fun u t => (∀ c, c < 182 → u.2 c = ad c) ∧ ai_IH 182 hr u.1 ∧ ai_W D cid B u.2 182 hr u.1 t.heap) (fun q => B ≤ q)
set_option maxHeartbeats 4000000 in
set_option maxRecDepth 100000 in
theorem c_Q_arc {l : Launch} (hfl : l.flags = flags0) {B : Nat} {D : va_G} {cid : Nat → ClassId} {xa ad : Nat → Nat} {p0 p1 p2 : Int} {S I : Nat} {t o : Int → Int} {hr h : HP} (V : CW 182 hr) (hS : S ≤ 6) (hI : I ≤ 3) (X : CX S I t o h) (hIH : ai_IH 182 hr h) (i0 : i32 p0) (i1 : i32 p1) (i2 : i32 p2) (iv : lgl S I p0 p1 → i32 (arcV t o p0 p1 p2)) : Met l ({ cls := "SuiteBenchLaw", name := "arc", desc := "(LSuiteBench;III[J)I" } : Jvm.MethodName) ((Jvm.Cond.codeWith ({ cls := "SuiteBenchLaw", name := "arc", desc := "(LSuiteBench;III[J)I" } : Jvm.MethodName) method_3_code (6 : Nat) (Option.some Jvm.ClassFile.FieldType.int) [((0 : Nat), (12 : Nat), (15 : Nat), (13 : Nat)), ((0 : Nat), (12 : Nat), (19 : Nat), (15 : Nat))]) :: ai_gw) arcR (va_Pc ((arcB p0 p1 p2).map (ai_cv ad xa)) (ai_Pw (sxE B) D cid B xa ad 182 hr h)) (arcZ D cid B ad hr (arcP S I t o p0 p1 p2 h)) 1 6 (fun q => B ≤ q) := by
  refine va_MetW (cc := method_3_code) (maxL := 6) (ret := some .int) (hh := [((0 : Nat), (12 : Nat), (15 : Nat), (13 : Nat)), ((0 : Nat), (12 : Nat), (19 : Nat), (15 : Nat))]) (by decide) rfl ?_
  intro p e s m margs below meth c s₁ B' hml hv
  obtain ⟨rfl, hB0, hW, hK, hEX⟩ := hv
  have hts := atoms_spec (ws := (Jvm.Cond.codeWith ({ cls := "SuiteBenchLaw", name := "arc", desc := "(LSuiteBench;III[J)I" } : Jvm.MethodName) method_3_code (6 : Nat) (Option.some Jvm.ClassFile.FieldType.int) [((0 : Nat), (12 : Nat), (15 : Nat), (13 : Nat)), ((0 : Nat), (12 : Nat), (19 : Nat), (15 : Nat))]) :: ai_gw) B'.pre
  have hg : ∀ w ∈ ai_gw, w.before ((arcB p0 p1 p2).map (ai_cv ad xa)).toArray s = true := fun w hw => hts w (List.mem_cons_of_mem _ hw)
  have hown : s.vm.findClass "SuiteBenchLaw" = some m.cls := findClass_of_methodNamed B'.named
  have hlocks := B'.notSynchronized
  have htab := vx_table (x := ⟨"SuiteBenchLaw", "arc", "(LSuiteBench;III[J)I"⟩) B' (hts _ List.mem_cons_self)
  have F : ai_F p s m ((arcB p0 p1 p2).map (ai_cv ad xa)).toArray meth c method_3_code 6 "SuiteBenchLaw" false D cid B xa (sxE B) [] := ⟨B'.exec, B'.bytes, hml, hown, hg, (fun z => by cases z), hK, hB0, hEX, sxE_ok B, (fun _ q => by cases q)⟩
  have hR0 : ai_RM arcR 9 400 182 182 0 0 := ⟨Nat.le_refl _, Nat.le_refl _, by show 182 - 182 + 0 ≤ 1; decide, by rw [Nat.sub_self]; exact Nat.zero_le _⟩
  have hR1 : ai_RM arcR 9 400 182 182 1 6 := ⟨Nat.le_refl _, Nat.le_refl _, by show 182 - 182 + 1 ≤ 1; decide, by rw [Nat.sub_self]; exact Nat.le_refl _⟩
  obtain ⟨-, -, -, -, -, -, -, -, -, e8, e9, e10, e11, e12, e13⟩ := id hEX
  have out : ∀ (r : Int32) (u : HP × (Nat → Nat)) (H : Heap) (locs : List Loc) (pc : Nat) (ls : Array Slot), arcP S I t o p0 p1 p2 h r u.1 → (∀ c, c < 182 → u.2 c = ad c) → ai_IH 182 hr u.1 → ai_W D cid B u.2 182 hr u.1 H → va_S (fun q : Nat => B ≤ q) s.heap H locs → decode method_3_code pc = .ok (.ireturn, 1) → W p l e arcR s m ((arcB p0 p1 p2).map (ai_cv ad xa)).toArray below meth c H locs 1 6 (MQ below (arcZ D cid B ad hr (arcP S I t o p0 p1 p2 h)) ((arcB p0 p1 p2).map (ai_cv ad xa)).toArray s 1 6 (fun q => B ≤ q)) (F0 m pc ls [.int r]) := fun r u H locs pc ls k1 k2 k3 k4 k5 hd => W.iret B'.exec B'.bytes B'.returns (fun t ht _ => ⟨⟨r, u, rfl, k1, k2, k3, by rw [ht]; exact k4⟩, k5.F ht⟩) k5.2.2 hd
  have k7 : ai_PS p l e arcR s m ((arcB p0 p1 p2).map (ai_cv ad xa)).toArray below meth c D cid B xa 6 182 182 ad 0 0 (MQ below (arcZ D cid B ad hr (arcP S I t o p0 p1 p2 h)) ((arcB p0 p1 p2).map (ai_cv ad xa)).toArray s 1 6 (fun q => B ≤ q)) 7 (arcL p0 p1 p2) [(0, p2), (0, p1), (0, p0), (2, 0), (0, 0), (2, 181)] 182 hr h := by
    intro ad' H locs ls h1 h2 h3 h4 h5 h6 h7 h8 h9
    have eb := c_B_arc (xa := xa) (ad := ad') (B := B) (D := D) (cid := cid) hfl V hS hI X hIH i0 i1 i2
    have hget : (ai_ws cid ad' 182 hr h)[0]? = some (ad' 0, .inr (11, ai_fs ad' 11 hr h ((0 : Nat) : Int))) := by rw [ws_get (by decide), ce_obj (a := 11) (by decide +kernel) (by decide)]
    have hrecv := va_recv F.2.2.2.2.2.2.1 h4.1 (ci := 11) (q0 := 0) rfl hget
    have hrun := vx_runV (l := l) (e := e) (R := arcR) (below := below) (meth := meth) (H := H) (locs := locs) (cells := 0) (slots := 0) (index := 7) (As := [.int (Int32.ofInt p0), .int (Int32.ofInt p1), .int (Int32.ofInt p2)]) (g := F0 m 7 ls [.int (Int32.ofInt p2), .int (Int32.ofInt p1), .int (Int32.ofInt p0), .ref (ad' 0), .int (Int32.ofInt 0), .ref (ad' 181)]) (rest := [.int (Int32.ofInt 0), .ref (ad' 181)]) ⟨F.1, F.2.1, F.2.2.1, F.2.2.2.1, F.2.2.2.2.1⟩ eb ⟨⟨rfl, rfl, by decide, by decide, ws_warm F (tk_mem (l := [((Jvm.Cond.code ({ cls := "SuiteBench", name := "arc", desc := "(III)I" } : Jvm.MethodName) prog_1_method_6_code (4 : Nat) (Option.some Jvm.ClassFile.FieldType.int)), 6, 191)]) (by decide +kernel) _ (List.mem_singleton.mpr rfl)), List.mem_cons_self, hg _ (tk_mem (l := [((Jvm.Cond.code ({ cls := "SuiteBench", name := "arc", desc := "(III)I" } : Jvm.MethodName) prog_1_method_6_code (4 : Nat) (Option.some Jvm.ClassFile.FieldType.int)), 6, 191)]) (by decide +kernel) _ (List.mem_singleton.mpr rfl)), hg _ (tk_mem (l := [((Jvm.Cond.initialized "SuiteBench"), 1, 1)]) (by decide +kernel) _ (List.mem_singleton.mpr rfl)), ⟨by decide, by decide⟩, na_of (by show _ = some 3; decide +kernel), hg _ (tk_mem (l := [((Jvm.Cond.methodLink "SuiteBenchLaw" (7 : Nat) ({ cls := "SuiteBench", name := "arc", desc := "(III)I" } : Jvm.MethodName)), 6, 188)]) (by decide +kernel) _ (List.mem_singleton.mpr rfl))⟩, hg _ (tk_mem (l := [((Jvm.Cond.instanceMethod ({ cls := "SuiteBench", name := "arc", desc := "(III)I" } : Jvm.MethodName)), 6, 189)]) (by decide +kernel) _ (List.mem_singleton.mpr rfl)), hg _ (tk_mem (l := [((Jvm.Cond.selects "SuiteBench" ({ cls := "SuiteBench", name := "arc", desc := "(III)I" } : Jvm.MethodName) ({ cls := "SuiteBench", name := "arc", desc := "(III)I" } : Jvm.MethodName)), 6, 190)]) (by decide +kernel) _ (List.mem_singleton.mpr rfl))⟩ ⟨pc_blind (sxE_ok B), hrecv, fun U hU hW => ⟨rfl, pw_of F h4 h9 hU hW⟩⟩ rfl rfl h6.2.1 rfl (lv_room (Nat.le_of_ble_eq_true rfl)) jd_Q_7 ⟨by decide, by decide⟩
    have ent : W p l e arcR s m ((arcB p0 p1 p2).map (ai_cv ad xa)).toArray below meth c H locs 0 0 (MQ below (arcZ D cid B ad hr (arcP S I t o p0 p1 p2 h)) ((arcB p0 p1 p2).map (ai_cv ad xa)).toArray s 1 6 (fun q => B ≤ q)) (F0 m 7 ls [.int (Int32.ofInt p2), .int (Int32.ofInt p1), .int (Int32.ofInt p0), .ref (ad' 0), .int (Int32.ofInt 0), .ref (ad' 181)]) := by
      refine vx_calli (a := ((arcA p0 p1 p2).map (ai_cv ad' xa)).toArray) hrun h9 (fun q _ hq => hq) (fun q hq => hq) (fun q _ hq => hq) (fun E ce q9 u t9 H1 locs1 hH1 hal hpx hBX hz hk hS1 hce hcv hcl => ?_) fun r u t9 H1 locs1 hH1 hal hp hB hz hk hS1 => ?_
      · obtain ⟨b1, b2, b3⟩ := hBX
        have hls := LR_has h6
        rw [hH1] at b3
        rcases b2 with ⟨lg, rfl⟩ | ⟨lg, ok, rfl⟩
        · refine vx_catch hown [] ⟨0, 12, 15, 13⟩ [⟨0, 12, 19, 15⟩] (by rw [htab]; rfl) (fun z hz => by cases hz) (by decide) (by decide) (hg _ (tk_mem (l := [((Jvm.Cond.classLink "SuiteBenchLaw" (13 : Nat) "java/lang/IndexOutOfBoundsException"), 6, 186)]) (by decide +kernel) _ (List.mem_singleton.mpr rfl))) (sxW_at e13 _ (by simp [sxW])) hce hcv hcl ?_
          refine lv_astore B'.exec B'.bytes jd_Q_15 hls (by decide) rfl (fun ls2 hl2 => ?_)
          refine lv_iconst (v := 1) B'.exec B'.bytes jd_Q_17 (by decide) ?_
          exact out 1 (h, u) H1 locs1 18 ls2 ⟨fun _ => ⟨rfl, rfl⟩, fun q => absurd q lg, fun q => absurd q lg⟩ (fun q hq => (b1 q hq).trans (h3 q hq)) hIH b3 hS1 jd_Q_18
        · refine vx_catch hown [⟨0, 12, 15, 13⟩] ⟨0, 12, 19, 15⟩ [] (by rw [htab]; rfl) (fun z hz => Or.inr ?_) (by decide) (by decide) (hg _ (tk_mem (l := [((Jvm.Cond.classLink "SuiteBenchLaw" (15 : Nat) "java/util/NoSuchElementException"), 6, 187)]) (by decide +kernel) _ (List.mem_singleton.mpr rfl))) (sxW_at e13 _ (by simp [sxW])) hce hcv hcl ?_
          · rw [List.mem_singleton.mp hz]
            exact ⟨by decide, _, hg _ (tk_mem (l := [((Jvm.Cond.classLink "SuiteBenchLaw" (13 : Nat) "java/lang/IndexOutOfBoundsException"), 6, 186)]) (by decide +kernel) _ (List.mem_singleton.mpr rfl)), e12⟩
          refine lv_astore B'.exec B'.bytes jd_Q_19 hls (by decide) rfl (fun ls2 hl2 => ?_)
          refine lv_iconst (v := 2) B'.exec B'.bytes jd_Q_21 (by decide) ?_
          exact out 2 (h, u) H1 locs1 22 ls2 ⟨fun q => absurd lg q, fun _ _ => ⟨rfl, rfl⟩, fun _ q => absurd q ok⟩ (fun q hq => (b1 q hq).trans (h3 q hq)) hIH b3 hS1 jd_Q_22
      · obtain ⟨lg, ok, rfl⟩ := hp
        obtain ⟨b1, b3⟩ := hB
        rw [hH1] at b3
        have k10 := sn_run (l := l) (e := e) (R := arcR) (below := below) (X := none) (n0 := 182) (lim := 182) (ad0 := ad) (gx := 1) (gy := 6) (Qf := MQ below (arcZ D cid B ad hr (arcP S I t o p0 p1 p2 h)) ((arcB p0 p1 p2).map (ai_cv ad xa)).toArray s 1 6 (fun q => B ≤ q)) (Q := fun r n' hr' h' => r = (0, 0) ∧ n' = 182 ∧ hr' = hr ∧ h' = ai_up h 181 0 (arcV t o p0 p1 p2)) F trivial hR1 cs_Q_arc hfl ?_ mo_Q_arc a_Q_arc (cut := cut_Q_arc) 10 10 (arcL p0 p1 p2) [(0, arcV t o p0 p1 p2), (0, 0), (2, 181)] 182 hr h (run_Q_arc1 ⟨rfl, rfl, rfl, rfl⟩)
        · have := k10 u H1 locs1 ls (Nat.le_refl _) (Nat.le_refl _) (fun q hq => (b1 q hq).trans (h3 q hq)) b3 h5 (LR_ext h6 h7 b1) h7 (SI_cons.mpr ⟨iv lg, SI_cons.mpr ⟨⟨by decide, by decide⟩, SI_cons.mpr ⟨⟨by decide, by decide⟩, fun v hv => by cases hv⟩⟩⟩) hS1
          simp only [Nat.sub_self, Nat.zero_add] at this
          rw [← b1 181 (by decide)]
          exact this
        · intro r n' hr' h' ad2 H2 locs2 ls2 pc2 hq j1 j2 j3 j4 j5 j6 j9
          obtain ⟨rfl, rfl, rfl, rfl⟩ := hq
          refine ⟨fun hr0 hd hrt => ?_, fun hr0 => absurd (show (0 : Nat) = 1 from hr0) (by decide), fun hr0 => absurd (show (0 : Nat) = 2 from hr0) (by decide), fun hr0 => absurd (show (0 : Nat) = 9 from congrArg Prod.fst hr0) (by decide)⟩
          have := out 0 (ai_up h 181 0 (arcV t o p0 p1 p2), ad2) H2 locs2 pc2 ls2 ⟨fun q => absurd lg q, fun _ q => absurd ok q, fun _ _ => ⟨rfl, rfl⟩⟩ j3 j5 j4 j9 hd
          simp only [Nat.sub_self, Nat.zero_add]
          exact this
    simp only [Nat.sub_self, Nat.add_zero]
    exact ent
  have key := sn_run (l := l) (e := e) (R := arcR) (below := below) (X := none) (n0 := 182) (lim := 182) (ad0 := ad) (gx := 0) (gy := 0) (Qf := MQ below (arcZ D cid B ad hr (arcP S I t o p0 p1 p2 h)) ((arcB p0 p1 p2).map (ai_cv ad xa)).toArray s 1 6 (fun q => B ≤ q)) (Q := fun _ _ _ _ => False) F trivial hR0 cs_Q_arc hfl (fun r n' hr' h' ad2 H2 locs2 ls2 pc2 hq => hq.elim) mo_Q_arc a_Q_arc (cut := cut_Q_arc) 10 0 (arcL p0 p1 p2) [] 182 hr h (run_Q_arc0 k7)
  have := key ad s.heap [] ((lg_sl ((arcB p0 p1 p2).map (ai_cv ad xa)) ++ List.replicate (6 - (lg_sl ((arcB p0 p1 p2).map (ai_cv ad xa))).length) Slot.unset).toArray) (Nat.le_refl _) (Nat.le_refl _) (fun _ _ => rfl) hW hIH (LR_ent (A := arcB p0 p1 p2) (nL := 6) (Nat.le_of_ble_eq_true rfl)) (LI_ent (A := arcB p0 p1 p2) (k := 6) (SI_cons.mpr ⟨⟨by decide, by decide⟩, SI_cons.mpr ⟨i0, SI_cons.mpr ⟨i1, SI_cons.mpr ⟨i2, SI_cons.mpr ⟨⟨by decide, by decide⟩, fun v hv => by cases hv⟩⟩⟩⟩⟩)) (fun v hv => by cases hv) va_S.rf
  rw [lg_entry_eq]
  simp only [Nat.sub_self, Nat.add_zero] at this
  exact this
