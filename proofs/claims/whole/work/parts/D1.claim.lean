-- deps: 01 02 03 04 05 06 07 08 09 10 11 12 13 14 15 16 17 18 19 20 21 22 23 24 25 26 27 28 29 30 31 32 33 34 35 36 37 38 39 40 41 42 43 44 45 46 47 48 49 50 51 52 53 54 55 56 57 58 59 60 61 62 63 64 65 66 67 68 69 70 71 72 73 74 75 76 77 78 79 80 81 82 83 84 85 86 87 88 89 90 91 92 93 94 95 96 97 98 99 9A 9B 9C 9D 9E 9F 9G 9H 9I 9J 9K 9L 9M 9N 9O 9P 9Q 9R 9S 9T 9U 9V 9W 9X 9Y 9Z A0 A1 A2 A3 A4 A5 A6 A7 B0 B1 B2 B3 B4 B5 B6 B7 B8 B9 BA BB BC BD BE C0 C1 C2 C3 C4 C5 C6 C7 C8 D0
/-! the claim: the start's walk, and the skeleton's end -/
theorem whole_start {p : Program} {e : Env} {s : State} {m : MethodId} {below : List Frame} {meth : Method} {c : Code} (l : Launch) (hflags : l.flags = flags0) {b L : Nat} {xs : Nat → Int32} (hL : L ≤ 3072) (C0 : lw_At p s m meth c b L xs) : W p l e room_1 s m #[Value.ref b] below meth c s.heap [] 0 0 (lw_Z below #[Value.ref b] s) (entryFrame m ([Value.ref b] : List Value).toArray 7) := by
  obtain ⟨hx, hb, hr, hml, hown, hts, hX, hbl, hlocks, hgv⟩ := id C0
  have hs : ∀ c ∈ ws_G, c.before #[Value.ref b] s = true := flat_of_before _ hgv
  obtain ⟨D, cid, hK⟩ := ws_K hts
  obtain ⟨mh, z1, z2⟩ := ws_heads hts hs
  obtain ⟨t1, t2, e1, e2, e3, e4, e5⟩ := ws_text hts hs
  obtain ⟨u1, f1⟩ := ws_133 hts hs
  obtain ⟨u2, f2⟩ := ws_140 hts hs
  have key : ∀ xa : Nat → Nat, xa 0 = b → xa 1 = mh → xa 2 = t1 → xa 3 = t2 → xa 4 = u1 → xa 5 = u2 → W p l e room_1 s m #[Value.ref b] below meth c s.heap [] 0 0 (lw_Z below #[Value.ref b] s) (entryFrame m ([Value.ref b] : List Value).toArray 7) := by
    intro xa x0 x1 x2 x3 x4 x5
    subst x0; subst x1; subst x2; subst x3; subst x4; subst x5
    have F : ai_F p s m #[Value.ref (xa 0)] meth c code 7 "SuiteBenchLaw" false D cid s.heap.size xa (sxE s.heap.size) kc_Q_law := ⟨hx, hb, hml, hown, fun w hw => hts w (gw_sub hw), (fun z => by cases z), hK, Nat.le_refl _, ⟨z1, z2, e1, e2, e3, e4, e5, ws_compact hts hs, ws_form hts hs, f1, f2, ws_stack hts hs, ws_supp hts hs, ws_nc hs, ws_W hts⟩, sxE_ok _, kc_Q_law_ok⟩
    have hXS : ai_XS (some ((L : Int), fun j => (xs j.toNat).toInt)) s.heap.size xa s := ⟨L, xs, rfl, by omega, hX, hbl, by omega, fun j _ => by simp⟩
    have hQ : ∀ gx gy, gx ≤ 600 → gy ≤ 6000 → lawRH p l e s m #[Value.ref (xa 0)] below meth c D cid s.heap.size xa (fun _ => 0) (lw_Z below #[Value.ref (xa 0)] s) gx gy := by
      intro gx gy g1 g2 r n hr1 h1 ad H locs ls pc hq a1 a2 a3 a4 a5 a6 a7
      have hq : r = (0, 1) := hq
      subst hq
      refine ⟨fun _ hd _ => ?_, fun q => absurd q (by decide), fun q => absurd q (by decide), fun q => absurd (congrArg Prod.fst q) (by decide)⟩
      have hc := ws_cs n a2
      refine va_forget a7.2.2 (W.widen (k := 601024) (n := 7293034) (by omega) (by omega) ?_)
      have e0 : ai_cv ad xa (0, 1) = Value.int 1 := rfl
      rw [e0]
      exact lw_ret hx hb hr hlocks hd
    have hl := sn_run F hXS (law_rm (by decide) (by decide)) (cs_Q_law (c_XH s.heap.size)) hflags (hQ 0 0 (by decide) (by decide)) mo_Q_law a_Q_law 120 0 lawL0 [] 0 rN zN (law_start fun hr1 h1 R => law_loop F hflags hXS (by omega) (by omega) (fun j => i32_of _) hQ (L + 1) 0 0 0 0 z0 8 0 hr1 h1 (by decide) (by decide) (by omega) (Nat.le_refl _) (Nat.le_refl _) (Nat.le_refl _) R)
    have hSI : ai_SI 0 [(4, 0)] := fun v hv => by
      rw [List.mem_singleton.mp hv]
      trivial
    have hLI : ai_LI 0 lawL0 := LI_ent (k := 7) hSI
    have h := hl (fun _ => 0) s.heap [] _ (Nat.le_refl _) (by decide) (fun q h => absurd h (Nat.not_lt_zero q)) ⟨fun k q h => by simp [ai_ws] at h, fun i j p q h => by simp [ai_ws] at h, fun k q h => by simp [ai_ws] at h⟩ (fun c i h1 h2 => by omega) (LR_ent (A := [(4, 0)]) (nL := 7) (by decide)) hLI (fun v hv => by cases hv) va_S.rf
    rw [lg_entry_eq]
    exact h
  exact key (fun k => match k with | 0 => b | 1 => mh | 2 => t1 | 3 => t2 | 4 => u1 | _ => u2) rfl rfl rfl rfl rfl rfl
set_option maxHeartbeats 4000000 in
theorem lw_walk (l : Launch) (hflags : l.flags = flags0) (b : Addr) (xs : List Int32) : MetFree l x (headSpec (Jvm.Cond.code x code maxLocals ret :: tables_1) room_1) (lw_P b xs) (fun _ _ _ _ _ => True) lw_Q := by
  refine MetFree.of_bodyS (code := code) (maxLocals := maxLocals) (ret := ret) (by decide) ?_ ?_
  · intro args s m h hn
    obtain ⟨meth, c, h1, h2, h3, h4, h5, h6, -, -⟩ := Cond.code_spec hn (atoms_spec (ws := Jvm.Cond.code x code maxLocals ret :: tables_1) h _ List.mem_cons_self)
    exact ⟨meth, c, h1, h2, h3, h4, h5, h6⟩
  · intro p e s m args below meth c s₁ B hml0 hP _
    obtain ⟨rfl, hx, hbd, hgv⟩ := hP
    obtain ⟨scr, harrAt, hlist, hof, hsmall⟩ := hx
    obtain ⟨hcb, hkn, -, -⟩ := State.arrayAt?_spec harrAt
    have hown : s.vm.findClass R_law = some m.cls := findClass_of_methodNamed B.named
    have hts0 : ∀ c ∈ (Jvm.Cond.code x code maxLocals ret :: tables_1), c.before #[Value.ref b] s = true := atoms_spec (ws := Jvm.Cond.code x code maxLocals ret :: tables_1) B.pre
    have hts : ∀ w ∈ lw_tbl, w.before #[Value.ref b] s = true := k2_hts_sels lw_privs (fun w hw => hts0 w (List.mem_cons_of_mem _ hw)) lw_privs_ok
    have hml : c.maxLocals = 7 := B.maxLocals_eq (hts0 _ List.mem_cons_self)
    have X₀ : Stand p l e room_1 s m #[Value.ref b] below meth c s₁ [] 0 0 := Stand.of_body B
    have hh0 : s₁.heap = s.heap := by rw [B.state]; rfl
    have hsz : scr.slots.size = xs.length := by rw [← Array.length_toList, hlist, List.length_map]
    have hval : ∀ j : Nat, j < xs.length → scr.slots[j]? = some (.int (xs.getD j 0)) := fun j hj => by
      rw [← Array.getElem?_toList, hlist]
      simp [hj]
    have hbl : b < s.heap.size := (Array.getElem?_eq_some_iff.mp hcb).1
    have hX : va_X b xs.length (fun j => xs.getD j 0) s s.heap := ⟨scr, hcb, hof, hkn, hsz, hval⟩
    have K : W p l e room_1 s m #[Value.ref b] below meth c s₁.heap [] 0 0 (lw_Z below #[Value.ref b] s) (entryFrame m ([Value.ref b] : List Value).toArray 7) := by
      rw [hh0]
      exact whole_start l hflags hbd ⟨B.exec, B.bytes, B.returns, hml, hown, hts, hX, hbl, B.notSynchronized, hgv⟩
    obtain ⟨t, a1, o, b1, b2, b3⟩ := K s₁ rfl X₀
    exact ⟨t, o, a1, b1, b2, b3⟩
theorem lw_pre_spec {args : Array Value} {s : State} (h : (Jvm.Cond.and given_1 narrow_1).before args s = true) (hr : rest_1_c.before args s = true) : ∃ (b : Addr) (xs : List Int32), lw_P b xs args s := by
  have hs := flat_of_before _ h
  have hq := flat_of_before _ hr
  have hc : (Cond.count 1).before args s = true := hs _ (by decide +kernel)
  have harr : (Cond.arrayOf (.arg 0) .int).before args s = true := hs _ (by decide +kernel)
  have hle : (Cond.le (.length (.arg 0)) (.int 3072)).before args s = true := hs _ (by decide +kernel)
  have hlen : (Cond.isInt (.length (.arg 0))).before args s = true := hq _ (by decide +kernel)
  have hall : (Cond.all (.arg 0) (.isInt (.elem (.arg 0) (.index 0)))).before args s = true := hq _ (by decide +kernel)
  obtain ⟨b, xs, hb, hx⟩ := State.ints_of_pre rfl harr hlen hall
  have hsm : xs.length < 2 ^ 31 := hx.choose_spec.2.2.2
  have hev : (Term.length (.arg 0)).eval args s none [] s = some (.int xs.length.toInt32) := hx.length_eval hb
  have hv := Cond.le_ints hev (show (Term.int 3072).eval args s none [] s = some (.int 3072) from rfl)
  have hd : xs.length.toInt32 ≤ 3072 := by
    simpa [Cond.before, Cond.holds, hv] using hle
  have hN : xs.length ≤ 3072 := (Int32.ofNat_le_ofNat hsm (by decide)).mp (show Int32.ofNat xs.length ≤ Int32.ofNat 3072 from hd)
  exact ⟨b, xs, Cond.one_arg hc (show args[0]? = some (.ref b) from hb), hx, hN, h⟩
theorem lw_comes (l : Launch) (hflags : l.flags = flags0) : Comes l x (Jvm.Cond.code x code maxLocals ret :: tables_1) room_1 (fun tb e args s => Calls_1 tb e args s ∧ rest_1 tb e args s ∧ Pre_1 tb e args s)
    (fun _ _ args s o t => lw_Q args s o t) := by
  intro p e ha hc hk s m args below hf hfit hheap happ hpre
  obtain ⟨b, xs, hP⟩ := lw_pre_spec hpre.2.2 hpre.2.1
  obtain ⟨k, o, h1, h2, h3, hQ⟩ := lw_walk l hflags b xs p e ha hc hk s m args below hf ((Spec.applies_iff_loose hf).mp happ).1 hP trivial
  exact ⟨k, o, h1, h2, h3, hQ⟩
theorem lw_frame {s t : State} {o : Outcome} {args : Array Value} (h : Framed s o t [] 601024 7293034) :
    Framed s o t (fieldLocs frame_1_writes args s ++ arrayLocs frame_1_arrays args s ++ staticLocs frame_1_statics s) 601024 7293034 := h
theorem lw_limb (L : Cond) (hL : ∀ (args : Array Value) (s t : State), L.after args s (.returned (some (.int 1))) t = true) :
    ArmFor flags0 classFile x code maxLocals ret World_1 tables_1 room_1 Calls_1 rest_1 Pre_1
      (fun tb e a s o t => postC L tb e a s o t ∧ Framed s o t (fieldLocs frame_1_writes a s ++ arrayLocs frame_1_arrays a s ++ staticLocs frame_1_statics s) 601024 7293034) := by
  intro l hflags _ _ p e ha hc hk s m args below hf hfit hheap happ hpre
  obtain ⟨k, o, h1, h2, h3, rfl, hF⟩ := lw_comes l hflags p e ha hc hk s m args below hf hfit hheap happ hpre
  exact ⟨k, _, h1, h2, h3, hL args s _, lw_frame hF⟩
theorem i_vc : Claimed_1_1 ∧ Claimed_1_2 := ⟨lw_limb limb_1_1 (fun args s t => by simp [limb_1_1, Cond.after, Cond.holds, Cond.value]), lw_limb limb_1_2 (fun args s t => Cond.after_iff.mpr (by
  first | (rw [show limb_1_2 = Cond.eq .result (.int 1) from rfl, Cond.eq_ints (x := 1) (y := 1) rfl rfl]; simp; done) | (simp [limb_1_2, Cond.value, Term.eval]; done)))⟩
