/-! all steps together; a method's contract out of its code -/
section SND8
variable {p : Program} {l : Launch} {e : Env} {R : Room} {s : State} {m : MethodId} {args : Array Value} {below : List Frame} {meth : Method} {c : Code} {D : va_G} {cid : Nat → ClassId} {B0 : Nat} {xa : Nat → Nat} {nL n0 lim : Nat} {ad0 : Nat → Nat} {gx gy : Nat} {Qf : State → Prop} {cc : ByteArray} {own : String} {isInit : Bool} {E2 : (Nat → Nat) → State → Heap → Prop} {Kc : List Jvm.Cond} {cal : List ai_I} {fr lo : Nat} {rt : Option FieldType} {orc : Nat → SP} {X : XE} {Q : RP}
/-- how a method ends: the small machine's answer is the real one's -/
def ai_RH (p : Program) (l : Launch) (e : Env) (R : Room) (s : State) (m : MethodId) (args : Array Value) (below : List Frame) (meth : Method) (c : Code) (D : va_G) (cid : Nat → ClassId) (B0 : Nat) (xa : Nat → Nat) (n0 lim : Nat) (ad0 : Nat → Nat) (gx gy : Nat) (Qf : State → Prop) (cc : ByteArray) (rt : Option FieldType) (Q : RP) : Prop :=
  ∀ (r : AV) (n : Nat) (hr h : HP) (ad : Nat → Nat) (H : Heap) (locs : List Loc) (ls : Array Slot) (pc : Nat), Q r n hr h → n0 ≤ n → n ≤ lim → (∀ q, q < n0 → ad q = ad0 q) → ai_W D cid B0 ad n hr h H → ai_IH n hr h → ai_vr n r → va_S (fun q : Nat => B0 ≤ q) s.heap H locs →
    (r.1 = 0 → decode cc pc = .ok (.ireturn, 1) → (rt = some .int ∨ (rt = some .boolean ∧ (r.2 = 0 ∨ r.2 = 1))) → W p l e R s m args below meth c H locs (n - n0 + gx) (ai_cs n - ai_cs n0 + gy) Qf (F0 m pc ls [ai_cv ad xa r])) ∧
    (r.1 = 1 → decode cc pc = .ok (.lreturn, 1) → rt = some .long → W p l e R s m args below meth c H locs (n - n0 + gx) (ai_cs n - ai_cs n0 + gy) Qf (F0 m pc ls [ai_cv ad xa r])) ∧
    (r.1 = 2 → decode cc pc = .ok (.areturn, 1) → ((∃ C, rt = some (.object C)) ∨ ∃ C, rt = some (.array C)) → W p l e R s m args below meth c H locs (n - n0 + gx) (ai_cs n - ai_cs n0 + gy) Qf (F0 m pc ls [ai_cv ad xa r])) ∧
    (r = (9, 0) → decode cc pc = .ok (.return_, 1) → rt = none → W p l e R s m args below meth c H locs (n - n0 + gx) (ai_cs n - ai_cs n0 + gy) Qf (F0 m pc ls []))
theorem inv_ret0 {S k} (h : ai_ret0 S k) : ∃ x, S = [(0, x)] ∧ k x := by
  unfold ai_ret0 at h; split at h <;> first | exact ⟨_, rfl, h⟩ | exact h.elim
theorem inv_ret1 {S k} (h : ai_ret1 S k) : ∃ x, S = [(1, x)] ∧ k x := by
  unfold ai_ret1 at h; split at h <;> first | exact ⟨_, rfl, h⟩ | exact h.elim
theorem inv_ret2 {S k} (h : ai_ret2 S k) : ∃ x, S = [(2, x)] ∧ k x := by
  unfold ai_ret2 at h; split at h <;> first | exact ⟨_, rfl, h⟩ | exact h.elim
theorem inv_ret9 {S k} (h : ai_ret9 S k) : S = [] ∧ k := by
  unfold ai_ret9 at h; split at h <;> first | exact ⟨rfl, h⟩ | exact h.elim
theorem sn_step (F : ai_F p s m args meth c cc nL own isInit D cid B0 xa E2 Kc) (hX : ai_XS X B0 xa s) (hR : ai_RM R fr lo n0 lim gx gy) (hcal : ∀ (a : Nat) (i : ai_I), ai_nth cal a = some i → ai_S E2 i (orc a) ∧ ai_CW i) (hfl : l.flags = flags0) (hRH : ai_RH p l e R s m args below meth c D cid B0 xa n0 lim ad0 gx gy Qf cc rt Q) {ci : CI} (g : ai_chk own cc nL Kc cal fr lo isInit rt ci = true) {L : List (Option AV)} {S : List AV} {n : Nat} {hr h : HP} (q : ai_st orc lim X ci (ai_PS p l e R s m args below meth c D cid B0 xa nL n0 lim ad0 gx gy Qf) L S n hr h Q) : ai_PS p l e R s m args below meth c D cid B0 xa nL n0 lim ad0 gx gy Qf ci.1 L S n hr h := by
  obtain ⟨pc, ins, len, a, b, d, t, z, tl⟩ := ci
  cases ins with
  | iload i => exact s_iload F g q
  | iload_n i => exact s_iload_n F g q
  | lload i => exact s_lload F g q
  | lload_n i => exact s_lload_n F g q
  | aload i => exact s_aload F g q
  | aload_n i => exact s_aload_n F g q
  | istore i => exact s_istore F g q
  | istore_n i => exact s_istore_n F g q
  | astore i => exact s_astore F g q
  | astore_n i => exact s_astore_n F g q
  | lstore i => exact s_lstore F g q
  | lstore_n i => exact s_lstore_n F g q
  | iinc i v => exact s_iinc F g q
  | iconst v => exact s_iconst F g q
  | bipush v => exact s_bipush F g q
  | sipush v => exact s_sipush F g q
  | ldc i => exact s_ldc F g q
  | ldc_w i => exact s_ldc_w F g q
  | ldc2_w i => exact s_ldc2 F g q
  | lconst i => exact s_lconst F g q
  | iadd => exact s_iadd F g q
  | isub => exact s_isub F g q
  | imul => exact s_imul F g q
  | idiv => exact s_idiv F g q
  | irem => exact s_irem F g q
  | iand => exact s_iand F g q
  | ior => exact s_ior F g q
  | ixor => exact s_ixor F g q
  | ishl => exact s_ishl F g q
  | ishr => exact s_ishr F g q
  | iushr => exact s_iushr F g q
  | i2l => exact s_i2l F g q
  | i2b => exact s_i2b F g q
  | ladd => exact s_ladd F g q
  | lsub => exact s_lsub F g q
  | lmul => exact s_lmul F g q
  | land => exact s_land F g q
  | lor => exact s_lor F g q
  | lxor => exact s_lxor F g q
  | lshl => exact s_lshl F g q
  | lcmp => exact s_lcmp F g q
  | if_icmp cnd off => exact s_if_icmp F g q
  | ifCond cnd off => exact s_ifCond F g q
  | goto off => exact s_goto F g q
  | tableswitch dflt lw hi offs => exact s_tsw F g q
  | lookupswitch dflt ps => exact s_lsw F g q
  | dup => exact s_dup F g q
  | dup2 => exact s_dup2 F g q
  | pop => exact s_pop F g q
  | getfield idx => exact s_getfield F g q
  | putfield idx => exact s_putfield F g q
  | iaload => exact s_iaload F hX g q
  | laload => exact s_laload F g q
  | baload => exact s_baload F g q
  | aaload => exact s_aaload F g q
  | iastore => exact s_iastore F g q
  | lastore => exact s_lastore F g q
  | bastore => exact s_bastore F g q
  | aastore => exact s_aastore F g q
  | arraylength => exact s_arraylength F hX g q
  | new idx => exact s_new F hR g q
  | newarray ty => exact s_newarray F hR g q
  | anewarray idx => exact s_anewarray F hR g q
  | getstatic idx => exact s_getstatic F g q
  | invokevirtual idx => exact s_invokevirtual F hR hcal hfl g q
  | invokespecial idx => exact s_invokespecial F hR hcal hfl g q
  | invokestatic idx => exact s_invokestatic F hR hcal hfl g q
  | ireturn =>
    simp only [ai_chk, Bool.and_eq_true, decide_eq_true_eq, Bool.or_eq_true] at g
    obtain ⟨hd, rfl, ⟨rfl, hrt⟩ | ⟨rfl, hrt⟩⟩ := g
    · obtain ⟨x, rfl, hx, hq⟩ := inv_ret0 (show ai_ret0 S fun x => (x = 0 ∨ x = 1) ∧ Q (0, x) n hr h from q)
      intro ad H locs ls h1 h2 h3 h4 h5 h6 h7 h8 h9
      exact (hRH (0, x) n hr h ad H locs ls pc hq h1 h2 h3 h4 h5 (SI_cons.mp h8).1 h9).1 rfl hd (Or.inr ⟨hrt, hx⟩)
    · obtain ⟨x, rfl, hq⟩ := inv_ret0 (show ai_ret0 S fun x => Q (0, x) n hr h from q)
      intro ad H locs ls h1 h2 h3 h4 h5 h6 h7 h8 h9
      exact (hRH (0, x) n hr h ad H locs ls pc hq h1 h2 h3 h4 h5 (SI_cons.mp h8).1 h9).1 rfl hd (Or.inl hrt)
  | lreturn =>
    simp only [ai_chk, Bool.and_eq_true, decide_eq_true_eq, Bool.or_eq_true] at g
    obtain ⟨hd, rfl, hrt⟩ := g
    obtain ⟨x, rfl, hq⟩ := inv_ret1 (show ai_ret1 S fun x => Q (1, x) n hr h from q)
    intro ad H locs ls h1 h2 h3 h4 h5 h6 h7 h8 h9
    exact (hRH (1, x) n hr h ad H locs ls pc hq h1 h2 h3 h4 h5 (SI_cons.mp h8).1 h9).2.1 rfl hd hrt
  | areturn =>
    simp only [ai_chk, Bool.and_eq_true, decide_eq_true_eq, Bool.or_eq_true] at g
    obtain ⟨hd, rfl, hrt⟩ := g
    obtain ⟨x, rfl, hq⟩ := inv_ret2 (show ai_ret2 S fun x => Q (2, x) n hr h from q)
    intro ad H locs ls h1 h2 h3 h4 h5 h6 h7 h8 h9
    refine (hRH (2, x) n hr h ad H locs ls pc hq h1 h2 h3 h4 h5 (SI_cons.mp h8).1 h9).2.2.1 rfl hd ?_
    split at hrt
    · exact Or.inl ⟨_, rfl⟩
    · exact Or.inr ⟨_, rfl⟩
    · cases hrt
  | return_ =>
    simp only [ai_chk, Bool.and_eq_true, decide_eq_true_eq, Bool.or_eq_true] at g
    obtain ⟨hd, rfl, hrt⟩ := g
    obtain ⟨rfl, hq⟩ := inv_ret9 (show ai_ret9 S (Q (9, 0) n hr h) from q)
    intro ad H locs ls h1 h2 h3 h4 h5 h6 h7 h8 h9
    exact (hRH (9, 0) n hr h ad H locs ls pc hq h1 h2 h3 h4 h5 trivial h9).2.2.2 rfl hd hrt
  | _ => simp [ai_chk] at g
/-- from a start of the small machine that comes to its end -/
theorem sn_wp (F : ai_F p s m args meth c cc nL own isInit D cid B0 xa E2 Kc) (hX : ai_XS X B0 xa s) (hR : ai_RM R fr lo n0 lim gx gy) (hcal : ∀ (a : Nat) (i : ai_I), ai_nth cal a = some i → ai_S E2 i (orc a) ∧ ai_CW i) (hfl : l.flags = flags0) (hRH : ai_RH p l e R s m args below meth c D cid B0 xa n0 lim ad0 gx gy Qf cc rt Q) {code : ai_C} (hcode : ai_all own cc nL Kc cal fr lo isInit rt code = true) {pc : Nat} {L : List (Option AV)} {S : List AV} {n : Nat} {hr h : HP} (q : ai_wp orc lim X code Q pc L S n hr h) : ai_PS p l e R s m args below meth c D cid B0 xa nL n0 lim ad0 gx gy Qf pc L S n hr h := by
  refine q (ai_PS p l e R s m args below meth c D cid B0 xa nL n0 lim ad0 gx gy Qf) ?_ ?_
  · intro pc L S n hr h g
    unfold ai_step at g
    split at g
    · rename_i ci hci
      obtain ⟨k1, k2⟩ := at_chk hcode hci
      have := sn_step F hX hR hcal hfl hRH k1 g
      rwa [k2] at this
    · exact g.elim
  · intro pc L' L S n hr h hf g ad H locs ls h1 h2 h3 h4 h5 h6 h7 h8 h9
    exact g ad H locs ls h1 h2 h3 h4 h5 (LR_fg h6 hf) (LI_fg h7 hf) h8 h9
/-- the same up to places where something else goes on -/
theorem sn_run (F : ai_F p s m args meth c cc nL own isInit D cid B0 xa E2 Kc) (hX : ai_XS X B0 xa s) (hR : ai_RM R fr lo n0 lim gx gy) (hcal : ∀ (a : Nat) (i : ai_I), ai_nth cal a = some i → ai_S E2 i (orc a) ∧ ai_CW i) (hfl : l.flags = flags0) (hRH : ai_RH p l e R s m args below meth c D cid B0 xa n0 lim ad0 gx gy Qf cc rt Q) (ho : ∀ a, ai_mono (orc a)) {code : ai_C} (hcode : ai_all own cc nL Kc cal fr lo isInit rt code = true) {cut : List (Nat × List Bool)} : ∀ (f pc : Nat) (L : List (Option AV)) (S : List AV) (n : Nat) (hr h : HP), ai_run orc lim X code cut Q (ai_PS p l e R s m args below meth c D cid B0 xa nL n0 lim ad0 gx gy Qf) f pc L S n hr h → ai_PS p l e R s m args below meth c D cid B0 xa nL n0 lim ad0 gx gy Qf pc L S n hr h
  | 0, _, _, _, _, _, _, q => q
  | f + 1, pc, L, S, n, hr, h, q => by
    have q2 := mo_step (K' := ai_PS p l e R s m args below meth c D cid B0 xa nL n0 lim ad0 gx gy Qf) (Q' := Q) ho (fun pc L S n hr h g => by
      split at g
      · intro ad H locs ls h1 h2 h3 h4 h5 h6 h7 h8 h9
        exact g ad H locs ls h1 h2 h3 h4 h5 (LR_fg h6 (fg_mask _ _)) (LI_fg h7 (fg_mask _ _)) h8 h9
      · exact sn_run F hX hR hcal hfl hRH ho hcode f _ _ _ _ _ _ g) (fun _ _ _ _ z => z) q
    unfold ai_step at q2
    split at q2
    · rename_i ci hci
      obtain ⟨k1, k2⟩ := at_chk hcode hci
      have := sn_step F hX hR hcal hfl hRH k1 q2
      rwa [k2] at this
    · exact q2.elim
theorem ent_sl {ad xa : Nat → Nat} : ∀ (A : List AV) (i : Nat) (v : AV), ai_nth (ai_ent A) i = some (some v) → (lg_sl (A.map (ai_cv ad xa)))[i]? = some (.val (ai_cv ad xa v)) ∧ v ∈ A
  | [], i, v, h => by simp [ai_ent, ai_nth] at h
  | (t, x) :: A, i, v, h => by
    by_cases ht : t = 1
    · subst ht
      have e : lg_sl (((1, x) :: A).map (ai_cv ad xa)) = .val (ai_cv ad xa (1, x)) :: .second :: lg_sl (A.map (ai_cv ad xa)) := by
        simp [lg_sl, ai_cv, Value.category]
      rw [e]
      rw [show ai_ent ((1, x) :: A) = some (1, x) :: none :: ai_ent A from rfl] at h
      match i, h with
      | 0, h => simp [ai_nth] at h; subst h; simp
      | 1, h => simp [ai_nth] at h
      | i + 2, h => obtain ⟨h1, h2⟩ := ent_sl A i v h; exact ⟨by simpa using h1, List.mem_cons_of_mem _ h2⟩
    · have e : lg_sl (((t, x) :: A).map (ai_cv ad xa)) = .val (ai_cv ad xa (t, x)) :: lg_sl (A.map (ai_cv ad xa)) := by
        have : ¬ (ai_cv ad xa (t, x)).category = 2 := fun z => ht (cat_cv.mp z)
        simp [lg_sl, this]
      rw [e]
      have e2 : ai_ent ((t, x) :: A) = some (t, x) :: ai_ent A := by
        match t, ht with
        | 0, _ => rfl
        | 1, ht => exact (ht rfl).elim
        | t + 2, _ => rfl
      rw [e2] at h
      match i, h with
      | 0, h => simp [ai_nth] at h; subst h; simp
      | i + 1, h => obtain ⟨h1, h2⟩ := ent_sl A i v h; exact ⟨by simpa using h1, List.mem_cons_of_mem _ h2⟩
theorem ent_len {ad xa : Nat → Nat} : ∀ (A : List AV), (lg_sl (A.map (ai_cv ad xa))).length = (ai_ent A).length
  | [] => rfl
  | (t, x) :: A => by
    by_cases ht : t = 1
    · subst ht
      have e : lg_sl (((1, x) :: A).map (ai_cv ad xa)) = .val (ai_cv ad xa (1, x)) :: .second :: lg_sl (A.map (ai_cv ad xa)) := by
        simp [lg_sl, ai_cv, Value.category]
      rw [e, show ai_ent ((1, x) :: A) = some (1, x) :: none :: ai_ent A from rfl]
      simp [ent_len A]
    · have e : lg_sl (((t, x) :: A).map (ai_cv ad xa)) = .val (ai_cv ad xa (t, x)) :: lg_sl (A.map (ai_cv ad xa)) := by
        have : ¬ (ai_cv ad xa (t, x)).category = 2 := fun z => ht (cat_cv.mp z)
        simp [lg_sl, this]
      have e2 : ai_ent ((t, x) :: A) = some (t, x) :: ai_ent A := by
        match t, ht with
        | 0, _ => rfl
        | 1, ht => exact (ht rfl).elim
        | t + 2, _ => rfl
      rw [e, e2]
      simp [ent_len A]
theorem pad_nth {L : List (Option AV)} {k i : Nat} {v : AV} (h : ai_nth (ai_pad k L) i = some (some v)) : ai_nth L i = some (some v) := by
  rw [nth_eq] at h ⊢
  unfold ai_pad at h
  by_cases hi : i < L.length
  · rwa [List.getElem?_append_left hi] at h
  · rw [List.getElem?_append_right (by omega)] at h
    obtain ⟨h1, h2⟩ := List.getElem?_eq_some_iff.mp h
    simp at h2
theorem LR_ent {ad xa : Nat → Nat} {A : List AV} {nL : Nat} (hl : (ai_ent A).length ≤ nL) : ai_LR ad xa ((lg_sl (A.map (ai_cv ad xa)) ++ List.replicate (nL - (lg_sl (A.map (ai_cv ad xa))).length) Slot.unset).toArray) nL (ai_pad nL (ai_ent A)) := by
  have hk := lv_entry (A.map (ai_cv ad xa)) (n := nL) (by rw [ent_len]; exact hl)
  refine ⟨by simp [ai_pad]; omega, hk.1, hk.2.1, fun i v hv => ?_⟩
  have h1 := (ent_sl (ad := ad) (xa := xa) A i v (pad_nth hv)).1
  have hlt := (List.getElem?_eq_some_iff.mp h1).1
  rw [List.getElem?_toArray, List.getElem?_append_left hlt]
  exact h1
theorem LI_ent {n : Nat} {A : List AV} {k : Nat} (h : ai_SI n A) : ai_LI n (ai_pad k (ai_ent A)) := fun i v hv => h v (ent_sl (ad := id) (xa := id) A i v (pad_nth hv)).2
/-- a method's contract out of its code -/
theorem snd_M {y : MethodName} {tag al na kind cls : Nat} {code : ai_C} (hplain : plainName y.cls = true) (hown : y.cls = own) (hini : isInit = true → y.name = "<init>") (hcode : ai_all own cc nL Kc cal fr lo isInit rt code = true) (hKc : ∀ w ∈ Kc, w ∈ ai_gw) (htag : tag = ai_rtag rt) (htag8 : tag ≠ 8) (hcal : ∀ (a : Nat) (i : ai_I), ai_nth cal a = some i → ai_S E2 i (orc a) ∧ ai_CW i) : ai_S E2 (y, cc, nL, rt, tag, fr, lo, al, na, kind, cls) (ai_M orc al nL code) := by
  intro l D cid B0 xa ad A n hr h Q hfl hE2 hM hSI hIH
  obtain ⟨hlen, hM⟩ := hM
  refine Met.ofW (cc := cc) (maxL := nL) (ret := rt) hplain rfl ?_
  intro p e s m margs below meth c s₁ B hml hv
  obtain ⟨rfl, hB0, hW, hK, hEX⟩ := hv
  have hts := atoms_spec (ws := Jvm.Cond.code y cc nL rt :: ai_gw) B.pre
  have hownc : s.vm.findClass y.cls = some m.cls := findClass_of_methodNamed B.named
  have hlocks := B.notSynchronized
  have hin : meth.name = y.name := (name_of_methodNamed B.named B.method).1
  have F : ai_F p s m (A.map (ai_cv ad xa)).toArray meth c cc nL own isInit D cid B0 xa E2 Kc := ⟨B.exec, B.bytes, hml, by rw [← hown]; exact hownc, fun w hw => hts w (List.mem_cons_of_mem _ hw), fun z => hin.trans (hini z), hK, hB0, hEX, hE2, hKc⟩
  have hR : ai_RM ({ frames := fr, cells := al, slots := ai_cs (n + al) - ai_cs n, locals := lo } : Room) fr lo n (n + al) 0 0 := ⟨Nat.le_refl _, Nat.le_refl _, by show n + al - n + 0 ≤ al; omega, Nat.le_refl _⟩
  have bw : ∀ (n' : Nat) (hr' h' : HP) (ad' : Nat → Nat) (H : Heap) (t : State), n' = n + al → (∀ q, q < n → ad' q = ad q) → ai_W D cid B0 ad' n' hr' h' H → ai_IH n' hr' h' → t.heap = H → ai_Bw D cid B0 ad n al (n', hr', h', ad') t := fun n' hr' h' ad' H t e1 e2 e3 e4 e5 => ⟨e1, e2, e4, by rw [e5]; exact e3⟩
  have key := sn_wp (gx := 0) (gy := 0) (Qf := MQ below (ai_Qc tag D cid B0 ad n al Q) (A.map (ai_cv ad xa)).toArray s al (ai_cs (n + al) - ai_cs n) (fun q : Nat => B0 ≤ q)) (X := none) (n0 := n) (ad0 := ad) (l := l) (e := e) (below := below) F trivial hR hcal hfl ?_ hcode hM
  · have := key ad s.heap [] ((lg_sl (A.map (ai_cv ad xa)) ++ List.replicate (nL - (lg_sl (A.map (ai_cv ad xa))).length) Slot.unset).toArray) (Nat.le_refl _) (by omega) (fun _ _ => rfl) hW hIH (LR_ent hlen) (LI_ent hSI) (fun v hv => by cases hv) va_S.rf
    rw [lg_entry_eq]
    simp only [Nat.sub_self, Nat.add_zero] at this
    exact this
  · intro r n' hr' h' ad' H locs ls pc hq h1 h2 h3 h4 h5 h6 h9
    obtain ⟨hn, hq⟩ := hq
    have hcells : n' - n = al := by omega
    subst hn
    simp only [Nat.add_zero]
    rw [show n + al - n = al by omega]
    refine ⟨fun hr0 hd hrt => ?_, fun hr0 hd hrt => ?_, fun hr0 hd hrt => ?_, fun hr0 hd hrt => ?_⟩
    · obtain ⟨tg, x⟩ := r
      simp only at hr0
      subst hr0
      have hx : i32 x := h6
      have post : ∀ t : State, t.heap = H → va_Qi (fun r (u : ai_U) => Q (0, r.toInt) u.1 u.2.1 u.2.2.1) (ai_Bw D cid B0 ad n al) (fun q : Nat => B0 ≤ q) (A.map (ai_cv ad xa)).toArray s (.returned (some (.int (Int32.ofInt x)))) t := fun t ht => ⟨⟨Int32.ofInt x, (n + al, hr', h', ad'), rfl, (show Q (0, (Int32.ofInt x).toInt) (n + al) hr' h' by rw [of_i32 hx]; exact hq), bw _ _ _ _ H t rfl h3 h4 h5 ht⟩, h9.F ht⟩
      rcases hrt with hrt | ⟨hrt, hx01⟩
      · subst hrt
        refine W.zret (ty := .int) B.exec B.bytes B.returns rfl (fun t ht _ => ?_) h9.2.2 hd
        rw [show tag = 0 from htag]
        exact post t ht
      · subst hrt
        refine W.zret (ty := .boolean) B.exec B.bytes B.returns (by simp only at hx01; rcases hx01 with rfl | rfl <;> rfl) (fun t ht _ => ?_) h9.2.2 hd
        rw [show tag = 3 from htag]
        exact post t ht
    · obtain ⟨tg, x⟩ := r
      simp only at hr0
      subst hr0
      subst hrt
      have hx : i64 x := h6
      refine W.lret B.exec B.bytes B.returns (fun t ht _ => ?_) h9.2.2 hd
      rw [show tag = 1 from htag]
      exact ⟨⟨Int64.ofInt x, (n + al, hr', h', ad'), rfl, (show Q (1, (Int64.ofInt x).toInt) (n + al) hr' h' by rw [of_i64 hx]; exact hq), bw _ _ _ _ H t rfl h3 h4 h5 ht⟩, h9.F ht⟩
    · obtain ⟨tg, x⟩ := r
      simp only at hr0
      subst hr0
      have hx : -1 ≤ x ∧ x < ((n + al : Nat) : Int) := h6
      have htag2 : tag = 2 := by
        rw [htag]
        rcases hrt with ⟨C, rfl⟩ | ⟨C, rfl⟩ <;> rfl
      obtain ⟨rt', hrt'⟩ : ∃ rt', rt = some rt' := by
        rcases hrt with ⟨C, h⟩ | ⟨C, h⟩ <;> exact ⟨_, h⟩
      refine W.aret (rt := rt') B.exec B.bytes (by rw [B.returns, hrt']) ?_ ?_ (fun t ht _ => ?_) h9.2.2 hd
      · rcases hrt with ⟨C, h⟩ | ⟨C, h⟩
        · rw [h] at hrt'; cases hrt'; exact Or.inl ⟨_, rfl⟩
        · rw [h] at hrt'; cases hrt'; exact Or.inr ⟨_, rfl⟩
      · show va_rf (ai_ro ad' x) = .null ∨ ∃ a, va_rf (ai_ro ad' x) = .ref a
        cases ai_ro ad' x with
        | none => exact Or.inl rfl
        | some a => exact Or.inr ⟨a, rfl⟩
      · rw [htag2]
        exact ⟨⟨ai_ro ad' x, (n + al, hr', h', ad'), rfl, ⟨x, hx.1, hx.2, rfl, hq⟩, bw _ _ _ _ H t rfl h3 h4 h5 ht⟩, h9.F ht⟩
    · subst hr0
      subst hrt
      refine W.vret B.exec B.bytes B.returns (fun t ht _ => ?_) h9.2.2 hd
      rw [show tag = 9 from htag]
      exact ⟨⟨(n + al, hr', h', ad'), rfl, hq, bw _ _ _ _ H t rfl h3 h4 h5 ht⟩, h9.F ht⟩
end SND8
