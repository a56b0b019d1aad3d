/-! growing in what is wanted behind a step -/
theorem mo_lint {L i} {k k' : Int → Prop} (h : ai_lint L i k) (g : ∀ x, k x → k' x) : ai_lint L i k' := by
  unfold ai_lint at h ⊢; split at h <;> simp_all
theorem mo_llong {L i} {k k' : Int → Prop} (h : ai_llong L i k) (g : ∀ x, k x → k' x) : ai_llong L i k' := by
  unfold ai_llong at h ⊢; split at h <;> simp_all
theorem mo_lref {L i} {k k' : AV → Prop} (h : ai_lref L i k) (g : ∀ x, k x → k' x) : ai_lref L i k' := by
  unfold ai_lref at h ⊢; split at h <;> simp_all
theorem mo_i1 {S} {k k' : Int → List AV → Prop} (h : ai_i1 S k) (g : ∀ x R, k x R → k' x R) : ai_i1 S k' := by
  unfold ai_i1 at h ⊢; split at h <;> first | exact g _ _ h | exact h.elim
theorem mo_i2 {S} {k k' : Int → Int → List AV → Prop} (h : ai_i2 S k) (g : ∀ x y R, k x y R → k' x y R) : ai_i2 S k' := by
  unfold ai_i2 at h ⊢; split at h <;> first | exact g _ _ _ h | exact h.elim
theorem mo_l1 {S} {k k' : Int → List AV → Prop} (h : ai_l1 S k) (g : ∀ x R, k x R → k' x R) : ai_l1 S k' := by
  unfold ai_l1 at h ⊢; split at h <;> first | exact g _ _ h | exact h.elim
theorem mo_l2 {S} {k k' : Int → Int → List AV → Prop} (h : ai_l2 S k) (g : ∀ x y R, k x y R → k' x y R) : ai_l2 S k' := by
  unfold ai_l2 at h ⊢; split at h <;> first | exact g _ _ _ h | exact h.elim
theorem mo_r1 {S} {k k' : Int → List AV → Prop} (h : ai_r1 S k) (g : ∀ x R, k x R → k' x R) : ai_r1 S k' := by
  unfold ai_r1 at h ⊢; split at h <;> first | exact g _ _ h | exact h.elim
theorem mo_if {c x y} {T F T' F' : Prop} (h : ai_if c x y T F) (g : T → T') (g2 : F → F') : ai_if c x y T' F' := by
  cases c <;> exact ⟨fun q => g (h.1 q), fun q => g2 (h.2 q)⟩
theorem mo_sw {x} {K K' : Nat → Prop} {D D' : Prop} (g : ∀ q, K q → K' q) (g2 : D → D') : ∀ (l : List (Int × Nat)), ai_sw x l K D → ai_sw x l K' D'
  | [], h => g2 h
  | (_, t) :: l, h => ⟨fun q => g t (h.1 q), fun q => mo_sw g g2 l (h.2 q)⟩
theorem mo_pop {k k' : List AV → List AV → Prop} (g : ∀ A R, k A R → k' A R) : ∀ (n : Nat) (A R : List AV), ai_pop n A R k → ai_pop n A R k'
  | 0, A, R, h => g A R h
  | _ + 1, _, [], h => h
  | n + 1, A, v :: R, h => mo_pop g n (v :: A) R h
theorem mo_ild {X n h S} {k k' : Int → List AV → Prop} (q : ai_ild X n h S k) (g : ∀ x R, k x R → k' x R) : ai_ild X n h S k' := by
  unfold ai_ild at q ⊢
  split at q
  · exact ⟨q.1, q.2.1, q.2.2.1, g _ _ q.2.2.2⟩
  · split at q
    · exact ⟨q.1, q.2.1, g _ _ q.2.2⟩
    · exact q.elim
  · exact ⟨q.1, q.2.1, g _ _ q.2.2⟩
  · exact q.elim
theorem mo_aln {X n kd S} {k k' : Int → List AV → Prop} (q : ai_aln X n kd S k) (g : ∀ x R, k x R → k' x R) : ai_aln X n kd S k' := by
  unfold ai_aln at q ⊢
  split at q
  · exact ⟨q.1, g _ _ q.2⟩
  · split at q
    · exact g _ _ q
    · exact q.elim
  · exact q.elim
theorem mo_ald {kd n S} {k k' : Int → Int → List AV → Prop} (q : ai_ald kd n S k) (g : ∀ x i R, k x i R → k' x i R) : ai_ald kd n S k' := by
  unfold ai_ald at q ⊢; split at q <;> first | exact ⟨q.1, q.2.1, q.2.2.1, g _ _ _ q.2.2.2⟩ | exact q.elim
theorem mo_ast {kd n S} {k k' : Int → Int → Int → List AV → Prop} (q : ai_ast kd n S k) (g : ∀ x i v R, k x i v R → k' x i v R) : ai_ast kd n S k' := by
  unfold ai_ast at q ⊢; split at q <;> first | exact ⟨q.1, q.2.1, q.2.2.1, g _ _ _ _ q.2.2.2⟩ | exact q.elim
theorem mo_lsa {n S} {k k' : Int → Int → Int → List AV → Prop} (q : ai_lsa n S k) (g : ∀ x i v R, k x i v R → k' x i v R) : ai_lsa n S k' := by
  unfold ai_lsa at q ⊢; split at q <;> first | exact ⟨q.1, q.2.1, q.2.2.1, g _ _ _ _ q.2.2.2⟩ | exact q.elim
theorem mo_asa {n S} {k k' : Int → Int → Int → List AV → Prop} (q : ai_asa n S k) (g : ∀ x i v R, k x i v R → k' x i v R) : ai_asa n S k' := by
  unfold ai_asa at q ⊢; split at q <;> first | exact ⟨q.1, q.2.1, q.2.2.1, q.2.2.2.1, g _ _ _ _ q.2.2.2.2⟩ | exact q.elim
theorem mo_cpy {kd n S} {k k' : Int → Int → Int → Int → Int → List AV → Prop} (q : ai_cpy kd n S k) (g : ∀ a b c d e R, k a b c d e R → k' a b c d e R) : ai_cpy kd n S k' := by
  unfold ai_cpy at q ⊢; split at q <;> first | exact ⟨q.1, q.2.1, q.2.2.1, q.2.2.2.1, q.2.2.2.2.1, q.2.2.2.2.2.1, q.2.2.2.2.2.2.1, g _ _ _ _ _ _ q.2.2.2.2.2.2.2⟩ | exact q.elim
theorem mo_put {t n h hr b cls S} {k k' : List AV → HP → HP → Prop} (q : ai_put t n h hr b cls S k) (g : ∀ R hr h, k R hr h → k' R hr h) : ai_put t n h hr b cls S k' := by
  unfold ai_put at q ⊢; split at q <;> first | exact ⟨q.1, q.2.1, g _ _ _ q.2.2⟩ | exact ⟨q.1, g _ _ _ q.2⟩ | exact q.elim
theorem c1_iff {v : AV} {k : Prop} : ai_c1 v k ↔ ai_cat1 v ∧ k := by
  unfold ai_c1 ai_cat1
  split <;> simp
theorem mo_d1 {S} {k k' : AV → List AV → Prop} (q : ai_d1 S k) (g : ∀ x R, k x R → k' x R) : ai_d1 S k' := by
  unfold ai_d1 at q ⊢
  split at q
  · exact c1_iff.mpr ⟨(c1_iff.mp q).1, g _ _ (c1_iff.mp q).2⟩
  · exact q.elim
theorem mo_d2 {S} {k k' : AV → AV → List AV → Prop} (q : ai_d2 S k) (g : ∀ x y R, k x y R → k' x y R) : ai_d2 S k' := by
  unfold ai_d2 at q ⊢
  split at q
  · obtain ⟨q1, q2⟩ := c1_iff.mp q
    obtain ⟨q3, q4⟩ := c1_iff.mp q2
    exact c1_iff.mpr ⟨q1, c1_iff.mpr ⟨q3, g _ _ _ q4⟩⟩
  · exact q.elim
theorem mo_ret0 {S} {k k' : Int → Prop} (q : ai_ret0 S k) (g : ∀ x, k x → k' x) : ai_ret0 S k' := by
  unfold ai_ret0 at q ⊢; split at q <;> first | exact g _ q | exact q.elim
theorem mo_ret1 {S} {k k' : Int → Prop} (q : ai_ret1 S k) (g : ∀ x, k x → k' x) : ai_ret1 S k' := by
  unfold ai_ret1 at q ⊢; split at q <;> first | exact g _ q | exact q.elim
theorem mo_ret2 {S} {k k' : Int → Prop} (q : ai_ret2 S k) (g : ∀ x, k x → k' x) : ai_ret2 S k' := by
  unfold ai_ret2 at q ⊢; split at q <;> first | exact g _ q | exact q.elim
theorem mo_ret9 {S} {k k' : Prop} (q : ai_ret9 S k) (g : k → k') : ai_ret9 S k' := by
  unfold ai_ret9 at q ⊢; split at q <;> first | exact g q | exact q.elim
theorem mo_bd {z n lim} {k k' : Prop} (q : ai_bd z n lim k) (g : k → k') : ai_bd z n lim k' := by
  unfold ai_bd at q ⊢; split at q <;> first | exact g q | exact ⟨q.1, g q.2⟩
theorem mo_k8 {R} {k k' : Prop} (q : ai_k8 R k) (g : k → k') : ai_k8 R k' := by
  unfold ai_k8 at q ⊢; split at q <;> first | exact g q | exact q.elim
set_option maxHeartbeats 4000000 in
theorem mo_st {orc : Nat → SP} {lim : Nat} {X : XE} {ci : CI} {K K' : KP} {Q Q' : RP} (ho : ∀ a, ai_mono (orc a)) (hK : ∀ pc L S n hr h, K pc L S n hr h → K' pc L S n hr h) (hQ : ∀ r n hr h, Q r n hr h → Q' r n hr h) {L S n hr h} (q : ai_st orc lim X ci K L S n hr h Q) : ai_st orc lim X ci K' L S n hr h Q' := by
  obtain ⟨pc, ins, len, a, b, d, t, z, tl⟩ := ci
  cases ins <;> simp only [ai_st] at q ⊢
  all_goals first
    | exact q
    | exact hK _ _ _ _ _ _ q
    | exact mo_lint q fun _ => hK _ _ _ _ _ _
    | exact mo_llong q fun _ => hK _ _ _ _ _ _
    | exact mo_lref q fun _ => hK _ _ _ _ _ _
    | exact mo_i1 q fun _ _ => hK _ _ _ _ _ _
    | exact mo_i2 q fun _ _ _ => hK _ _ _ _ _ _
    | exact mo_l1 q fun _ _ => hK _ _ _ _ _ _
    | exact mo_l2 q fun _ _ _ => hK _ _ _ _ _ _
    | exact mo_r1 q fun _ _ => hK _ _ _ _ _ _
    | exact mo_i2 q fun _ _ _ h => ⟨h.1, hK _ _ _ _ _ _ h.2⟩
    | exact mo_i2 q fun _ _ _ h => mo_if h (hK _ _ _ _ _ _) (hK _ _ _ _ _ _)
    | exact mo_i1 q fun _ _ h => mo_if h (hK _ _ _ _ _ _) (hK _ _ _ _ _ _)
    | exact mo_i1 q fun _ _ h => mo_sw (fun _ => hK _ _ _ _ _ _) (hK _ _ _ _ _ _) _ h
    | exact mo_i1 q fun _ _ h => mo_l1 h fun _ _ => hK _ _ _ _ _ _
    | exact mo_d1 q fun _ _ => hK _ _ _ _ _ _
    | exact mo_d2 q fun _ _ _ => hK _ _ _ _ _ _
    | exact mo_r1 q fun _ _ h => ⟨h.1, hK _ _ _ _ _ _ h.2⟩
    | exact mo_put q fun _ _ _ => hK _ _ _ _ _ _
    | exact mo_ild q fun _ _ => hK _ _ _ _ _ _
    | exact mo_aln q fun _ _ => hK _ _ _ _ _ _
    | exact mo_ald q fun _ _ _ => hK _ _ _ _ _ _
    | exact mo_ast q fun _ _ _ _ => hK _ _ _ _ _ _
    | exact mo_lsa q fun _ _ _ _ => hK _ _ _ _ _ _
    | exact mo_asa q fun _ _ _ _ => hK _ _ _ _ _ _
    | exact ⟨q.1, q.2.1, hK _ _ _ _ _ _ q.2.2⟩
    | exact mo_i1 q fun _ _ h => ⟨h.1, h.2.1, h.2.2.1, hK _ _ _ _ _ _ h.2.2.2⟩
    | exact mo_pop (fun _ _ h => And.intro h.1 (mo_bd h.2 fun h => mo_k8 h fun h => ho _ _ _ _ _ _ _ (fun _ _ _ _ => hK _ _ _ _ _ _) h)) _ _ _ q
    | exact mo_ret0 q fun _ => hQ _ _ _ _
    | exact mo_ret1 q fun _ => hQ _ _ _ _
    | exact mo_ret2 q fun _ => hQ _ _ _ _
    | exact mo_ret9 q (hQ _ _ _ _)
    | (split at q <;> first
        | exact hK _ _ _ _ _ _ q
        | exact mo_ast q fun _ _ _ _ => hK _ _ _ _ _ _
        | exact mo_ast q fun _ _ _ _ h => ⟨h.1, hK _ _ _ _ _ _ h.2⟩
        | exact mo_r1 q fun _ _ h => ⟨h.1, mo_k8 h.2 fun h => hK _ _ _ _ _ _ h⟩
        | exact mo_pop (fun _ _ h => And.intro h.1 (mo_bd h.2 fun h => mo_k8 h fun h => ho _ _ _ _ _ _ _ (fun _ _ _ _ => hK _ _ _ _ _ _) h)) _ _ _ q
        | exact mo_pop (fun _ _ h => mo_bd h fun h => mo_k8 h fun h => ho _ _ _ _ _ _ _ (fun _ _ _ _ => hK _ _ _ _ _ _) h) _ _ _ q
        | exact mo_cpy q fun _ _ _ _ _ _ h => mo_k8 h fun h => hK _ _ _ _ _ _ h
        | exact mo_i2 q fun _ _ _ h => mo_k8 h fun h => hK _ _ _ _ _ _ h
        | exact mo_ret0 q fun _ h => ⟨h.1, hQ _ _ _ _ h.2⟩
        | exact mo_ret0 q fun _ => hQ _ _ _ _)
theorem mo_step {orc : Nat → SP} {lim : Nat} {X : XE} {code : ai_C} {K K' : KP} {Q Q' : RP} (ho : ∀ a, ai_mono (orc a)) (hK : ∀ pc L S n hr h, K pc L S n hr h → K' pc L S n hr h) (hQ : ∀ r n hr h, Q r n hr h → Q' r n hr h) {pc L S n hr h} (q : ai_step orc lim X code K pc L S n hr h Q) : ai_step orc lim X code K' pc L S n hr h Q' := by
  unfold ai_step at q ⊢
  split at q
  · exact mo_st ho hK hQ q
  · exact q.elim
theorem wp_step {orc : Nat → SP} {lim : Nat} {X : XE} {code : ai_C} {Q : RP} (ho : ∀ a, ai_mono (orc a)) {pc L S n hr h} (q : ai_step orc lim X code (ai_wp orc lim X code Q) pc L S n hr h Q) : ai_wp orc lim X code Q pc L S n hr h := by
  intro P h1 h2
  exact h1 _ _ _ _ _ _ (mo_step ho (fun _ _ _ _ _ _ g => g P h1 h2) (fun _ _ _ _ g => g) q)
theorem wp_fg {orc : Nat → SP} {lim : Nat} {X : XE} {code : ai_C} {Q : RP} {pc L L' S n hr h} (g : ai_fg L' L) (q : ai_wp orc lim X code Q pc L' S n hr h) : ai_wp orc lim X code Q pc L S n hr h := by
  intro P h1 h2
  exact h2 _ _ _ _ _ _ _ g (q P h1 h2)
theorem wp_mono {orc : Nat → SP} {lim : Nat} {X : XE} {code : ai_C} {Q Q' : RP} (ho : ∀ a, ai_mono (orc a)) (hQ : ∀ r n hr h, Q r n hr h → Q' r n hr h) {pc L S n hr h} (q : ai_wp orc lim X code Q pc L S n hr h) : ai_wp orc lim X code Q' pc L S n hr h :=
  q (ai_wp orc lim X code Q') (fun _ _ _ _ _ _ g => wp_step ho (mo_step ho (fun _ _ _ _ _ _ z => z) hQ g)) (fun _ _ _ _ _ _ _ f g => wp_fg f g)
theorem fg_mask : ∀ (m : List Bool) (L : List (Option AV)), ai_fg (ai_mask m L) L
  | [], L => ⟨rfl, fun _ _ h => h⟩
  | true :: m, [] => ⟨rfl, fun _ _ h => h⟩
  | false :: m, [] => ⟨rfl, fun _ _ h => h⟩
  | true :: m, v :: L => ⟨by simp [ai_mask, (fg_mask m L).1], fun i w h => by
      cases i with
      | zero => exact h
      | succ i => exact (fg_mask m L).2 i w h⟩
  | false :: m, v :: L => ⟨by simp [ai_mask, (fg_mask m L).1], fun i w h => by
      cases i with
      | zero => simp [ai_mask, ai_nth] at h
      | succ i => exact (fg_mask m L).2 i w h⟩
theorem wp_run {orc : Nat → SP} {lim : Nat} {X : XE} {code : ai_C} {cut : List (Nat × List Bool)} {Q : RP} (ho : ∀ a, ai_mono (orc a)) : ∀ (f pc : Nat) (L : List (Option AV)) (S : List AV) (n : Nat) (hr h : HP), ai_run orc lim X code cut Q (ai_wp orc lim X code Q) f pc L S n hr h → ai_wp orc lim X code Q pc L S n hr h
  | 0, _, _, _, _, _, _, q => q
  | f + 1, pc, L, S, n, hr, h, q => by
    refine wp_step ho (mo_step ho ?_ (fun _ _ _ _ g => g) q)
    intro pc L S n hr h g
    split at g
    · exact wp_fg (fg_mask _ _) g
    · exact wp_run ho f _ _ _ _ _ _ g
theorem M_mono {orc : Nat → SP} {al maxL : Nat} {code : ai_C} (ho : ∀ a, ai_mono (orc a)) : ai_mono (ai_M orc al maxL code) := fun _ _ _ _ _ _ hQ q => ⟨q.1, wp_mono ho (fun r n hr h g => ⟨g.1, hQ r n hr h g.2⟩) q.2⟩
