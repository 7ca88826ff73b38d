/-! the relation: the same START and GOAL on both sides, Y's table of neighbours, X's tables towards the GOAL -/
def i_Rel (k : Nat) (u : SX) (v : SY) : Prop := ∃ (s g : Nat) (fq : Int32) (D S G Q sa ga bo af aw wa : Nat → Int32), u = (nI (bd_p s), nI (bd_p g), fq, D, S, G, Q) ∧ v = (sa, ga, bo, af, aw, wa) ∧ s < 720 ∧ g < 720 ∧ (∀ z, z < 6 → sa z = nI (bd_t s z)) ∧ (∀ z, z < 6 → ga z = nI (bd_t g z)) ∧ yi_ok af 2880 ∧ ch_T g D S G
theorem i_up {k : Nat} {u : SX} {v : SY} (h : i_Rel k u v) : i_Rel (k + 4) u v := h
theorem ow_i {k s g : Nat} {fq : Int32} {D S G Q sa ga bo af aw wa : Nat → Int32} (h1 : s < 720) (h2 : g < 720) (h3 : ∀ z, z < 6 → sa z = nI (bd_t s z)) (h4 : ∀ z, z < 6 → ga z = nI (bd_t g z)) (h5 : yi_ok af 2880) (h6 : ch_T g D S G) : i_Rel k (nI (bd_p s), nI (bd_p g), fq, D, S, G, Q) (sa, ga, bo, af, aw, wa) :=
  ⟨s, g, fq, D, S, G, Q, sa, ga, bo, af, aw, wa, rfl, rfl, h1, h2, h3, h4, h5, h6⟩
theorem ow_22737 : (22737 : Int32) = nI (bd_p 153) := by decide +kernel
theorem i_vc0 : wpX_init (fun u => wpY_init (fun v => i_Rel 0 u v)) := by
  unfold wpX_init
  rw [ow_22737]
  exact xw_measure (by decide) (fun fq D S G Q hT => yi_init (fun sa ga bo af aw wa h1 h2 h3 => ow_i (by decide) (by decide) h1 h2 h3 hT))
theorem i_vc_exchange {k : Nat} {u : SX} {v : SY} (I : i_Rel k u v) (hk : k + 4 ≤ 2048) (v1 : Int32) (v2 : Int32) (v3 : Int32) : wpX_exchange (fun r u' => wpY_exchange (fun r' v' => r' = r ∧ i_Rel (k + 4) u' v') v (lw_bz v1) v2 v3) u (lw_bz v1) v2 v3 := by
  have I' := I
  obtain ⟨s, g, fq, D, S, G, Q, sa, ga, bo, af, aw, wa, rfl, rfl, hs, hg, h3, h4, h5, h6⟩ := I
  rcases me_ix6 v2 with b2 | ⟨x, hx, rfl⟩
  · exact me_xe_no (Or.inl b2) (me_ye_no (Or.inl b2) ⟨rfl, I'⟩)
  · rcases me_ix6 v3 with b3 | ⟨y, hy, rfl⟩
    · exact me_xe_no (Or.inr ⟨⟨x, hx, rfl⟩, b3⟩) (me_ye_no (Or.inr ⟨⟨x, hx, rfl⟩, b3⟩) ⟨rfl, I'⟩)
    · by_cases c : lw_bz v1 = 0
      · exact me_xe0 hs hx hy c (me_ye0 hx hy c ⟨rfl, ow_i (bd_xcA hs hx hy).1 hg (me_sw hs hx hy h3) h4 h5 h6⟩)
      · exact me_xe1 hg hx hy c (fun fq D S G Q hT => me_ye1 hx hy c ⟨rfl, ow_i hs (bd_xcA hg hx hy).1 h3 (me_sw hg hx hy h4) h5 hT⟩)
theorem i_vc_move {k : Nat} {u : SX} {v : SY} (I : i_Rel k u v) (hk : k + 4 ≤ 2048) (v1 : Int32) : wpX_move (fun r u' => wpY_move (fun r' v' => r' = r ∧ i_Rel (k + 4) u' v') v v1) u v1 := by
  have I' := I
  obtain ⟨s, g, fq, D, S, G, Q, sa, ga, bo, af, aw, wa, rfl, rfl, hs, hg, h3, h4, h5, h6⟩ := I
  rcases pk_ix v1 (n := 4) (by omega) with b | b | ⟨m, hm, rfl⟩
  · exact me_xm_no (Or.inl b) (me_ym_no (Or.inl b) ⟨rfl, I'⟩)
  · exact me_xm_no (Or.inr b) (me_ym_no (Or.inr b) ⟨rfl, I'⟩)
  · by_cases c : bd_to (bd_g s) m = 6
    · exact me_xm0 hs hm c (me_ym0 hs hm c h3 ⟨rfl, I'⟩)
    · exact me_xm1 hs hm c (me_ym1 hs hm c h3 (fun sa' h' => ⟨rfl, ow_i (yi_nxt hs hm c).2.1 hg h' h4 h5 h6⟩))
theorem i_vc_cell {k : Nat} {u : SX} {v : SY} (I : i_Rel k u v) (hk : k + 4 ≤ 2048) (v1 : Int32) (v2 : Int32) : wpX_cell (fun r => wpY_cell (fun r' => r' = r ∧ i_Rel (k + 4) u v) v (lw_bz v1) v2) u (lw_bz v1) v2 := by
  have I' := I
  obtain ⟨s, g, fq, D, S, G, Q, sa, ga, bo, af, aw, wa, rfl, rfl, hs, hg, h3, h4, h5, h6⟩ := I
  rcases me_ix6 v2 with b2 | ⟨x, hx, rfl⟩
  · exact me_xc_no b2 (me_yc_no b2 ⟨rfl, I'⟩)
  · exact me_xc hx (fun c => me_yc hx (fun _ => ⟨h3 x hx, I'⟩) (fun n => absurd c n)) (fun c => me_yc hx (fun z => absurd z c) (fun _ => ⟨h4 x hx, I'⟩))
theorem i_vc_solvable {k : Nat} {u : SX} {v : SY} (I : i_Rel k u v) (hk : k + 4 ≤ 2048) : wpX_solvable (fun r => wpY_solvable (fun r' v' => r' = r ∧ i_Rel (k + 4) u v') v) u := by
  obtain ⟨s, g, fq, D, S, G, Q, sa, ga, bo, af, aw, wa, rfl, rfl, hs, hg, h3, h4, h5, h6⟩ := I
  have h6' := h6
  obtain ⟨e, ok, hD, hS⟩ := h6
  have cs : (nI s).toNatClampNeg = s := nI_clamp (by omega)
  have is : vp_in (nI s) 720 := vp_in_nI hs (by decide)
  unfold wpX_solvable wpY_solvable
  dsimp only
  refine xs_rank hs ⟨is, ?_⟩
  rw [cs, hD s hs]
  cases es : e s with
  | none =>
    refine br_t rfl (yw_measure hg h4 h5 (fun bo aw wa hT => yi_ns hs h3 (fun bo => ⟨is, ?_⟩)))
    dsimp only
    rw [cs, (se_al ok hS hT).1 s hs, es]
    exact br_t (by decide) ⟨rfl, ow_i hs hg h3 h4 h5 h6'⟩
  | some d =>
    have d7 := ok.2.2.2.2 s d hs es
    refine br_f (xs_n2 (n := d) (by omega)) (yw_measure hg h4 h5 (fun bo aw wa hT => yi_ns hs h3 (fun bo => ⟨is, ?_⟩)))
    dsimp only
    rw [cs, (se_al ok hS hT).1 s hs, es]
    exact br_f (nI_pos (n := d) (by omega)) ⟨rfl, ow_i hs hg h3 h4 h5 h6'⟩
theorem i_vc_distance {k : Nat} {u : SX} {v : SY} (I : i_Rel k u v) (hk : k + 4 ≤ 2048) : wpX_distance (fun r => wpY_distance (fun r' v' => r' = r ∧ i_Rel (k + 4) u v') v) u := by
  obtain ⟨s, g, fq, D, S, G, Q, sa, ga, bo, af, aw, wa, rfl, rfl, hs, hg, h3, h4, h5, h6⟩ := I
  have h6' := h6
  obtain ⟨e, ok, hD, hS⟩ := h6
  have cs : (nI s).toNatClampNeg = s := nI_clamp (by omega)
  have is : vp_in (nI s) 720 := vp_in_nI hs (by decide)
  unfold wpX_distance wpY_distance
  dsimp only
  refine xs_rank hs ⟨is, ?_⟩
  rw [cs, hD s hs]
  refine yw_measure hg h4 h5 (fun bo aw wa hT => yi_ns hs h3 (fun bo => ⟨is, ?_⟩))
  dsimp only
  rw [cs, (se_al ok hS hT).1 s hs]
  cases es : e s with
  | none => exact br_f (by decide) ⟨rfl, ow_i hs hg h3 h4 h5 h6'⟩
  | some d =>
    have d7 := ok.2.2.2.2 s d hs es
    exact br_t (nI_pos' (n := d) (by omega)) ⟨is, rfl, ow_i hs hg h3 h4 h5 h6'⟩
theorem i_vc_bestSolutions {k : Nat} {u : SX} {v : SY} (I : i_Rel k u v) (hk : k + 4 ≤ 2048) : wpX_bestSolutions (fun r => wpY_bestSolutions (fun r' v' => r' = r ∧ i_Rel (k + 4) u v') v) u := by
  obtain ⟨s, g, fq, D, S, G, Q, sa, ga, bo, af, aw, wa, rfl, rfl, hs, hg, h3, h4, h5, h6⟩ := I
  have h6' := h6
  obtain ⟨e, ok, hD, hS⟩ := h6
  have cs : (nI s).toNatClampNeg = s := nI_clamp (by omega)
  have is : vp_in (nI s) 720 := vp_in_nI hs (by decide)
  unfold wpX_bestSolutions wpY_bestSolutions
  dsimp only
  refine xs_rank hs ⟨is, ?_⟩
  rw [cs]
  refine yw_measure hg h4 h5 (fun bo aw wa hT => yi_ns hs h3 (fun bo => ⟨is, ?_⟩))
  dsimp only
  rw [cs, (se_al ok hS hT).1 s hs]
  cases es : e s with
  | none => exact br_f (by decide) ⟨(se_S0 ok hS hs es).symm, ow_i hs hg h3 h4 h5 h6'⟩
  | some d =>
    have d7 := ok.2.2.2.2 s d hs es
    exact br_t (nI_pos' (n := d) (by omega)) ⟨is, (se_al ok hS hT).2 d s hs es, ow_i hs hg h3 h4 h5 h6'⟩
theorem i_vc_hint {k : Nat} {u : SX} {v : SY} (I : i_Rel k u v) (hk : k + 4 ≤ 2048) (v1 : Int32) : wpX_hint (fun r => wpY_hint (fun r' v' => r' = r ∧ i_Rel (k + 4) u v') v v1) u v1 := by
  obtain ⟨s, g, fq, D, S, G, Q, sa, ga, bo, af, aw, wa, rfl, rfl, hs, hg, h3, h4, h5, h6⟩ := I
  have h6' := h6
  obtain ⟨e, ok, hD, hS⟩ := h6
  have cs : (nI s).toNatClampNeg = s := nI_clamp (by omega)
  have is : vp_in (nI s) 720 := vp_in_nI hs (by decide)
  unfold wpX_hint wpY_hint
  dsimp only
  refine br_c (fun y => ?_) (fun y => xs_rank hs ⟨is, ?_⟩)
  · refine yw_measure hg h4 h5 (fun bo aw wa hT => yi_ns hs h3 (fun bo => ⟨is, ?_⟩))
    exact br_c (fun _ => ⟨rfl, ow_i hs hg h3 h4 h5 h6'⟩) (fun _ => br_t y ⟨rfl, ow_i hs hg h3 h4 h5 h6'⟩)
  · rw [cs, hD s hs]
    cases es : e s with
    | none =>
      refine br_f ?_ (yw_measure hg h4 h5 (fun bo aw wa hT => yi_ns hs h3 (fun bo => ⟨is, ?_⟩)))
      · intro w
        exact y (Int32.lt_trans w (by decide))
      · dsimp only
        rw [cs, (se_al ok hS hT).1 s hs, es]
        exact br_t (by decide) ⟨rfl, ow_i hs hg h3 h4 h5 h6'⟩
    | some d =>
      have d7 := ok.2.2.2.2 s d hs es
      refine br_c (fun w => ?_) (fun w => yw_measure hg h4 h5 (fun bo aw wa hT => yi_ns hs h3 (fun bo => ⟨is, ?_⟩)))
      · obtain ⟨kk, hkk, rfl⟩ := nI_of y
        refine ⟨kk + 1, se_hX hkk hS kk 0 s (by omega) hs ?_⟩
        refine yw_measure hg h4 h5 (fun bo aw wa hT => yi_ns hs h3 (fun bo => ⟨is, ?_⟩))
        have hA := (se_al ok hS hT).1
        dsimp only
        rw [cs, hA s hs, es]
        exact br_f (nI_pos (n := d) (by omega)) (br_f y ⟨is, br_t w ⟨kk + 1, se_hY hkk ok.2.2.2.2 h5 hA kk 0 s (by omega) hs ⟨rfl, ow_i hs hg h3 h4 h5 h6'⟩⟩⟩)
      · dsimp only
        rw [cs, (se_al ok hS hT).1 s hs, es]
        exact br_f (nI_pos (n := d) (by omega)) (br_f y ⟨is, br_f w ⟨rfl, ow_i hs hg h3 h4 h5 h6'⟩⟩)
theorem i_vc_goodMoves {k : Nat} {u : SX} {v : SY} (I : i_Rel k u v) (hk : k + 4 ≤ 2048) : wpX_goodMoves (fun r => wpY_goodMoves (fun r' v' => r' = r ∧ i_Rel (k + 4) u v') v) u := by
  obtain ⟨s, g, fq, D, S, G, Q, sa, ga, bo, af, aw, wa, rfl, rfl, hs, hg, h3, h4, h5, h6⟩ := I
  have h6' := h6
  obtain ⟨e, ok, hD, hS⟩ := h6
  have cs : (nI s).toNatClampNeg = s := nI_clamp (by omega)
  have is : vp_in (nI s) 720 := vp_in_nI hs (by decide)
  unfold wpX_goodMoves wpY_goodMoves
  dsimp only
  refine xs_rank hs ⟨is, ?_⟩
  rw [cs, hS.2 s hs]
  exact yw_measure hg h4 h5 (fun bo aw wa hT => yi_ns hs h3 (fun bo => se_near hs ok.2.2.2.2 h5 (se_al ok hS hT).1 ⟨rfl, ow_i hs hg h3 h4 h5 h6'⟩))
theorem ow_hint0 {s g : Nat} {e : Nat → Option Nat} {S G sa ga bo af aw wa : Nat → Int32} (hs : s < 720) (hg : g < 720) (h3 : ∀ z, z < 6 → sa z = nI (bd_t s z)) (h4 : ∀ z, z < 6 → ga z = nI (bd_t g z)) (h5 : yi_ok af 2880) (ok : ch_ok g e) (hS : ch_S g (ch_dn e) S G) {post : Int32 → SY → Prop} (hp : ∀ bo aw wa, post (se_m e s) (sa, ga, bo, af, aw, wa)) : wpY_hint post (sa, ga, bo, af, aw, wa) 0 := by
  have cs : (nI s).toNatClampNeg = s := nI_clamp (by omega)
  have is : vp_in (nI s) 720 := vp_in_nI hs (by decide)
  unfold wpY_hint
  dsimp only
  refine yw_measure hg h4 h5 (fun bo aw wa hT => yi_ns hs h3 (fun bo => ⟨is, ?_⟩))
  have hA := (se_al ok hS hT).1
  dsimp only
  rw [cs, hA s hs]
  cases es : e s with
  | none =>
    have q := hp bo aw wa
    rw [se_m0 (fun k w => by rw [es] at w; cases w)] at q
    exact br_t (by decide) q
  | some d =>
    have d7 := ok.2.2.2.2 s d hs es
    refine br_f (nI_pos (n := d) (by omega)) (br_f (by decide) ⟨is, ?_⟩)
    cases d with
    | zero =>
      have q := hp bo aw wa
      rw [se_m0 (fun k w => by rw [es] at w; cases w)] at q
      exact br_f (by decide) q
    | succ d => exact br_t (show (0 : Int32) < nI (d + 1) from nI_lt (a := 0) (by omega) (by omega)) ⟨1, se_hY (kk := 0) (by omega) ok.2.2.2.2 h5 hA 0 0 s (by omega) hs (hp bo aw wa)⟩
theorem i_vc_step {k : Nat} {u : SX} {v : SY} (I : i_Rel k u v) (hk : k + 4 ≤ 2048) : wpX_step (fun r u' => wpY_step (fun r' v' => r' = r ∧ i_Rel (k + 4) u' v') v) u := by
  obtain ⟨s, g, fq, D, S, G, Q, sa, ga, bo, af, aw, wa, rfl, rfl, hs, hg, h3, h4, h5, h6⟩ := I
  have h6' := h6
  obtain ⟨e, ok, hD, hS⟩ := h6
  unfold wpX_step wpY_step
  dsimp only
  refine se_first hS hs ?_
  rcases se_mc e s with ⟨m, hm, z, em⟩ | em
  · have n7 := (ch_dnI.mp z).1
    have c6 : ¬ bd_to (bd_g s) m = 6 := fun w => by have := yi_non w; omega
    rw [em]
    refine br_f (xs_n2 (by omega)) (se_moved hs hm n7 (ow_hint0 hs hg h3 h4 h5 ok hS (fun bo aw wa => ?_)))
    rw [em]
    exact br_f (nI_pos (by omega)) (me_ym1 hs hm c6 h3 (fun sa' h' => ⟨rfl, ow_i n7 hg h' h4 h5 h6'⟩))
  · rw [em]
    refine br_t rfl (ow_hint0 hs hg h3 h4 h5 ok hS (fun bo aw wa => ?_))
    rw [em]
    exact br_t (by decide) ⟨rfl, ow_i hs hg h3 h4 h5 h6'⟩
theorem i_vc_swapBoards {k : Nat} {u : SX} {v : SY} (I : i_Rel k u v) (hk : k + 4 ≤ 2048) : wpX_swapBoards (fun u' => wpY_swapBoards (fun v' => i_Rel (k + 4) u' v') v) u := by
  obtain ⟨s, g, fq, D, S, G, Q, sa, ga, bo, af, aw, wa, rfl, rfl, hs, hg, h3, h4, h5, h6⟩ := I
  unfold wpX_swapBoards
  dsimp only
  exact xw_measure hs (fun fq D S G Q hT => me_ysw (fun sa' ga' a b => ow_i hg hs (fun z hz => by rw [a z hz]; exact h4 z hz) (fun z hz => by rw [b z hz]; exact h3 z hz) h5 hT))
