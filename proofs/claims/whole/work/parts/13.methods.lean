/-! the methods, each with a general post -/
theorem me_6 {p : Int32} (h : nI 6 ≤ p) : 6 ≤ p := h
theorem me_5 {p : Int32} (h : nI 6 ≤ p) : 5 < p := by
  rw [Int32.le_iff_toInt_le, nI_toInt (by omega)] at h
  rw [Int32.lt_iff_toInt_lt, show (5 : Int32).toInt = 5 from by decide]
  omega
theorem me_xno {p : Int32} {post : Int32 → Prop} (h : p < 0 ∨ nI 6 ≤ p) (hp : post 0) : wpX_isCell post p :=
  br_c (fun _ => hp) (fun n => br_t (h.resolve_left n) hp)
theorem me_xye {j : Nat} {post : Int32 → Prop} (h : j < 6) (hp : post 1) : wpX_isCell post (nI j) :=
  br_f (nI_pos (by omega)) (br_f (nI_ge (b := 6) h (by decide)) hp)
theorem me_yno {p : Int32} {post : Int32 → Prop} {sa ga bo af aw wa : Nat → Int32} (h : p < 0 ∨ nI 6 ≤ p) (hp : post 0) : wpY_isCell post (sa, ga, bo, af, aw, wa) p :=
  br_c (fun _ => hp) (fun n => br_t (me_5 (h.resolve_left n)) hp)
theorem me_yye {j : Nat} {post : Int32 → Prop} {sa ga bo af aw wa : Nat → Int32} (h : j < 6) (hp : post 1) : wpY_isCell post (sa, ga, bo, af, aw, wa) (nI j) :=
  br_f (nI_pos (by omega)) (br_f (show ¬ (5 : Int32) < nI j from nI_nlt (a := 5) (b := j) (by omega) (by decide)) hp)
theorem me_ix6 (x : Int32) : (x < 0 ∨ nI 6 ≤ x) ∨ ∃ j : Nat, j < 6 ∧ x = nI j := by
  rcases pk_ix x (n := 6) (by omega) with h | h | h
  · exact Or.inl (Or.inl h)
  · exact Or.inl (Or.inr h)
  · exact Or.inr h
/-- exchange -/
theorem me_xe_no {p p1 p2 : Int32} {u : SX} {post : Int32 → SX → Prop} (h : (p1 < 0 ∨ nI 6 ≤ p1) ∨ ((∃ j : Nat, j < 6 ∧ p1 = nI j) ∧ (p2 < 0 ∨ nI 6 ≤ p2))) (hp : post 0 u) : wpX_exchange post u p p1 p2 := by
  obtain ⟨fs, fg, fq, D, S, G, Q⟩ := u
  unfold wpX_exchange
  dsimp only
  rcases h with h | ⟨⟨j, hj, rfl⟩, h⟩
  · exact me_xno h (br_t rfl hp)
  · exact me_xye hj (br_f (by decide) (me_xno h (br_t rfl hp)))
theorem me_ye_no {p p1 p2 : Int32} {v : SY} {post : Int32 → SY → Prop} (h : (p1 < 0 ∨ nI 6 ≤ p1) ∨ ((∃ j : Nat, j < 6 ∧ p1 = nI j) ∧ (p2 < 0 ∨ nI 6 ≤ p2))) (hp : post 0 v) : wpY_exchange post v p p1 p2 := by
  obtain ⟨sa, ga, bo, af, aw, wa⟩ := v
  unfold wpY_exchange
  dsimp only
  rcases h with h | ⟨⟨j, hj, rfl⟩, h⟩
  · exact me_yno h (br_t rfl hp)
  · exact me_yye hj (br_f (by decide) (me_yno h (br_t rfl hp)))
theorem me_xe0 {s x y : Nat} (hs : s < 720) (hx : x < 6) (hy : y < 6) {p fg fq : Int32} (hp0 : p = 0) {D S G Q : Nat → Int32} {post : Int32 → SX → Prop} (hp : post 1 (nI (bd_p (bd_xc s x y)), fg, fq, D, S, G, Q)) : wpX_exchange post (nI (bd_p s), fg, fq, D, S, G, Q) p (nI x) (nI y) := by
  unfold wpX_exchange
  dsimp only
  exact me_xye hx (br_f (by decide) (me_xye hy (br_f (by decide) (br_t hp0 (xs_exch hs hx hy hp)))))
theorem me_xe1 {g x y : Nat} (hg : g < 720) (hx : x < 6) (hy : y < 6) {p fs fq : Int32} (hp0 : ¬ p = 0) {D S G Q : Nat → Int32} {post : Int32 → SX → Prop} (hp : ∀ fq D S G Q, ch_T (bd_xc g x y) D S G → post 1 (fs, nI (bd_p (bd_xc g x y)), fq, D, S, G, Q)) : wpX_exchange post (fs, nI (bd_p g), fq, D, S, G, Q) p (nI x) (nI y) := by
  unfold wpX_exchange
  dsimp only
  exact me_xye hx (br_f (by decide) (me_xye hy (br_f (by decide) (br_f hp0 (xs_exch hg hx hy (xw_measure (bd_xcA hg hx hy).1 (fun fq D S G Q h => hp fq D S G Q h)))))))
theorem me_ye0 {x y : Nat} (hx : x < 6) (hy : y < 6) {p : Int32} (hp0 : p = 0) {sa ga bo af aw wa : Nat → Int32} {post : Int32 → SY → Prop} (hp : post 1 (upd (upd sa x (sa y)) y (sa x), ga, bo, af, aw, wa)) : wpY_exchange post (sa, ga, bo, af, aw, wa) p (nI x) (nI y) := by
  have cx : (nI x).toNatClampNeg = x := nI_clamp (by omega)
  have cy : (nI y).toNatClampNeg = y := nI_clamp (by omega)
  have ix : vp_in (nI x) 6 := vp_in_nI hx (by decide)
  have iy : vp_in (nI y) 6 := vp_in_nI hy (by decide)
  unfold wpY_exchange
  dsimp only
  refine me_yye hx (br_f (by decide) (me_yye hy (br_f (by decide) (br_t hp0 ⟨ix, ?_⟩))))
  unfold wY_exchange_37
  exact br_t hp0 ⟨iy, ix, nm_r (show _ = upd sa x (sa y) by rw [cx, cy]) ⟨iy, nm_r (show _ = upd (upd sa x (sa y)) y (sa x) by rw [cx, cy]) hp⟩⟩
theorem me_ye1 {x y : Nat} (hx : x < 6) (hy : y < 6) {p : Int32} (hp0 : ¬ p = 0) {sa ga bo af aw wa : Nat → Int32} {post : Int32 → SY → Prop} (hp : post 1 (sa, upd (upd ga x (ga y)) y (ga x), bo, af, aw, wa)) : wpY_exchange post (sa, ga, bo, af, aw, wa) p (nI x) (nI y) := by
  have cx : (nI x).toNatClampNeg = x := nI_clamp (by omega)
  have cy : (nI y).toNatClampNeg = y := nI_clamp (by omega)
  have ix : vp_in (nI x) 6 := vp_in_nI hx (by decide)
  have iy : vp_in (nI y) 6 := vp_in_nI hy (by decide)
  unfold wpY_exchange
  dsimp only
  refine me_yye hx (br_f (by decide) (me_yye hy (br_f (by decide) (br_f hp0 ⟨ix, ?_⟩))))
  unfold wY_exchange_37
  exact br_f hp0 ⟨iy, ix, nm_r (show _ = upd ga x (ga y) by rw [cx, cy]) ⟨iy, nm_r (show _ = upd (upd ga x (ga y)) y (ga x) by rw [cx, cy]) hp⟩⟩
theorem me_sw {s x y : Nat} (hs : s < 720) (hx : x < 6) (hy : y < 6) {sa : Nat → Int32} (h : ∀ z, z < 6 → sa z = nI (bd_t s z)) : ∀ z, z < 6 → upd (upd sa x (sa y)) y (sa x) z = nI (bd_t (bd_xc s x y) z) := by
  intro z hz
  rw [(bd_xcA hs hx hy).2.2 z hz]
  unfold bd_sw
  by_cases c : z = y
  · rw [c, pk_us, if_pos rfl, h x hx]
  · rw [pk_un c, if_neg c]
    by_cases c2 : z = x
    · rw [c2, pk_us, if_pos rfl, h y hy]
    · rw [pk_un c2, if_neg c2, h z hz]
/-- move -/
theorem me_xm_no {p : Int32} (h : p < 0 ∨ nI 4 ≤ p) {u : SX} {post : Int32 → SX → Prop} (hp : post (-1) u) : wpX_move post u p := by
  obtain ⟨fs, fg, fq, D, S, G, Q⟩ := u
  unfold wpX_move
  dsimp only
  refine br_c (fun _ => hp) (fun n => br_f (fun w => ?_) hp)
  have h' : (4 : Int32) ≤ p := h.resolve_left n
  exact absurd w (Int32.not_lt.mpr h')
theorem me_ym_no {p : Int32} (h : p < 0 ∨ nI 4 ≤ p) {v : SY} {post : Int32 → SY → Prop} (hp : post (-1) v) : wpY_move post v p := by
  obtain ⟨sa, ga, bo, af, aw, wa⟩ := v
  unfold wpY_move
  dsimp only
  refine br_c (fun _ => hp) (fun n => br_f (fun w => ?_) hp)
  have h' := h.resolve_left n
  rw [Int32.le_iff_toInt_le, nI_toInt (by omega)] at h'
  rw [Int32.le_iff_toInt_le, show (3 : Int32).toInt = 3 from by decide] at w
  omega
theorem me_xm0 {s m : Nat} (hs : s < 720) (hm : m < 4) (c : bd_to (bd_g s) m = 6) {fg fq : Int32} {D S G Q : Nat → Int32} {post : Int32 → SX → Prop} (hp : post (-2) (nI (bd_p s), fg, fq, D, S, G, Q)) : wpX_move post (nI (bd_p s), fg, fq, D, S, G, Q) (nI m) := by
  unfold wpX_move
  dsimp only
  exact br_f (nI_pos (by omega)) (br_t (nI_lt (b := 4) hm (by decide)) (xs_gap hs (xs_ga1 (bd_g6 s) hm c (br_t rfl hp))))
theorem me_xm1 {s m : Nat} (hs : s < 720) (hm : m < 4) (c : ¬ bd_to (bd_g s) m = 6) {fg fq : Int32} {D S G Q : Nat → Int32} {post : Int32 → SX → Prop} (hp : post (nI (bd_to (bd_g s) m)) (nI (bd_p (bd_nx s m)), fg, fq, D, S, G, Q)) : wpX_move post (nI (bd_p s), fg, fq, D, S, G, Q) (nI m) := by
  obtain ⟨n1, n2, n3⟩ := yi_nxt hs hm c
  rw [n1] at hp
  unfold wpX_move
  dsimp only
  exact br_f (nI_pos (by omega)) (br_t (nI_lt (b := 4) hm (by decide)) (xs_gap hs (xs_ga2 (bd_g6 s) hm c (br_f (xs_n2 (by omega)) (xs_exch hs (bd_g6 s) n3 hp)))))
theorem me_ym15 {s m : Nat} (hs : s < 720) {sa ga bo af aw wa : Nat → Int32} (ht : ∀ z, z < 6 → sa z = nI (bd_t s z)) {post : Int32 → SY → Prop} (h : wY_move_15 post (nI m) sa ga bo af aw wa 1 (nI (bd_g s)) (nI 6)) : ∀ d : Nat, d ≤ 6 → wY_move_15 post (nI m) sa ga bo af aw wa (d + 1) (nI (if bd_g s < 6 - d then bd_g s else 0)) (nI (6 - d)) := by
  intro d
  induction d with
  | zero => intro _; rw [if_pos (bd_g6 s)]; exact h
  | succ d ih =>
    intro hd
    have hy : 5 - d < 6 := by omega
    have e6 : 6 - (d + 1) = 5 - d := by omega
    have e1 : nI (5 - d) + 1 = nI (6 - d) := by rw [nI_1]; congr 1; omega
    have a1 := bd_t6 hs hy
    have z := bd_gz hs hy
    rw [e6]
    refine br_f (nI_ge (b := 6) hy (by decide)) ⟨vp_in_nI hy (by decide), pk_eq (bd_t s (5 - d)) 0 (fun hc => nm_r e1 ?_) (fun hc => nm_r e1 ?_) (by rw [nI_clamp (by omega), ht _ hy])⟩
    · have q := ih (by omega)
      have e := z.mp hc
      rw [if_pos (by omega), ← e] at q
      exact q
    · have q := ih (by omega)
      have e : ¬ 5 - d = bd_g s := fun w => hc (z.mpr w)
      by_cases c : bd_g s < 5 - d
      · rw [if_pos (by omega)] at q; rw [if_pos c]; exact q
      · rw [if_neg (by omega)] at q; rw [if_neg c]; exact q
theorem me_ymA {s m : Nat} (hs : s < 720) (hm : m < 4) {sa ga bo af aw wa : Nat → Int32} (ht : ∀ z, z < 6 → sa z = nI (bd_t s z)) {post : Int32 → SY → Prop} (h : wY_move_15 post (nI m) sa ga bo af aw wa 1 (nI (bd_g s)) (nI 6)) : wpY_move post (sa, ga, bo, af, aw, wa) (nI m) := by
  unfold wpY_move
  dsimp only
  refine br_f (nI_pos (by omega)) (br_t (nI_le (b := 3) (by omega) (by decide)) ⟨7, ?_⟩)
  have q := me_ym15 hs ht h 6 (by omega)
  have e : (if bd_g s < 6 - 6 then bd_g s else 0) = 0 := by split <;> omega
  rw [e] at q
  exact q
theorem me_ym0 {s m : Nat} (hs : s < 720) (hm : m < 4) (c : bd_to (bd_g s) m = 6) {sa ga bo af aw wa : Nat → Int32} (ht : ∀ z, z < 6 → sa z = nI (bd_t s z)) {post : Int32 → SY → Prop} (hp : post (-2) (sa, ga, bo, af, aw, wa)) : wpY_move post (sa, ga, bo, af, aw, wa) (nI m) :=
  me_ymA hs hm ht (br_t (by decide) (ys_tg1 (bd_g6 s) hm c (br_f (by decide) hp)))
theorem me_ym1 {s m : Nat} (hs : s < 720) (hm : m < 4) (c : ¬ bd_to (bd_g s) m = 6) {sa ga bo af aw wa : Nat → Int32} (ht : ∀ z, z < 6 → sa z = nI (bd_t s z)) {post : Int32 → SY → Prop} (hp : ∀ sa', (∀ z, z < 6 → sa' z = nI (bd_t (bd_nx s m) z)) → post (nI (bd_to (bd_g s) m)) (sa', ga, bo, af, aw, wa)) : wpY_move post (sa, ga, bo, af, aw, wa) (nI m) := by
  obtain ⟨n1, n2, n3⟩ := yi_nxt hs hm c
  refine me_ymA hs hm ht (br_t (by decide) (ys_tg2 (bd_g6 s) hm c (br_t (nI_pos' (by omega)) (me_ye0 (bd_g6 s) n3 rfl (hp _ ?_)))))
  rw [n1]
  exact me_sw hs (bd_g6 s) n3 ht
/-- cell -/
theorem me_xc_no {p p1 : Int32} {u : SX} {post : Int32 → Prop} (h : p1 < 0 ∨ nI 6 ≤ p1) (hp : post (-1)) : wpX_cell post u p p1 := by
  obtain ⟨fs, fg, fq, D, S, G, Q⟩ := u
  unfold wpX_cell
  dsimp only
  exact me_xno h (br_t rfl hp)
theorem me_yc_no {p p1 : Int32} {v : SY} {post : Int32 → Prop} (h : p1 < 0 ∨ nI 6 ≤ p1) (hp : post (-1)) : wpY_cell post v p p1 := by
  obtain ⟨sa, ga, bo, af, aw, wa⟩ := v
  unfold wpY_cell
  dsimp only
  exact me_yno h (br_t rfl hp)
theorem me_xc {s g x : Nat} (hx : x < 6) {p fq : Int32} {D S G Q : Nat → Int32} {post : Int32 → Prop} (h0 : p = 0 → post (nI (bd_t s x))) (h1 : ¬ p = 0 → post (nI (bd_t g x))) : wpX_cell post (nI (bd_p s), nI (bd_p g), fq, D, S, G, Q) p (nI x) := by
  unfold wpX_cell
  dsimp only
  exact me_xye hx (br_f (by decide) (br_c (fun c => xs_at (xs_tile hx) (h0 c)) (fun c => xs_at (xs_tile hx) (h1 c))))
theorem me_yc {x : Nat} (hx : x < 6) {p : Int32} {sa ga bo af aw wa : Nat → Int32} {post : Int32 → Prop} (h0 : p = 0 → post (sa x)) (h1 : ¬ p = 0 → post (ga x)) : wpY_cell post (sa, ga, bo, af, aw, wa) p (nI x) := by
  have cx : (nI x).toNatClampNeg = x := nI_clamp (by omega)
  have ix : vp_in (nI x) 6 := vp_in_nI hx (by decide)
  unfold wpY_cell
  dsimp only
  rw [cx]
  exact me_yye hx (br_f (by decide) (br_c (fun c => ⟨ix, h0 c⟩) (fun c => ⟨ix, h1 c⟩)))
/-- swapBoards -/
theorem me_yswL {sa0 ga0 bo af aw wa : Nat → Int32} {post : SY → Prop} (hp : ∀ sa ga, (∀ z, z < 6 → sa z = ga0 z) → (∀ z, z < 6 → ga z = sa0 z) → post (sa, ga, bo, af, aw, wa)) : ∀ (d : Nat) (sa ga : Nat → Int32), d ≤ 6 → (∀ z, z < 6 → sa z = if z < 6 - d then ga0 z else sa0 z) → (∀ z, z < 6 → ga z = if z < 6 - d then sa0 z else ga0 z) → wY_swapBoards_2 post (d + 1) (nI (6 - d)) sa ga bo af aw wa := by
  intro d
  induction d with
  | zero =>
    intro sa ga _ h1 h2
    exact br_t (by decide) (hp sa ga (fun z hz => by rw [h1 z hz, if_pos hz]) (fun z hz => by rw [h2 z hz, if_pos hz]))
  | succ d ih =>
    intro sa ga hd h1 h2
    have hy : 5 - d < 6 := by omega
    have e6 : 6 - (d + 1) = 5 - d := by omega
    have e1 : nI (5 - d) + 1 = nI (6 - d) := by rw [nI_1]; congr 1; omega
    have cl : (nI (5 - d)).toNatClampNeg = 5 - d := nI_clamp (by omega)
    have iv : vp_in (nI (5 - d)) 6 := vp_in_nI hy (by decide)
    rw [e6] at h1 h2 ⊢
    refine br_f (nI_ge (b := 6) hy (by decide)) ⟨iv, nm_r (show _ = sa (5 - d) by rw [cl]) ⟨iv, iv, nm_r (show _ = upd sa (5 - d) (ga (5 - d)) by rw [cl]) ⟨iv, nm_r (show _ = upd ga (5 - d) (sa (5 - d)) by rw [cl]) (nm_r e1 (ih _ _ (by omega) ?_ ?_))⟩⟩⟩
    · intro z hz
      by_cases c : z = 5 - d
      · rw [c, pk_us, if_pos (by omega), h2 _ hy, if_neg (by omega)]
      · rw [pk_un c, h1 z hz]
        by_cases c2 : z < 5 - d
        · rw [if_pos c2, if_pos (by omega)]
        · rw [if_neg c2, if_neg (by omega)]
    · intro z hz
      by_cases c : z = 5 - d
      · rw [c, pk_us, if_pos (by omega), h1 _ hy, if_neg (by omega)]
      · rw [pk_un c, h2 z hz]
        by_cases c2 : z < 5 - d
        · rw [if_pos c2, if_pos (by omega)]
        · rw [if_neg c2, if_neg (by omega)]
theorem me_ysw {sa ga bo af aw wa : Nat → Int32} {post : SY → Prop} (hp : ∀ sa' ga', (∀ z, z < 6 → sa' z = ga z) → (∀ z, z < 6 → ga' z = sa z) → post (sa', ga', bo, af, aw, wa)) : wpY_swapBoards post (sa, ga, bo, af, aw, wa) :=
  ⟨7, me_yswL hp 6 sa ga (by omega) (fun z hz => by rw [if_neg (by omega)]) (fun z hz => by rw [if_neg (by omega)])⟩
