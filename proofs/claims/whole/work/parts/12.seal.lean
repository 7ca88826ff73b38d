/-! both searches give one table; the good moves of a board; hints -/
theorem se_al {g : Nat} {e : Nat → Option Nat} {S G aw wa : Nat → Int32} (ok : ch_ok g e) (hS : ch_S g (ch_dn e) S G) (hY : yb_T g aw wa) : (∀ b, b < 720 → aw b = yb_v (e b)) ∧ (∀ k b, b < 720 → e b = some k → wa b = S b) := by
  obtain ⟨e', ok', hA, hW⟩ := hY
  have eq : ∀ b, b < 720 → e' b = e b := fun b hb => ch_uniq ok' ok hb
  have dn : ∀ b m, b < 720 → ch_dn e' b m = ch_dn e b m := by
    intro b m hb
    unfold ch_dn
    rw [eq b hb]
    by_cases c : bd_nx b m < 720
    · rw [eq _ c]
    · rw [decide_eq_false c, Bool.false_and, Bool.false_and]
  refine ⟨fun b hb => by rw [hA b hb, eq b hb], ?_⟩
  intro k
  induction k with
  | zero =>
    intro b hb eb
    rw [hW b 0 hb (by rw [eq b hb]; exact eb), hS.1 b hb]
    refine yb_sumc (fun m _ => dn b m hb) (fun m hm z => ?_)
    obtain ⟨a1, i, a2, a3⟩ := ch_dnI.mp z
    rw [eb] at a2
    cases a2
  | succ k ih =>
    intro b hb eb
    rw [hW b (k + 1) hb (by rw [eq b hb]; exact eb), hS.1 b hb]
    refine yb_sumc (fun m _ => dn b m hb) (fun m hm z => ?_)
    obtain ⟨a1, i, a2, a3⟩ := ch_dnI.mp z
    rw [eb] at a2
    cases a2
    exact ih _ a1 a3
theorem se_S0 {g b : Nat} {e : Nat → Option Nat} {S G : Nat → Int32} (ok : ch_ok g e) (hS : ch_S g (ch_dn e) S G) (hb : b < 720) (eb : e b = none) : S b = 0 := by
  have df : ∀ m, ch_dn e b m = false := by
    intro m
    cases z : ch_dn e b m with
    | false => rfl
    | true =>
      obtain ⟨_, i, a2, _⟩ := ch_dnI.mp z
      rw [eb] at a2
      cases a2
  rw [hS.1 b hb]
  unfold ch_sum
  rw [df, df, df, df, if_neg (fun w => by rw [w, ok.1] at eb; cases eb)]
  rfl
def se_f (p q r t : Bool) : Int32 := if p then 0 else if q then 1 else if r then 2 else if t then 3 else -2
def se_m (e : Nat → Option Nat) (b : Nat) : Int32 := se_f (ch_dn e b 0) (ch_dn e b 1) (ch_dn e b 2) (ch_dn e b 3)
def se_g (e : Nat → Option Nat) (b : Nat) : Int32 := ch_gs (ch_dn e b 0) (ch_dn e b 1) (ch_dn e b 2) (ch_dn e b 3)
theorem se_mc (e : Nat → Option Nat) (b : Nat) : (∃ m, m < 4 ∧ ch_dn e b m = true ∧ se_m e b = nI m) ∨ se_m e b = -2 := by
  unfold se_m se_f
  cases h0 : ch_dn e b 0 with
  | true => exact Or.inl ⟨0, by omega, h0, rfl⟩
  | false =>
    cases h1 : ch_dn e b 1 with
    | true => exact Or.inl ⟨1, by omega, h1, rfl⟩
    | false =>
      cases h2 : ch_dn e b 2 with
      | true => exact Or.inl ⟨2, by omega, h2, rfl⟩
      | false =>
        cases h3 : ch_dn e b 3 with
        | true => exact Or.inl ⟨3, by omega, h3, rfl⟩
        | false => exact Or.inr rfl
theorem se_m0 {e : Nat → Option Nat} {b : Nat} (h : ∀ k, ¬ e b = some (k + 1)) : se_m e b = -2 := by
  rcases se_mc e b with ⟨m, _, z, _⟩ | z
  · obtain ⟨_, i, a2, _⟩ := ch_dnI.mp z
    exact absurd a2 (h i)
  · exact z
theorem se_1 : (0 : Int32) + 1 = 1 := by decide
theorem se_2 : (1 : Int32) + 1 = 2 := by decide
theorem se_3 : (2 : Int32) + 1 = 3 := by decide
theorem se_4 : (3 : Int32) + 1 = 4 := by decide
theorem se_low (p q r t : Bool) {post : Int32 → Prop} {sa ga bo af aw wa : Nat → Int32} (h : post (se_f p q r t)) : wpY_lowest post (sa, ga, bo, af, aw, wa) (ch_gs p q r t) := by
  refine ⟨5, ?_⟩
  cases p <;> cases q <;> cases r <;> cases t <;> first
    | exact br_f (by decide) (br_t (by decide) h)
    | exact br_f (by decide) (br_f (by decide) (nm_r se_1 (br_f (by decide) (br_t (by decide) h))))
    | exact br_f (by decide) (br_f (by decide) (nm_r se_1 (br_f (by decide) (br_f (by decide) (nm_r se_2 (br_f (by decide) (br_t (by decide) h)))))))
    | exact br_f (by decide) (br_f (by decide) (nm_r se_1 (br_f (by decide) (br_f (by decide) (nm_r se_2 (br_f (by decide) (br_f (by decide) (nm_r se_3 (br_f (by decide) (br_t (by decide) h))))))))))
    | exact br_f (by decide) (br_f (by decide) (nm_r se_1 (br_f (by decide) (br_f (by decide) (nm_r se_2 (br_f (by decide) (br_f (by decide) (nm_r se_3 (br_f (by decide) (br_f (by decide) (nm_r se_4 (br_t (by decide) h))))))))))))
theorem se_first12 (p q r t : Bool) {post : Int32 → Prop} {fs fg fq : Int32} {D S G Q : Nat → Int32} (h : post (se_f p q r t)) : wX_firstGoodMove_12 post (ch_gs p q r t) fs fg fq D S G Q 5 0 := by
  cases p <;> cases q <;> cases r <;> cases t <;> first
    | exact br_f (by decide) (br_f (by decide) h)
    | exact br_f (by decide) (br_t (by decide) (nm_r se_1 (br_f (by decide) (br_f (by decide) h))))
    | exact br_f (by decide) (br_t (by decide) (nm_r se_1 (br_f (by decide) (br_t (by decide) (nm_r se_2 (br_f (by decide) (br_f (by decide) h)))))))
    | exact br_f (by decide) (br_t (by decide) (nm_r se_1 (br_f (by decide) (br_t (by decide) (nm_r se_2 (br_f (by decide) (br_t (by decide) (nm_r se_3 (br_f (by decide) (br_f (by decide) h))))))))))
    | exact br_f (by decide) (br_t (by decide) (nm_r se_1 (br_f (by decide) (br_t (by decide) (nm_r se_2 (br_f (by decide) (br_t (by decide) (nm_r se_3 (br_f (by decide) (br_t (by decide) (nm_r se_4 (br_t (by decide) h))))))))))))
theorem se_first {g b : Nat} {e : Nat → Option Nat} {S G : Nat → Int32} (hS : ch_S g (ch_dn e) S G) (hb : b < 720) {post : Int32 → Prop} {fs fg fq : Int32} {D Q : Nat → Int32} (h : post (se_m e b)) : wpX_firstGoodMove post (fs, fg, fq, D, S, G, Q) (nI (bd_p b)) := by
  have cb : (nI b).toNatClampNeg = b := nI_clamp (by omega)
  exact xs_rank hb ⟨vp_in_nI hb (by decide), nm_r (show _ = se_g e b by rw [cb, hS.2 b hb]; rfl) ⟨5, se_first12 _ _ _ _ h⟩⟩
theorem se_moved {b m : Nat} (hb : b < 720) (hm : m < 4) (hn : bd_nx b m < 720) {post : Int32 → Prop} (h : post (nI (bd_p (bd_nx b m)))) : wpX_moved post (nI (bd_p b)) (nI m) := by
  have c6 : ¬ bd_to (bd_g b) m = 6 := fun w => by have := yi_non w; omega
  obtain ⟨n1, n2, n3⟩ := yi_nxt hb hm c6
  rw [n1] at h
  exact xs_gap hb (xs_ga2 (bd_g6 b) hm c6 (br_f (xs_n2 (by omega)) (xs_exch hb (bd_g6 b) n3 h)))
theorem se_stay {b : Nat} (hb : b < 720) {post : Int32 → Prop} (h : post (nI (bd_p b))) : wpX_moved post (nI (bd_p b)) (-2) :=
  xs_gap hb (xs_ga3 (bd_g6 b) (br_t rfl h))
def se_w (w : Nat → Bool) : Nat → Int32
  | 0 => 0
  | m + 1 => if w m then se_w w m ||| ((1 : Int32) <<< (nI m &&& 31)) else se_w w m
theorem se_w4 (w : Nat → Bool) : se_w w 4 = ch_gs (w 0) (w 1) (w 2) (w 3) := by
  unfold se_w se_w se_w se_w se_w
  generalize w 0 = p
  generalize w 1 = q
  generalize w 2 = r
  generalize w 3 = t
  cases p <;> cases q <;> cases r <;> cases t <;> decide
theorem se_nearL {b : Nat} (hb : b < 720) {e : Nat → Option Nat} (hk : ∀ x k, x < 720 → e x = some k → k < 720) {sa ga bo af aw wa : Nat → Int32} (haf : yi_ok af 2880) (hA : ∀ x, x < 720 → aw x = yb_v (e x)) {post : Int32 → Prop} (h : post (se_g e b)) : ∀ j : Nat, j ≤ 4 → wY_nearer_4 post (nI b) sa ga bo af aw wa (j + 1) (se_w (ch_dn e b) (4 - j)) (nI (4 - j)) := by
  intro j
  have cb : (nI b).toNatClampNeg = b := nI_clamp (by omega)
  have ib : vp_in (nI b) 720 := vp_in_nI hb (by decide)
  induction j with
  | zero => intro _; exact br_t (by decide) (by show post (se_w (ch_dn e b) 4); rw [se_w4]; exact h)
  | succ j ih =>
    intro hj
    have hy : 3 - j < 4 := by omega
    have e6 : 4 - (j + 1) = 3 - j := by omega
    have e7 : 4 - j = 3 - j + 1 := by omega
    have e1 : nI (3 - j) + 1 = nI (4 - j) := by rw [nI_1]; congr 1; omega
    have q := ih (by omega)
    rw [e6]
    obtain ⟨iv, av⟩ := yw_ix hb hy haf
    have same : ch_dn e b (3 - j) = false → wY_nearer_4 post (nI b) sa ga bo af aw wa (j + 1) (se_w (ch_dn e b) (3 - j)) (nI (4 - j)) := by
      intro z
      have : se_w (ch_dn e b) (4 - j) = se_w (ch_dn e b) (3 - j) := by
        rw [e7]
        show (if ch_dn e b (3 - j) then _ else _) = _
        rw [z]
        rfl
      rw [this] at q
      exact q
    have fals : (∀ k, ¬ e b = some (k + 1)) → ch_dn e b (3 - j) = false := by
      intro w
      cases z : ch_dn e b (3 - j) with
      | false => rfl
      | true =>
        obtain ⟨_, i, a2, _⟩ := ch_dnI.mp z
        exact absurd a2 (w i)
    refine br_f (nI_ge (b := 4) hy (by decide)) ⟨iv, nm_r av ⟨ib, ?_⟩⟩
    rw [cb, hA b hb]
    cases eb : e b with
    | none => exact br_t (by decide) (nm_r e1 (same (fals (fun k w => by rw [eb] at w; cases w))))
    | some k =>
      cases k with
      | zero => exact br_t (by decide) (nm_r e1 (same (fals (fun k w => by rw [eb] at w; cases w))))
      | succ k =>
        have k7 := hk b (k + 1) hb eb
        refine br_f (show ¬ nI (k + 1) ≤ 0 from nI_nle (by omega) (by omega)) ?_
        by_cases c : bd_nx b (3 - j) < 720
        · rw [yw_af1 c]
          have cn' : (nI (bd_nx b (3 - j))).toNatClampNeg = bd_nx b (3 - j) := nI_clamp (by omega)
          have inx : vp_in (nI (bd_nx b (3 - j))) 720 := vp_in_nI c (by decide)
          have t : yb_v (e (bd_nx b (3 - j))) = yb_v (some (k + 1)) - 1 ↔ ch_dn e b (3 - j) = true := by
            rw [ch_dnI]
            show yb_v (e (bd_nx b (3 - j))) = nI (k + 1) - 1 ↔ _
            rw [nI_pred]
            constructor
            · intro w
              refine ⟨c, k, eb, ?_⟩
              cases z : e (bd_nx b (3 - j)) with
              | none => rw [z] at w; exact absurd w (yb_neg (by omega))
              | some i =>
                rw [z] at w
                have i7 := hk _ i c z
                have w' : nI i = nI k := w
                rw [nI_eq (by omega) (by omega)] at w'
                rw [w']
            · rintro ⟨_, i, a2, a3⟩
              rw [eb] at a2
              cases a2
              rw [a3]
              rfl
          refine br_f (nI_pos (by omega)) ⟨inx, ib, br_c (fun y => nm_r (e' := se_w (ch_dn e b) (4 - j)) ?_ (nm_r e1 q)) (fun y => nm_r e1 (same ?_))⟩
          · rw [cn', hA _ c, t] at y
            rw [e7]
            show _ = (if ch_dn e b (3 - j) then _ else _)
            rw [if_pos y]
          · rw [cn', hA _ c, t] at y
            cases z : ch_dn e b (3 - j) with
            | false => rfl
            | true => exact absurd z y
        · rw [yw_af0 c]
          refine br_t (by decide) (nm_r e1 (same ?_))
          cases z : ch_dn e b (3 - j) with
          | false => rfl
          | true => exact absurd (ch_dnI.mp z).1 c
theorem se_near {b : Nat} (hb : b < 720) {e : Nat → Option Nat} (hk : ∀ x k, x < 720 → e x = some k → k < 720) {sa ga bo af aw wa : Nat → Int32} (haf : yi_ok af 2880) (hA : ∀ x, x < 720 → aw x = yb_v (e x)) {post : Int32 → Prop} (h : post (se_g e b)) : wpY_nearer post (sa, ga, bo, af, aw, wa) (nI b) :=
  ⟨5, se_nearL hb hk haf hA h 4 (by omega)⟩
/-- the board that k best moves lead to -/
def se_nb (e : Nat → Option Nat) (b : Nat) : Nat := if ch_dn e b 0 then bd_nx b 0 else if ch_dn e b 1 then bd_nx b 1 else if ch_dn e b 2 then bd_nx b 2 else if ch_dn e b 3 then bd_nx b 3 else b
theorem se_nbc (e : Nat → Option Nat) (b : Nat) : (∃ m, m < 4 ∧ ch_dn e b m = true ∧ se_m e b = nI m ∧ se_nb e b = bd_nx b m) ∨ (se_m e b = -2 ∧ se_nb e b = b) := by
  unfold se_m se_f se_nb
  cases h0 : ch_dn e b 0 with
  | true => exact Or.inl ⟨0, by omega, h0, rfl, rfl⟩
  | false =>
    cases h1 : ch_dn e b 1 with
    | true => exact Or.inl ⟨1, by omega, h1, rfl, rfl⟩
    | false =>
      cases h2 : ch_dn e b 2 with
      | true => exact Or.inl ⟨2, by omega, h2, rfl, rfl⟩
      | false =>
        cases h3 : ch_dn e b 3 with
        | true => exact Or.inl ⟨3, by omega, h3, rfl, rfl⟩
        | false => exact Or.inr ⟨rfl, rfl⟩
def se_go (e : Nat → Option Nat) : Nat → Nat → Nat
  | 0, b => b
  | j + 1, b => se_go e j (se_nb e b)
theorem se_hX {g kk : Nat} (hkk : kk < 2 ^ 31) {e : Nat → Option Nat} {S G : Nat → Int32} (hS : ch_S g (ch_dn e) S G) {post : Int32 → Prop} {fs fg fq : Int32} {D Q : Nat → Int32} : ∀ (j i b : Nat), i + j = kk → b < 720 → post (se_m e (se_go e j b)) → wX_hint_30 post (nI kk) fs fg fq D S G Q (j + 1) (nI (bd_p b)) (nI i) := by
  intro j
  induction j with
  | zero =>
    intro i b hi hb h
    exact br_t (nI_le (by omega) (by omega)) (se_first hS hb h)
  | succ j ih =>
    intro i b hi hb h
    refine br_f (nI_ge (by omega) (by omega)) (se_first hS hb ?_)
    rcases se_nbc e b with ⟨m, hm, z, em, en⟩ | ⟨em, en⟩
    · rw [em]
      have n7 := (ch_dnI.mp z).1
      refine se_moved hb hm n7 (nm_r (nI_1 i) (ih (i + 1) _ (by omega) n7 ?_))
      rw [← en]
      exact h
    · rw [em]
      refine se_stay hb (nm_r (nI_1 i) (ih (i + 1) _ (by omega) hb ?_))
      have : se_go e (j + 1) b = se_go e j b := by show se_go e j (se_nb e b) = _; rw [en]
      rw [this] at h
      exact h
theorem se_hY {kk : Nat} (hkk : kk < 2 ^ 31) {e : Nat → Option Nat} (hk : ∀ x k, x < 720 → e x = some k → k < 720) {sa ga bo af aw wa : Nat → Int32} (haf : yi_ok af 2880) (hA : ∀ x, x < 720 → aw x = yb_v (e x)) {post : Int32 → SY → Prop} : ∀ (j i b : Nat), i + j = kk → b < 720 → post (se_m e (se_go e j b)) (sa, ga, bo, af, aw, wa) → wY_hint_37 post (nI kk) sa ga bo af aw wa (j + 1) (nI b) (nI i) := by
  intro j
  induction j with
  | zero =>
    intro i b hi hb h
    exact br_t (nI_le (by omega) (by omega)) (se_near hb hk haf hA (se_low _ _ _ _ h))
  | succ j ih =>
    intro i b hi hb h
    refine br_f (nI_ge (by omega) (by omega)) (se_near hb hk haf hA (se_low _ _ _ _ ?_))
    have sm : se_f (ch_dn e b 0) (ch_dn e b 1) (ch_dn e b 2) (ch_dn e b 3) = se_m e b := rfl
    rw [sm]
    rcases se_nbc e b with ⟨m, hm, z, em, en⟩ | ⟨em, en⟩
    · rw [em]
      have n7 := (ch_dnI.mp z).1
      obtain ⟨iv, av⟩ := yw_ix hb hm haf
      refine br_f (nI_pos (by omega)) ⟨iv, nm_r (av.trans (yw_af1 n7)) (nm_r (nI_1 i) (ih (i + 1) _ (by omega) n7 ?_))⟩
      rw [← en]
      exact h
    · rw [em]
      refine br_t (by decide) (nm_r (nI_1 i) (ih (i + 1) _ (by omega) hb ?_))
      have : se_go e (j + 1) b = se_go e j b := by show se_go e j (se_nb e b) = _; rw [en]
      rw [this] at h
      exact h
