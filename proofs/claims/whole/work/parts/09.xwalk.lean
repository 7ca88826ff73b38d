/-! X's search: the walks -/
def ch_T (g : Nat) (D S G : Nat → Int32) : Prop := ∃ e, ch_ok g e ∧ (∀ b, b < 720 → D b = xb_dv (e b)) ∧ ch_S g (ch_dn e) S G
def xb_O (g h q : Nat) (D S G Q : Nat → Int32) : Prop := ∃ (L : Nat) (e : Nat → Option Nat) (qs : Nat → Nat) (pr : Nat → Nat → Bool), xb_E g h q L e qs D Q ∧ xb_P h 0 L e qs pr ∧ ch_S g (xb_xd e pr) S G
theorem xb_in {g h q : Nat} {D S G Q : Nat → Int32} (H : xb_O g h q D S G Q) (hh : h < q) : ∃ L c, c < 720 ∧ Q h = nI (bd_p c) ∧ xb_I g h 0 L c q D S G Q := by
  obtain ⟨L, e, qs, pr, hE, hP, hS⟩ := H
  have e3 := hE.2.2.1 h hh
  exact ⟨L, qs h, e3.1, e3.2.1, e, qs, pr, hE, hP, hS, hh, rfl⟩
theorem xb_out {g h q L c : Nat} {D S G Q : Nat → Int32} (H : xb_I g h 4 L c q D S G Q) : xb_O g (h + 1) q D S G Q := by
  obtain ⟨e, qs, pr, hE, hP, hS, hh, hc⟩ := H
  obtain ⟨e1, e2, e3, e4, e5, e6, e7, e8, e9, e10, e11⟩ := hE
  obtain ⟨L', hL, hL2⟩ : ∃ L', L ≤ L' ∧ (h + 1 < q → e (qs (h + 1)) = some L') := by
    by_cases z : h + 1 < q
    · obtain ⟨_, _, k, ek, _⟩ := e3 (h + 1) z
      exact ⟨k, e4 h (h + 1) L k (by omega) z (e11 hh) ek, fun _ => ek⟩
    · exact ⟨L, Nat.le_refl _, fun y => absurd y z⟩
  refine ⟨L', e, qs, pr, ⟨e1, ?_, e3, e4, e5, e6, e7, e8, e9, by omega, hL2⟩, ⟨?_, ?_⟩, hS⟩
  · intro b k hb eb
    obtain ⟨a1, a2⟩ := e2 b k hb eb
    exact ⟨by omega, a2⟩
  · intro c' m'
    rw [hP.1 c' m']
    constructor
    · rintro ⟨a, ⟨i, hi, ei⟩ | ⟨b1, b2⟩⟩
      · exact ⟨a, Or.inl ⟨i, by omega, ei⟩⟩
      · exact ⟨a, Or.inl ⟨h, by omega, b1.symm⟩⟩
    · rintro ⟨a, ⟨i, hi, ei⟩ | ⟨b1, b2⟩⟩
      · by_cases z : i = h
        · exact ⟨a, Or.inr ⟨by rw [← ei, z], a⟩⟩
        · exact ⟨a, Or.inl ⟨i, by omega, ei⟩⟩
      · omega
  · intro c' m' z
    obtain ⟨a1, k, a2, a3, a4⟩ := hP.2 c' m' z
    exact ⟨a1, k, a2, by omega, a4⟩
theorem xb_q7 {g h q : Nat} {D S G Q : Nat → Int32} (H : xb_O g h q D S G Q) : h ≤ q ∧ q ≤ 720 := by
  obtain ⟨L, e, qs, pr, hE, hP, hS⟩ := H
  obtain ⟨e1, e2, e3, e4, e5, e6, e7, e8, e9, e10, e11⟩ := hE
  exact ⟨e10, by omega⟩
theorem xb_end {g q : Nat} {D S G Q : Nat → Int32} (H : xb_O g q q D S G Q) : ch_T g D S G := by
  obtain ⟨L, e, qs, pr, hE, hP, hS⟩ := H
  obtain ⟨e1, e2, e3, e4, e5, e6, e7, e8, e9, e10, e11⟩ := hE
  have pa : ∀ b k m, b < 720 → e b = some k → m < 4 → pr b m = true := by
    intro b k m hb eb hm
    obtain ⟨_, i, hi, ei⟩ := e2 b k hb eb
    exact (hP.1 b m).mpr ⟨hm, Or.inl ⟨i, hi, ei⟩⟩
  refine ⟨e, ⟨e6, e7, e8, ?_, ?_⟩, e1, ?_⟩
  · intro b k m hb eb hm hn
    obtain ⟨_, k', a2, _, a4⟩ := hP.2 b m (pa b k m hb eb hm)
    rw [eb] at a2
    cases a2
    exact a4 hn
  · intro b k hb eb
    obtain ⟨_, i, hi, ei⟩ := e2 b k hb eb
    obtain ⟨_, _, k', ek, hk⟩ := e3 i hi
    rw [ei, eb] at ek
    cases ek
    omega
  · refine ch_Sc (fun b m hb hm => ?_) hS
    unfold xb_xd
    cases z : ch_dn e b m with
    | false => rfl
    | true =>
      obtain ⟨a1, k, _, a2⟩ := ch_dnI.mp z
      rw [pa _ k (bd_op m) a1 a2 (bd_op4 m hm)]
      rfl
theorem xb_start {g : Nat} (hg : g < 720) {D S G Q : Nat → Int32} (h : ∀ b, b < 720 → D b = -2 ∧ S b = 0 ∧ G b = 0) : xb_O g 0 1 (upd D g 0) (upd S g 1) G (upd Q 0 (nI (bd_p g))) := by
  have eg : xb_eu (fun _ => none) g 0 g = some 0 := if_pos rfl
  have en : ∀ b k, xb_eu (fun _ => none) g 0 b = some k → b = g ∧ k = 0 := by
    intro b k eb
    unfold xb_eu at eb
    by_cases z : b = g
    · rw [if_pos z] at eb; cases eb; exact ⟨z, rfl⟩
    · rw [if_neg z] at eb; cases eb
  refine ⟨0, xb_eu (fun _ => none) g 0, fun _ => g, fun _ _ => false, ⟨?_, ?_, ?_, ?_, ?_, eg, ?_, ?_, ?_, by omega, fun _ => eg⟩, ⟨?_, ?_⟩, ⟨?_, ?_⟩⟩
  · intro b hb
    by_cases z : b = g
    · rw [z, pk_us, eg]; rfl
    · rw [pk_un z, (h b hb).1]; unfold xb_eu; rw [if_neg z]; rfl
  · intro b k hb eb
    obtain ⟨a1, a2⟩ := en b k eb
    exact ⟨by omega, 0, by omega, a1.symm⟩
  · intro i hi
    have i0 : i = 0 := by omega
    rw [i0, pk_us]
    exact ⟨hg, rfl, 0, eg, Nat.le_refl _⟩
  · intro i j k k' _ _ ei ej
    have := (en _ _ ei).2
    omega
  · intro i j hij hj; omega
  · intro b hb eb; exact (en b 0 eb).1
  · intro b k hb eb
    have := (en _ _ eb).2
    omega
  · have a := ch_cn_hi (f := D) (k := g) (x := 0) (h g hg).1 (by decide) 720 hg
    have b := ch_cn_all (f := D) 720 (fun b hb => (h b hb).1)
    omega
  · intro c m
    constructor
    · intro z; cases z
    · rintro ⟨_, ⟨i, hi, _⟩ | ⟨_, z⟩⟩ <;> omega
  · intro c m z; cases z
  · intro b hb
    have xf : ∀ m, xb_xd (xb_eu (fun _ => none) g 0) (fun _ _ => false) b m = false := fun m => Bool.and_false _
    unfold ch_sum
    rw [xf, xf, xf, xf]
    by_cases z : b = g
    · rw [z, pk_us, if_pos rfl]; rfl
    · rw [pk_un z, (h b hb).2.1, if_neg z]; rfl
  · intro b hb
    have xf : ∀ m, xb_xd (xb_eu (fun _ => none) g 0) (fun _ _ => false) b m = false := fun m => Bool.and_false _
    rw [xf, xf, xf, xf, (h b hb).2.2]; rfl
theorem xw_opp {m : Nat} (hm : m < 4) {post : Int32 → Prop} (h : post (nI (bd_op m))) : wpX_opposite post (nI m) := by
  have cc : m = 0 ∨ m = 1 ∨ m = 2 ∨ m = 3 := by omega
  rcases cc with rfl | rfl | rfl | rfl
  · exact br_f (by decide) (br_f (by decide) (br_t (by decide) h))
  · exact br_f (by decide) (br_f (by decide) (br_f (by decide) (br_t (by decide) h)))
  · exact br_f (by decide) (br_f (by decide) (br_f (by decide) (br_f (by decide) (br_t (by decide) h))))
  · exact br_f (by decide) (br_t (by decide) h)
theorem xw_enq1 {b q : Nat} (hb : b < 720) {fs fg p0 p2 : Int32} {D S G Q : Nat → Int32} (hD : D b = -2) (q7 : q < 720) {post : SX → Prop} (h : post (fs, fg, nI (q + 1), upd D b p2, S, G, upd Q q p0)) : wpX_enqueueIfNew post (fs, fg, nI q, D, S, G, Q) p0 (nI b) p2 := by
  have cb : (nI b).toNatClampNeg = b := nI_clamp (by omega)
  have cq : (nI q).toNatClampNeg = q := nI_clamp (by omega)
  have iv : vp_in (nI b) 720 := vp_in_nI hb (by decide)
  exact ⟨iv, br_t (by rw [cb]; exact hD) (br_f (nI_ge (b := 720) q7 (by decide)) ⟨iv, nm_r (show _ = upd D b p2 by rw [cb]) ⟨vp_in_nI q7 (by decide), nm_r (show _ = upd Q q p0 by rw [cq]) (nm_r (nI_1 q) h)⟩⟩)⟩
theorem xw_enq0 {b q : Nat} (hb : b < 720) {fs fg p0 p2 : Int32} {D S G Q : Nat → Int32} (hD : ¬ D b = -2) {post : SX → Prop} (h : post (fs, fg, nI q, D, S, G, Q)) : wpX_enqueueIfNew post (fs, fg, nI q, D, S, G, Q) p0 (nI b) p2 := by
  have cb : (nI b).toNatClampNeg = b := nI_clamp (by omega)
  exact ⟨vp_in_nI hb (by decide), br_f (by rw [cb]; exact hD) h⟩
theorem xw_way {b c m : Nat} (hb : b < 720) (hc : c < 720) (hm : m < 4) {fs fg fq : Int32} {D S G Q : Nat → Int32} {post : SX → Prop} (h1 : D b = D c + 1 → post (fs, fg, fq, D, upd S b (S b + S c), upd G b (G b ||| ((1 : Int32) <<< (nI (bd_op m) &&& 31))), Q)) (h0 : ¬ D b = D c + 1 → post (fs, fg, fq, D, S, G, Q)) : wpX_addWay post (fs, fg, fq, D, S, G, Q) (nI b) (nI c) (nI m) := by
  have cb : (nI b).toNatClampNeg = b := nI_clamp (by omega)
  have cc : (nI c).toNatClampNeg = c := nI_clamp (by omega)
  have iv : vp_in (nI b) 720 := vp_in_nI hb (by decide)
  have ic : vp_in (nI c) 720 := vp_in_nI hc (by decide)
  refine ⟨iv, ic, br_c (fun y => ⟨iv, ic, iv, nm_r (show _ = upd S b (S b + S c) by rw [cb, cc]) ⟨iv, xw_opp hm ⟨iv, nm_r (show _ = upd G b (G b ||| ((1 : Int32) <<< (nI (bd_op m) &&& 31))) by rw [cb]) (h1 ?_)⟩⟩⟩) (fun y => h0 ?_)⟩
  · rw [cb, cc] at y; exact y
  · rw [cb, cc] at y; exact y
theorem xw_13 {g h L c : Nat} (c7 : c < 720) {fs fg : Int32} {post : SX → Prop} (hp : ∀ q D S G Q, xb_I g h 4 L c q D S G Q → post (fs, fg, nI q, D, S, G, Q)) : ∀ (d q : Nat) (D S G Q : Nat → Int32), d ≤ 4 → xb_I g h (4 - d) L c q D S G Q → wX_spreadFrom_13 post (nI (bd_p c)) (nI c) (nI (bd_g c)) (d + 1) (nI (4 - d)) fs fg (nI q) D S G Q := by
  intro d
  induction d with
  | zero => intro q D S G Q _ h; exact br_t (by decide) (hp q D S G Q h)
  | succ d ih =>
    intro q D S G Q hd h
    have hy : 3 - d < 4 := by omega
    have e6 : 4 - (d + 1) = 3 - d := by omega
    have e7 : 4 - d = 3 - d + 1 := by omega
    have e1 : nI (3 - d) + 1 = nI (4 - d) := by rw [nI_1]; congr 1; omega
    rw [e6] at h ⊢
    have cl : (nI c).toNatClampNeg = c := nI_clamp (by omega)
    refine br_f (nI_ge (b := 4) hy (by decide)) ?_
    by_cases c6 : bd_to (bd_g c) (3 - d) = 6
    · refine xs_ga1 (bd_g6 c) hy c6 (br_t rfl (nm_r e1 (ih q D S G Q (by omega) ?_)))
      rw [e7]
      exact xb_none h hy (yi_non c6)
    · obtain ⟨n1, n2, n3⟩ := yi_nxt c7 hy c6
      refine xs_ga2 (bd_g6 c) hy c6 (br_f (xs_n2 (by omega)) (xs_exch c7 (bd_g6 c) n3 ?_))
      rw [← n1]
      refine xs_rank n2 ⟨vp_in_nI c7 (by decide), ?_⟩
      rw [cl]
      by_cases hD : D (bd_nx c (3 - d)) = -2
      · obtain ⟨q7, h'⟩ := xb_enq h hy n2 rfl hD
        have cb : c ≠ bd_nx c (3 - d) := by
          intro w
          obtain ⟨e, qs, pr, hE, hP, hS, hh, hc⟩ := h
          have eL := hE.2.2.2.2.2.2.2.2.2.2 hh
          have := hE.1 c c7
          rw [hc] at eL
          rw [eL, w, hD] at this
          obtain ⟨_, _, k, ek, hk⟩ := hE.2.2.1 _ hh
          have k7 := hE.2.2.2.2.2.2.2.2.1
          rw [hc, eL] at ek
          cases ek
          exact xs_n2 (n := L) (by omega) this.symm
        have nD : ¬ upd D (bd_nx c (3 - d)) (D c + 1) (bd_nx c (3 - d)) = -2 := by
          rw [pk_us]
          obtain ⟨e, qs, pr, hE, hP, hS, hh, hc⟩ := h
          have eL := hE.2.2.2.2.2.2.2.2.2.2 hh
          rw [hc] at eL
          obtain ⟨_, _, k, ek, hk⟩ := hE.2.2.1 _ hh
          have k7 := hE.2.2.2.2.2.2.2.2.1
          rw [hc, eL] at ek
          cases ek
          rw [hE.1 c c7, eL]
          show ¬ nI L + 1 = -2
          rw [nI_1]
          exact xs_n2 (by omega)
        obtain ⟨w1, w0⟩ := xb_way h' hy n2 rfl nD
        refine xw_enq1 n2 hD q7 (xw_way n2 c7 hy (fun y => nm_r e1 (ih _ _ _ _ _ (by omega) ?_)) (fun y => nm_r e1 (ih _ _ _ _ _ (by omega) ?_)))
        · rw [e7]; exact w1 y
        · rw [e7]; exact w0 y
      · obtain ⟨w1, w0⟩ := xb_way h hy n2 rfl hD
        refine xw_enq0 n2 hD (xw_way n2 c7 hy (fun y => nm_r e1 (ih _ _ _ _ _ (by omega) ?_)) (fun y => nm_r e1 (ih _ _ _ _ _ (by omega) ?_)))
        · rw [e7]; exact w1 y
        · rw [e7]; exact w0 y
theorem xw_76 {g : Nat} {fs fg : Int32} {post : SX → Prop} (hp : ∀ q D S G Q, ch_T g D S G → post (fs, fg, nI q, D, S, G, Q)) : ∀ (d q : Nat) (D S G Q : Nat → Int32), d ≤ 720 → xb_O g (720 - d) q D S G Q → wX_measureFromGoal_76 post (d + 1) (nI (720 - d)) fs fg (nI q) D S G Q := by
  intro d
  induction d with
  | zero =>
    intro q D S G Q _ h
    have := xb_q7 h
    have eq : q = 720 := by omega
    subst eq
    exact br_t (by decide) (hp _ D S G Q (xb_end h))
  | succ d ih =>
    intro q D S G Q hd h
    have hy : 719 - d < 720 := by omega
    have e6 : 720 - (d + 1) = 719 - d := by omega
    have e7 : 720 - d = 719 - d + 1 := by omega
    have e1 : nI (719 - d) + 1 = nI (720 - d) := by rw [nI_1]; congr 1; omega
    rw [e6] at h ⊢
    have q7 := xb_q7 h
    have cl : (nI (719 - d)).toNatClampNeg = 719 - d := nI_clamp (by omega)
    refine br_f (nI_ge (b := 720) hy (by decide)) (pk_le q (719 - d) (fun z => ?_) (fun z => ⟨vp_in_nI hy (by decide), ?_⟩))
    · have eq : q = 719 - d := by omega
      rw [← eq] at h
      exact hp _ D S G Q (xb_end h)
    · obtain ⟨L, c, c7, eQ, hI⟩ := xb_in h z
      rw [cl, eQ]
      refine xs_rank c7 (xs_gap c7 ⟨5, xw_13 c7 (fun q D S G Q h' => nm_r e1 (ih q D S G Q (by omega) ?_)) 4 q D S G Q (by omega) hI⟩)
      rw [e7]
      exact xb_out h'
theorem xw_2 {g : Nat} (g7 : g < 720) {fs fq : Int32} {post : SX → Prop} (hp : ∀ q D S G Q, ch_T g D S G → post (fs, nI (bd_p g), nI q, D, S, G, Q)) : ∀ (d : Nat) (D S G Q : Nat → Int32), d ≤ 720 → (∀ b, b < 720 - d → D b = -2 ∧ S b = 0 ∧ G b = 0) → wX_measureFromGoal_2 post fs (nI (bd_p g)) fq (d + 1) (nI (720 - d)) D S G Q := by
  intro d
  induction d with
  | zero =>
    intro D S G Q _ h
    have cg : (nI g).toNatClampNeg = g := nI_clamp (by omega)
    have ig : vp_in (nI g) 720 := vp_in_nI g7 (by decide)
    exact br_t (by decide) (xs_rank g7 ⟨ig, nm_r (show _ = upd D g 0 by rw [cg]) ⟨ig, nm_r (show _ = upd S g 1 by rw [cg]) (nm_e ⟨721, xw_76 hp 720 1 _ _ _ _ (by omega) (xb_start g7 h)⟩)⟩⟩)
  | succ d ih =>
    intro D S G Q hd h
    have hy : 719 - d < 720 := by omega
    have e6 : 720 - (d + 1) = 719 - d := by omega
    have e1 : nI (719 - d) + 1 = nI (720 - d) := by rw [nI_1]; congr 1; omega
    rw [e6] at h ⊢
    have cl : (nI (719 - d)).toNatClampNeg = 719 - d := nI_clamp (by omega)
    have iv : vp_in (nI (719 - d)) 720 := vp_in_nI hy (by decide)
    refine br_f (nI_ge (b := 720) hy (by decide)) ⟨iv, nm_r (show _ = upd D (719 - d) (-2) by rw [cl]) ⟨iv, nm_r (show _ = upd S (719 - d) 0 by rw [cl]) ⟨iv, nm_r (show _ = upd G (719 - d) 0 by rw [cl]) (nm_r e1 (ih _ _ _ _ (by omega) ?_))⟩⟩⟩
    intro b hb
    by_cases z : b = 719 - d
    · rw [z, pk_us, pk_us, pk_us]; exact ⟨rfl, rfl, rfl⟩
    · rw [pk_un z, pk_un z, pk_un z]; exact h b (by omega)
theorem xw_measure {g : Nat} (g7 : g < 720) {fs fq : Int32} {D S G Q : Nat → Int32} {post : SX → Prop} (hp : ∀ fq D S G Q, ch_T g D S G → post (fs, nI (bd_p g), fq, D, S, G, Q)) : wpX_measureFromGoal post (fs, nI (bd_p g), fq, D, S, G, Q) :=
  ⟨721, xw_2 g7 (fun q D S G Q h => hp (nI q) D S G Q h) 720 D S G Q (by omega) (fun b hb => by omega)⟩
