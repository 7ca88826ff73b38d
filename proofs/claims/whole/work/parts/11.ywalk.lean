/-! Y's search: the walks -/
theorem yw_uu (f : Nat → Int32) (k : Nat) (v w : Int32) : upd (upd f k v) k w = upd f k w := by
  funext j
  by_cases c : j = k
  · rw [c, pk_us, pk_us]
  · rw [pk_un c, pk_un c, pk_un c]
def yw_s (t : Nat → Int32) : Nat → Int32
  | 0 => 0
  | m + 1 => yw_s t m + t m
theorem yw_af1 {b m : Nat} (h : bd_nx b m < 720) : yi_af b m = nI (bd_nx b m) := if_pos h
theorem yw_af0 {b m : Nat} (h : ¬ bd_nx b m < 720) : yi_af b m = -1 := if_neg h
theorem yw_ix {b m : Nat} (hb : b < 720) (hm : m < 4) {af : Nat → Int32} (haf : yi_ok af 2880) : vp_in ((4 : Int32) * nI b + nI m) 2880 ∧ af ((4 : Int32) * nI b + nI m).toNatClampNeg = yi_af b m := by
  rw [yi_ix]
  refine ⟨vp_in_nI (by omega) (by decide), ?_⟩
  rw [nI_clamp (by omega), yi_at haf hb hm]
theorem yw_c9 {b d : Nat} (hb : b < 720) {sa ga bo af aw wa : Nat → Int32} (haf : yi_ok af 2880) {cn : Nat → Bool} (h1 : ∀ m, m < 4 → bd_nx b m < 720 → (aw (bd_nx b m) = nI d ↔ cn m = true)) (h2 : ∀ m, m < 4 → cn m = true → bd_nx b m < 720 ∧ bd_nx b m ≠ b) {post : SY → Prop} (hp : post (sa, ga, bo, af, aw, upd wa b (yw_s (fun m => if cn m then wa (bd_nx b m) else 0) 4))) : ∀ j : Nat, j ≤ 4 → wY_count_9 post (nI b) (nI d) (j + 1) (nI (4 - j)) sa ga bo af aw (upd wa b (yw_s (fun m => if cn m then wa (bd_nx b m) else 0) (4 - j))) := by
  intro j
  induction j with
  | zero => intro _; exact br_t (by decide) hp
  | succ j ih =>
    intro hj
    have hy : 3 - j < 4 := by omega
    have e6 : 4 - (j + 1) = 3 - j := by omega
    have e7 : 4 - j = 3 - j + 1 := by omega
    have e1 : nI (3 - j) + 1 = nI (4 - j) := by rw [nI_1]; congr 1; omega
    have cb : (nI b).toNatClampNeg = b := nI_clamp (by omega)
    have ib : vp_in (nI b) 720 := vp_in_nI hb (by decide)
    obtain ⟨iv, av⟩ := yw_ix hb hy haf
    have q := ih (by omega)
    rw [e6]
    have same : cn (3 - j) = false → wY_count_9 post (nI b) (nI d) (j + 1) (nI (4 - j)) sa ga bo af aw (upd wa b (yw_s (fun m => if cn m then wa (bd_nx b m) else 0) (3 - j))) := by
      intro z
      have : yw_s (fun m => if cn m then wa (bd_nx b m) else 0) (4 - j) = yw_s (fun m => if cn m then wa (bd_nx b m) else 0) (3 - j) := by
        rw [e7]
        show _ + (if cn (3 - j) then wa (bd_nx b (3 - j)) else 0) = _
        rw [z]
        exact Int32.add_zero _
      rw [this] at q
      exact q
    refine br_f (nI_ge (b := 4) hy (by decide)) ⟨iv, nm_r av ?_⟩
    by_cases c : bd_nx b (3 - j) < 720
    · rw [yw_af1 c]
      have cn' : (nI (bd_nx b (3 - j))).toNatClampNeg = bd_nx b (3 - j) := nI_clamp (by omega)
      have inx : vp_in (nI (bd_nx b (3 - j))) 720 := vp_in_nI c (by decide)
      refine br_f (nI_pos (by omega)) ⟨inx, br_c (fun y => ⟨ib, inx, ib, nm_r (e' := upd wa b (yw_s (fun m => if cn m then wa (bd_nx b m) else 0) (4 - j))) ?_ (nm_r e1 q)⟩) (fun y => nm_r e1 (same ?_))⟩
      · rw [cn', h1 _ hy c] at y
        rw [cb, cn', pk_us, pk_un (h2 _ hy y).2, yw_uu, e7]
        show _ = upd wa b (_ + (if cn (3 - j) then wa (bd_nx b (3 - j)) else 0))
        rw [if_pos y]
      · rw [cn', h1 _ hy c] at y
        cases z : cn (3 - j) with
        | false => rfl
        | true => exact absurd z y
    · rw [yw_af0 c]
      refine br_t (by decide) (nm_r e1 (same ?_))
      cases z : cn (3 - j) with
      | false => rfl
      | true => exact absurd (h2 _ hy z).1 c
theorem yw_count {b d : Nat} (hb : b < 720) {sa ga bo af aw wa : Nat → Int32} (haf : yi_ok af 2880) {cn : Nat → Bool} (h1 : ∀ m, m < 4 → bd_nx b m < 720 → (aw (bd_nx b m) = nI d ↔ cn m = true)) (h2 : ∀ m, m < 4 → cn m = true → bd_nx b m < 720 ∧ bd_nx b m ≠ b) {post : SY → Prop} (hp : post (sa, ga, bo, af, aw, upd wa b (yw_s (fun m => if cn m then wa (bd_nx b m) else 0) 4))) : wpY_count post (sa, ga, bo, af, aw, wa) (nI b) (nI d) := by
  have cb : (nI b).toNatClampNeg = b := nI_clamp (by omega)
  exact ⟨vp_in_nI hb (by decide), nm_r (show _ = upd wa b 0 by rw [cb]) ⟨5, yw_c9 hb haf h1 h2 hp 4 (by omega)⟩⟩
theorem yw_Kn {g d b : Nat} {e : Nat → Option Nat} {wa : Nat → Int32} (hK : yb_K g e d b wa) (h : ∀ k, yb_e e d b = some k → e b = some k) : yb_K g e d (b + 1) wa := by
  intro x k hx ex
  rw [← yb_k4] at ex
  by_cases c : x = b
  · rw [c, yb_kb] at ex
    have := h k ex
    rw [c]
    exact hK b k (by rw [← c]; exact hx) (yb_po this)
  · exact hK x k hx (by rw [yb_kn (m' := 4) c]; exact ex)
theorem yw_Kc {g d b : Nat} {e : Nat → Option Nat} {wa : Nat → Int32} (hb : b < 720) (hg : e g = some 0) (hk : ∀ x k, x < 720 → e x = some k → k ≤ d) (hK : yb_K g e d b wa) (h1 : e b = none) (h2 : yb_n e d b 4 = true) : yb_K g e d (b + 1) (upd wa b (yw_s (fun m => if ch_dn (yb_e e d) b m then wa (bd_nx b m) else 0) 4)) := by
  have eb : yb_e e d b = some (d + 1) := yb_pnew h1 h2
  have nb : ∀ x m, x < 720 → ch_dn (yb_e e d) x m = true → bd_nx x m ≠ b := by
    intro x m hx z w
    obtain ⟨_, i, a2, a3⟩ := ch_dnI.mp z
    rw [w, eb] at a3
    cases a3
    have := yb_eL (fun k => hk x k hx) a2
    omega
  intro x k hx ex
  by_cases c : x = b
  · subst c
    rw [pk_us]
    have : ch_sum g (ch_dn (yb_e e d)) (upd wa x (yw_s (fun m => if ch_dn (yb_e e d) x m then wa (bd_nx x m) else 0) 4)) x = ch_sum g (ch_dn (yb_e e d)) wa x := yb_sumc (fun _ _ => rfl) (fun m hm z => pk_un (nb x m hx z))
    rw [this]
    unfold ch_sum
    rw [if_neg (fun w => by rw [w, hg] at h1; cases h1)]
    rfl
  · rw [pk_un c]
    rw [← yb_k4, yb_kn (m' := 0) c] at ex
    rw [hK x k hx ex]
    exact (yb_sumc (fun _ _ => rfl) (fun m hm z => pk_un (nb x m hx z))).symm
theorem yw_14 {g d b : Nat} {e : Nat → Option Nat} (d7 : d < 720) (hb : b < 720) (hg : e g = some 0) (hk : ∀ x k, x < 720 → e x = some k → k ≤ d) {sa ga bo af wa : Nat → Int32} (haf : yi_ok af 2880) (hK : yb_K g e d b wa) {post : Int32 → SY → Prop} {J4 : Int32 → Int32 → (Nat → Int32) → (Nat → Int32) → (Nat → Int32) → (Nat → Int32) → (Nat → Int32) → (Nat → Int32) → Prop} (hp : ∀ x2 aw wa, yb_A e d (b + 1) 0 aw → yb_F e d (b + 1) 0 x2 → yb_K g e d (b + 1) wa → J4 x2 (nI (b + 1)) sa ga bo af aw wa) : ∀ (j : Nat) (x2 : Int32) (aw : Nat → Int32), j ≤ 4 → yb_A e d b (4 - j) aw → yb_F e d b (4 - j) x2 → wY_spread_14 post J4 (nI d) (nI b) (j + 1) x2 (nI (4 - j)) sa ga bo af aw wa := by
  intro j
  have cb : (nI b).toNatClampNeg = b := nI_clamp (by omega)
  have ib : vp_in (nI b) 720 := vp_in_nI hb (by decide)
  induction j with
  | zero =>
    intro x2 aw _ hA hF
    have hA' : yb_A e d (b + 1) 0 aw := fun x hx => by rw [← yb_k4]; exact hA x hx
    have hF' : yb_F e d (b + 1) 0 x2 := by
      rcases hF with ⟨a, H⟩ | H
      · exact Or.inl ⟨a, fun x hx => by rw [← yb_k4]; exact H x hx⟩
      · exact Or.inr H
    have ab : aw b = yb_v (yb_p e d b 4) := by have := hA b hb; rw [yb_kb] at this; exact this
    have t := yb_vd1 (m := 4) d7 (fun k => hk b k hb)
    refine br_t (by decide) ⟨ib, br_c (fun y => ?_) (fun y => nm_r (nI_1 b) (hp x2 aw wa hA' hF' (yw_Kn hK ?_)))⟩
    · rw [cb, ab, nI_1, t] at y
      refine yw_count hb haf (cn := ch_dn (yb_e e d) b) ?_ ?_ (nm_r (nI_1 b) (hp x2 aw _ hA' hF' (yw_Kc hb hg hk hK y.1 y.2)))
      · intro m hm hn
        rw [hA _ hn, yb_vd d7 (fun k => hk _ k hn), ch_dnI]
        constructor
        · intro w; exact ⟨hn, d, yb_pnew y.1 y.2, yb_po w⟩
        · rintro ⟨_, i, a2, a3⟩
          have a4 : yb_e e d b = some (d + 1) := yb_pnew y.1 y.2
          rw [a4] at a2
          cases a2
          exact yb_ed (Nat.le_refl _) a3
      · intro m hm z
        obtain ⟨a1, i, a2, a3⟩ := ch_dnI.mp z
        refine ⟨a1, fun w => ?_⟩
        rw [w, a2] at a3
        cases a3
    · intro k ek
      rw [cb, ab, nI_1, t] at y
      rcases yb_ps ek with w | ⟨w1, w2, _⟩
      · exact w
      · exact absurd ⟨w1, w2⟩ y
  | succ j ih =>
    intro x2 aw hj hA hF
    have hy : 3 - j < 4 := by omega
    have e6 : 4 - (j + 1) = 3 - j := by omega
    have e7 : 4 - j = 3 - j + 1 := by omega
    have e1 : nI (3 - j) + 1 = nI (4 - j) := by rw [nI_1]; congr 1; omega
    rw [e6] at hA hF ⊢
    obtain ⟨iv, av⟩ := yw_ix hb hy haf
    have ab : aw b = yb_v (yb_p e d b (3 - j)) := by have := hA b hb; rw [yb_kb] at this; exact this
    have same : yb_p e d b (3 - j + 1) = yb_p e d b (3 - j) → wY_spread_14 post J4 (nI d) (nI b) (j + 1) x2 (nI (4 - j)) sa ga bo af aw wa := by
      intro z
      refine ih x2 aw (by omega) ?_ ?_
      · rw [e7]; exact yb_sA z hA
      · rw [e7]; exact yb_sF z hF
    have nofl : yb_l e d b (3 - j) = false → yb_p e d b (3 - j + 1) = yb_p e d b (3 - j) := by
      intro z
      unfold yb_p
      have : yb_n e d b (3 - j + 1) = yb_n e d b (3 - j) := by
        show (yb_n e d b (3 - j) || yb_l e d b (3 - j)) = _
        rw [z, Bool.or_false]
      rw [this]
    refine br_f (nI_ge (b := 4) hy (by decide)) ⟨iv, nm_r av ⟨ib, ?_⟩⟩
    rw [cb]
    cases z : yb_p e d b (3 - j) with
    | some k =>
      have kb : k < 2 ^ 31 := by
        rcases yb_ps z with w | ⟨_, _, w⟩
        · have := hk b k hb w; omega
        · omega
      refine br_t (by rw [ab, z]; exact nI_pos' kb) (nm_r e1 (same ?_))
      rw [z]
      rcases yb_ps z with w | ⟨w1, w2, w3⟩
      · exact yb_po w
      · rw [w3]; exact yb_pnew w1 (by show (yb_n e d b (3 - j) || _) = true; rw [w2]; rfl)
    | none =>
      refine br_f (by rw [ab, z]; decide) ?_
      obtain ⟨z1, z2⟩ := yb_pn z
      by_cases c : bd_nx b (3 - j) < 720
      · rw [yw_af1 c]
        have cn' : (nI (bd_nx b (3 - j))).toNatClampNeg = bd_nx b (3 - j) := nI_clamp (by omega)
        have inx : vp_in (nI (bd_nx b (3 - j))) 720 := vp_in_nI c (by decide)
        have t : aw (bd_nx b (3 - j)) = nI d ↔ e (bd_nx b (3 - j)) = some d := by rw [hA _ c]; exact yb_vd d7 (fun k => hk _ k c)
        refine br_f (nI_pos (by omega)) ⟨inx, br_c (fun y => ⟨ib, nm_r (show _ = upd aw b (nI (d + 1)) by rw [nI_1]) (nm_r e1 (ih 1 _ (by omega) ?_ ?_))⟩) (fun y => nm_r e1 (same (nofl ?_)))⟩
        · rw [cn', t] at y
          have ln : yb_n e d b (3 - j + 1) = true := by
            show (_ || yb_l e d b (3 - j)) = true
            rw [yb_lI.mpr ⟨c, y⟩, Bool.or_true]
          rw [e7]
          intro x hx
          by_cases w : x = b
          · rw [w, pk_us, yb_kb, yb_pnew z1 ln]; rfl
          · rw [pk_un w, yb_kn (m' := 3 - j) w]; exact hA x hx
        · rw [cn', t] at y
          exact Or.inr ⟨rfl, b, hb, z1, yb_pnew z1 (yb_nl hy (yb_lI.mpr ⟨c, y⟩))⟩
        · rw [cn', t] at y
          cases w : yb_l e d b (3 - j) with
          | false => rfl
          | true => exact absurd (yb_lI.mp w).2 y
      · rw [yw_af0 c]
        refine br_t (by decide) (nm_r e1 (same (nofl ?_)))
        cases w : yb_l e d b (3 - j) with
        | false => rfl
        | true => exact absurd (yb_lI.mp w).1 c
theorem yw_4 {g d : Nat} {e : Nat → Option Nat} (d7 : d < 720) (hg : e g = some 0) (hk : ∀ x k, x < 720 → e x = some k → k ≤ d) {sa ga bo af : Nat → Int32} (haf : yi_ok af 2880) {post : Int32 → SY → Prop} (hp : ∀ x2 aw wa, yb_A e d 720 0 aw → yb_F e d 720 0 x2 → yb_K g e d 720 wa → post x2 (sa, ga, bo, af, aw, wa)) : ∀ (j : Nat) (x2 : Int32) (aw wa : Nat → Int32), j ≤ 720 → yb_A e d (720 - j) 0 aw → yb_F e d (720 - j) 0 x2 → yb_K g e d (720 - j) wa → wY_spread_4 post (nI d) (j + 1) x2 (nI (720 - j)) sa ga bo af aw wa := by
  intro j
  induction j with
  | zero =>
    intro x2 aw wa _ hA hF hK
    refine br_t (by decide) ⟨?_, hp x2 aw wa hA hF hK⟩
    rcases hF with ⟨a, _⟩ | ⟨a, _⟩
    · rw [a]; rfl
    · rw [a]; rfl
  | succ j ih =>
    intro x2 aw wa hj hA hF hK
    have hy : 719 - j < 720 := by omega
    have e6 : 720 - (j + 1) = 719 - j := by omega
    have e7 : 720 - j = 719 - j + 1 := by omega
    rw [e6] at hA hF hK ⊢
    refine br_f (nI_ge (b := 720) hy (by decide)) ⟨5, yw_14 d7 hy hg hk haf hK (fun x2 aw wa a b c => ?_) 4 x2 aw (by omega) hA hF⟩
    rw [← e7]
    rw [← e7] at a b c
    exact ih x2 aw wa (by omega) a b c
theorem yw_45 {g : Nat} {sa ga bo af : Nat → Int32} (haf : yi_ok af 2880) {post : SY → Prop} (hp : ∀ aw wa, yb_T g aw wa → post (sa, ga, bo, af, aw, wa)) : ∀ (j d : Nat) (x2 : Int32) (aw wa : Nat → Int32), 720 ≤ j + d → (x2 = 0 ∧ yb_T g aw wa) ∨ (x2 = 1 ∧ ∃ e, yb_M g d e wa ∧ ∀ b, b < 720 → aw b = yb_v (e b)) → wY_measure_45 post (j + 1) x2 (nI d) sa ga bo af aw wa := by
  intro j
  induction j with
  | zero =>
    intro d x2 aw wa hj H
    rcases H with ⟨a, T⟩ | ⟨a, e, M, _⟩
    · exact br_c (fun _ => hp aw wa T) (fun _ => br_t a (hp aw wa T))
    · have := M.2.2.2.2.2.2
      omega
  | succ j ih =>
    intro d x2 aw wa hj H
    rcases H with ⟨a, T⟩ | ⟨a, e, M, hA⟩
    · exact br_c (fun _ => hp aw wa T) (fun _ => br_t a (hp aw wa T))
    · have M' := M
      obtain ⟨m1, m2, m3, m4, m5, m6, m7⟩ := M
      have d7 : d < 720 := by omega
      obtain ⟨A0, F0⟩ := yb_A0 (d := d) hA
      refine br_f (nI_ge (b := 720) d7 (by decide)) (br_f (by rw [a]; decide) ⟨721, yw_4 d7 m1 m4 haf (fun x2 aw' wa' hA' hF' hK' => nm_r (nI_1 d) (ih (d + 1) x2 aw' wa' (by omega) ?_)) 720 0 aw wa (by omega) A0 F0 (yb_K0 M')⟩)
      rcases hF' with ⟨b1, b2⟩ | ⟨b1, b2⟩
      · exact Or.inl ⟨b1, yb_last M' hA' hK' b2⟩
      · obtain ⟨c1, c2⟩ := yb_next M' hA' hK' b2
        exact Or.inr ⟨b1, yb_e e d, c1, c2⟩
theorem yw_7 {g : Nat} (g7 : g < 720) {sa ga bo af wa : Nat → Int32} (haf : yi_ok af 2880) {post : SY → Prop} (hp : ∀ aw wa, yb_T g aw wa → post (sa, ga, bo, af, aw, wa)) : ∀ (j : Nat) (aw : Nat → Int32), j ≤ 720 → (∀ b, b < 720 - j → aw b = -1) → wY_measure_7 post (nI g) (j + 1) (nI (720 - j)) sa ga bo af aw wa := by
  intro j
  induction j with
  | zero =>
    intro aw _ h
    have cg : (nI g).toNatClampNeg = g := nI_clamp (by omega)
    have ig : vp_in (nI g) 720 := vp_in_nI g7 (by decide)
    obtain ⟨M, A⟩ := yb_first (wa := wa) g7 h
    exact br_t (by decide) ⟨ig, nm_r (show _ = upd aw g 0 by rw [cg]) ⟨ig, nm_r (show _ = upd wa g 1 by rw [cg]) ⟨721, yw_45 haf hp 720 0 1 _ _ (by omega) (Or.inr ⟨rfl, _, M, A⟩)⟩⟩⟩
  | succ j ih =>
    intro aw hj h
    have hy : 719 - j < 720 := by omega
    have e6 : 720 - (j + 1) = 719 - j := by omega
    have e1 : nI (719 - j) + 1 = nI (720 - j) := by rw [nI_1]; congr 1; omega
    rw [e6] at h ⊢
    have cl : (nI (719 - j)).toNatClampNeg = 719 - j := nI_clamp (by omega)
    refine br_f (nI_ge (b := 720) hy (by decide)) ⟨vp_in_nI hy (by decide), nm_r (show _ = upd aw (719 - j) (-1) by rw [cl]) (nm_r e1 (ih _ (by omega) ?_))⟩
    intro b hb
    by_cases z : b = 719 - j
    · rw [z, pk_us]
    · rw [pk_un z]; exact h b (by omega)
theorem yw_measure {g : Nat} (g7 : g < 720) {sa ga bo af aw wa : Nat → Int32} (hga : ∀ z, z < 6 → ga z = nI (bd_t g z)) (haf : yi_ok af 2880) {post : SY → Prop} (hp : ∀ bo aw wa, yb_T g aw wa → post (sa, ga, bo, af, aw, wa)) : wpY_measure post (sa, ga, bo, af, aw, wa) :=
  yi_ng g7 hga (fun bo => ⟨721, yw_7 g7 haf (hp bo) 720 aw (by omega) (fun b hb => by omega)⟩)
