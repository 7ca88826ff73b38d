/-! Y's constructor: the table of neighbours; the numbers of START and GOAL -/
def yi_af (b m : Nat) : Int32 := if bd_nx b m < 720 then nI (bd_nx b m) else -1
def yi_ok (af : Nat → Int32) (k : Nat) : Prop := ∀ i, i < k → af i = yi_af (i / 4) (i % 4)
theorem yi_at {af : Nat → Int32} (h : yi_ok af 2880) {b m : Nat} (hb : b < 720) (hm : m < 4) : af (4 * b + m) = yi_af b m := by
  rw [h (4 * b + m) (by omega), show (4 * b + m) / 4 = b by omega, show (4 * b + m) % 4 = m by omega]
theorem yi_s {af : Nat → Int32} {b m : Nat} (hm : m < 4) (h : yi_ok af (4 * b + m)) : yi_ok (upd af (4 * b + m) (yi_af b m)) (4 * b + (m + 1)) := by
  intro i hi
  by_cases c : i = 4 * b + m
  · rw [c, pk_us, show (4 * b + m) / 4 = b by omega, show (4 * b + m) % 4 = m by omega]
  · rw [pk_un c]; exact h i (by omega)
theorem yi_ix (b m : Nat) : (4 : Int32) * nI b + nI m = nI (4 * b + m) := by
  rw [show (4 : Int32) = nI 4 from rfl, pk_mul, nI_add]
theorem yi_nxt {b m : Nat} (hb : b < 720) (hm : m < 4) (c : ¬ bd_to (bd_g b) m = 6) : bd_nx b m = bd_xc b (bd_g b) (bd_to (bd_g b) m) ∧ bd_nx b m < 720 ∧ bd_to (bd_g b) m < 6 := by
  have t := bd_to7 _ (bd_g6 b) m hm
  have e : bd_nx b m = bd_xc b (bd_g b) (bd_to (bd_g b) m) := by unfold bd_nx; rw [if_neg c]
  exact ⟨e, by rw [e]; exact (bd_xcA hb (bd_g6 b) (by omega)).1, by omega⟩
theorem yi_non {b m : Nat} (c : bd_to (bd_g b) m = 6) : bd_nx b m = 720 := by unfold bd_nx; rw [if_pos c]
theorem yi_numA {b g x : Nat} (hb : b < 720) (hg : g = bd_g b) (hx : x < 6) {bo sa ga af aw wa : Nat → Int32} (ht : ∀ z, z < 6 → bo z = nI (bd_t b z)) {post : Int32 → SY → Prop} (h : ∀ bo', post (nI (bd_xc b g x)) (sa, ga, bo', af, aw, wa)) : wpY_numberAfter post (sa, ga, bo, af, aw, wa) (nI g) (nI x) := by
  have g6 : g < 6 := by rw [hg]; exact bd_g6 b
  have cg : (nI g).toNatClampNeg = g := nI_clamp (by omega)
  have cx : (nI x).toNatClampNeg = x := nI_clamp (by omega)
  refine ⟨vp_in_nI hx (by decide), vp_in_nI g6 (by decide), nm_e ⟨vp_in_nI hx (by decide), nm_e ?_⟩⟩
  refine ys_num (t := bd_sw (bd_t b) g x) ?_ ?_ (h _)
  · intro z hz
    rw [cg, cx]
    unfold bd_sw
    by_cases c : z = x
    · rw [c, pk_us, if_pos rfl, (bd_gz hb g6).mpr hg]; rfl
    · rw [pk_un c, if_neg c]
      by_cases c2 : z = g
      · rw [c2, pk_us, if_pos rfl, ht x hx]
      · rw [pk_un c2, if_neg c2, ht z hz]
  · intro z hz
    have a1 := bd_t6 hb hz
    have a2 := bd_t6 hb hx
    have a3 := bd_t6 hb g6
    unfold bd_sw
    split
    · omega
    · split <;> omega
theorem yi_97 {b : Nat} (hb : b < 720) {post : SY → Prop} {J88 : Int32 → (Nat → Int32) → (Nat → Int32) → (Nat → Int32) → (Nat → Int32) → (Nat → Int32) → (Nat → Int32) → Prop} {sa ga aw wa : Nat → Int32} (hp : ∀ bo af, yi_ok af (4 * (b + 1)) → J88 (nI b + 1) sa ga bo af aw wa) : ∀ (d : Nat) (bo af : Nat → Int32), d ≤ 4 → yi_ok af (4 * b + (4 - d)) → wY_init_97 post J88 (nI b) (d + 1) (nI (4 - d)) sa ga bo af aw wa := by
  intro d
  induction d with
  | zero => intro bo af _ h; exact br_t (by decide) (nm_e (hp bo af h))
  | succ d ih =>
    intro bo af hd h
    have hy : 3 - d < 4 := by omega
    have e6 : 4 - (d + 1) = 3 - d := by omega
    have e1 : nI (3 - d) + 1 = nI (4 - d) := by rw [nI_1]; congr 1; omega
    rw [e6] at h ⊢
    have iv : vp_in ((4 : Int32) * nI b + nI (3 - d)) 2880 := by rw [yi_ix]; exact vp_in_nI (by omega) (by decide)
    have cl : ((4 : Int32) * nI b + nI (3 - d)).toNatClampNeg = 4 * b + (3 - d) := by rw [yi_ix]; exact nI_clamp (by omega)
    have go : ∀ (bo : Nat → Int32) (v : Int32), v = yi_af b (3 - d) → wY_init_97 post J88 (nI b) (d + 1) (nI (4 - d)) sa ga bo (upd af (4 * b + (3 - d)) v) aw wa := by
      intro bo v ev
      rw [ev]
      refine ih bo _ (by omega) ?_
      rw [show 4 - d = (3 - d) + 1 by omega]
      exact yi_s hy h
    refine br_f (nI_ge (b := 4) hy (by decide)) (ys_write hb fun bo1 hbo1 => ys_gap hb hbo1 ?_)
    by_cases c : bd_to (bd_g b) (3 - d) = 6
    · refine ys_tg1 (bd_g6 b) hy c (br_f (by decide) ⟨iv, nm_r (show _ = upd af (4 * b + (3 - d)) (-1) by rw [cl]) (nm_r e1 (go _ _ ?_))⟩)
      unfold yi_af
      rw [yi_non c, if_neg (by omega)]
    · obtain ⟨n1, n2, n3⟩ := yi_nxt hb hy c
      refine ys_tg2 (bd_g6 b) hy c (br_t (nI_pos' (by omega)) (yi_numA hb rfl n3 hbo1 fun bo2 => ⟨iv, nm_r (show _ = upd af (4 * b + (3 - d)) (nI (bd_xc b (bd_g b) (bd_to (bd_g b) (3 - d)))) by rw [cl]) (nm_r e1 (go _ _ ?_))⟩))
      unfold yi_af
      rw [if_pos n2, n1]
theorem yi_88 {post : SY → Prop} {sa ga aw wa : Nat → Int32} (hp : ∀ bo af, yi_ok af 2880 → post (sa, ga, bo, af, aw, wa)) : ∀ (d : Nat) (bo af : Nat → Int32), d ≤ 720 → yi_ok af (4 * (720 - d)) → wY_init_88 post (d + 1) (nI (720 - d)) sa ga bo af aw wa := by
  intro d
  induction d with
  | zero => intro bo af _ h; exact br_t (by decide) (hp bo af h)
  | succ d ih =>
    intro bo af hd h
    have hy : 719 - d < 720 := by omega
    have e6 : 720 - (d + 1) = 719 - d := by omega
    have e7 : 719 - d + 1 = 720 - d := by omega
    rw [e6] at h ⊢
    refine br_f (nI_ge (b := 720) hy (by decide)) ⟨5, yi_97 hy (fun bo af h => ?_) 4 bo af (by omega) h⟩
    rw [nI_1, e7]
    rw [e7] at h
    exact ih bo af (by omega) h
theorem yi_57 {post : SY → Prop} {aw wa : Nat → Int32} (hp : ∀ sa ga bo af, (∀ z, z < 6 → sa z = nI (bd_t 153 z)) → (∀ z, z < 6 → ga z = nI (bd_t 153 z)) → yi_ok af 2880 → post (sa, ga, bo, af, aw, wa)) : ∀ (d : Nat) (sa ga bo af : Nat → Int32), d ≤ 5 → (∀ z, z < 6 → sa z = if z < 5 - d then nI (z + 1) else 0) → (∀ z, z < 6 → ga z = if z < 5 - d then nI (z + 1) else 0) → wY_init_57 post (d + 1) (nI (5 - d)) sa ga bo af aw wa := by
  intro d
  induction d with
  | zero =>
    intro sa ga bo af _ h1 h2
    have T : ∀ z, z < 6 → (if z < 5 - 0 then nI (z + 1) else 0) = nI (bd_t 153 z) := by decide +kernel
    refine br_t (by decide) ⟨721, yi_88 (fun bo af h => hp sa ga bo af ?_ ?_ h) 720 bo af (by omega) (fun i hi => by omega)⟩
    · intro z hz; rw [h1 z hz]; exact T z hz
    · intro z hz; rw [h2 z hz]; exact T z hz
  | succ d ih =>
    intro sa ga bo af hd h1 h2
    have hy : 4 - d < 5 := by omega
    have e6 : 5 - (d + 1) = 4 - d := by omega
    have e1 : nI (4 - d) + 1 = nI (5 - d) := by rw [nI_1]; congr 1; omega
    have cl : (nI (4 - d)).toNatClampNeg = 4 - d := nI_clamp (by omega)
    rw [e6] at h1 h2 ⊢
    have iv : vp_in (nI (4 - d)) 6 := vp_in_nI (by omega) (by decide)
    have up : ∀ f : Nat → Int32, (∀ z, z < 6 → f z = if z < 4 - d then nI (z + 1) else 0) → ∀ z, z < 6 → upd f (4 - d) (nI (4 - d) + 1) z = if z < 5 - d then nI (z + 1) else 0 := by
      intro f hf z hz
      by_cases c : z = 4 - d
      · rw [c, pk_us, if_pos (by omega), nI_1]
      · rw [pk_un c, hf z hz]
        by_cases c2 : z < 4 - d
        · rw [if_pos c2, if_pos (by omega)]
        · rw [if_neg c2, if_neg (by omega)]
    refine br_f (nI_ge (b := 5) hy (by decide)) ⟨iv, nm_r (show _ = upd sa (4 - d) (nI (4 - d) + 1) by rw [cl]) ⟨iv, nm_r (show _ = upd ga (4 - d) (nI (4 - d) + 1) by rw [cl]) (nm_r e1 (ih _ _ bo af (by omega) (up sa h1) (up ga h2)))⟩⟩
theorem yi_init {post : SY → Prop} (hp : ∀ sa ga bo af aw wa, (∀ z, z < 6 → sa z = nI (bd_t 153 z)) → (∀ z, z < 6 → ga z = nI (bd_t 153 z)) → yi_ok af 2880 → post (sa, ga, bo, af, aw, wa)) : wpY_init post :=
  ⟨6, yi_57 (fun sa ga bo af a b c => hp sa ga bo af _ _ a b c) 5 (fun _ => 0) (fun _ => 0) (fun _ => 0) (fun _ => 0) (by omega) (fun z hz => by rw [if_neg (by omega)]) (fun z hz => by rw [if_neg (by omega)])⟩
theorem yi_nsL {s : Nat} (hs : s < 720) {post : Int32 → SY → Prop} {sa ga af aw wa : Nat → Int32} (ht : ∀ z, z < 6 → sa z = nI (bd_t s z)) (hp : ∀ bo, post (nI s) (sa, ga, bo, af, aw, wa)) : ∀ (d : Nat) (bo : Nat → Int32), d ≤ 6 → (∀ z, z < 6 - d → bo z = sa z) → wY_numberOfStart_2 post (d + 1) (nI (6 - d)) sa ga bo af aw wa := by
  intro d
  induction d with
  | zero =>
    intro bo _ h
    refine br_t (by decide) (ys_num (t := bd_t s) (fun z hz => by rw [h z hz, ht z hz]) (fun z hz => by have := bd_t6 hs hz; omega) ?_)
    rw [bd_rank hs]
    exact hp bo
  | succ d ih =>
    intro bo hd h
    have hy : 5 - d < 6 := by omega
    have e6 : 6 - (d + 1) = 5 - d := by omega
    have e1 : nI (5 - d) + 1 = nI (6 - d) := by rw [nI_1]; congr 1; omega
    have cl : (nI (5 - d)).toNatClampNeg = 5 - d := nI_clamp (by omega)
    have iv : vp_in (nI (5 - d)) 6 := vp_in_nI hy (by decide)
    rw [e6] at h ⊢
    refine br_f (nI_ge (b := 6) hy (by decide)) ⟨iv, iv, nm_r (show _ = upd bo (5 - d) (sa (5 - d)) by rw [cl]) (nm_r e1 (ih _ (by omega) ?_))⟩
    intro z hz
    by_cases c : z = 5 - d
    · rw [c, pk_us]
    · rw [pk_un c]; exact h z (by omega)
theorem yi_ns {s : Nat} (hs : s < 720) {post : Int32 → SY → Prop} {sa ga bo af aw wa : Nat → Int32} (ht : ∀ z, z < 6 → sa z = nI (bd_t s z)) (hp : ∀ bo, post (nI s) (sa, ga, bo, af, aw, wa)) : wpY_numberOfStart post (sa, ga, bo, af, aw, wa) :=
  ⟨7, yi_nsL hs ht hp 6 bo (by omega) (fun z hz => by omega)⟩
theorem yi_ngL {s : Nat} (hs : s < 720) {post : Int32 → SY → Prop} {sa ga af aw wa : Nat → Int32} (ht : ∀ z, z < 6 → ga z = nI (bd_t s z)) (hp : ∀ bo, post (nI s) (sa, ga, bo, af, aw, wa)) : ∀ (d : Nat) (bo : Nat → Int32), d ≤ 6 → (∀ z, z < 6 - d → bo z = ga z) → wY_numberOfGoal_2 post (d + 1) (nI (6 - d)) sa ga bo af aw wa := by
  intro d
  induction d with
  | zero =>
    intro bo _ h
    refine br_t (by decide) (ys_num (t := bd_t s) (fun z hz => by rw [h z hz, ht z hz]) (fun z hz => by have := bd_t6 hs hz; omega) ?_)
    rw [bd_rank hs]
    exact hp bo
  | succ d ih =>
    intro bo hd h
    have hy : 5 - d < 6 := by omega
    have e6 : 6 - (d + 1) = 5 - d := by omega
    have e1 : nI (5 - d) + 1 = nI (6 - d) := by rw [nI_1]; congr 1; omega
    have cl : (nI (5 - d)).toNatClampNeg = 5 - d := nI_clamp (by omega)
    have iv : vp_in (nI (5 - d)) 6 := vp_in_nI hy (by decide)
    rw [e6] at h ⊢
    refine br_f (nI_ge (b := 6) hy (by decide)) ⟨iv, iv, nm_r (show _ = upd bo (5 - d) (ga (5 - d)) by rw [cl]) (nm_r e1 (ih _ (by omega) ?_))⟩
    intro z hz
    by_cases c : z = 5 - d
    · rw [c, pk_us]
    · rw [pk_un c]; exact h z (by omega)
theorem yi_ng {s : Nat} (hs : s < 720) {post : Int32 → SY → Prop} {sa ga bo af aw wa : Nat → Int32} (ht : ∀ z, z < 6 → ga z = nI (bd_t s z)) (hp : ∀ bo, post (nI s) (sa, ga, bo, af, aw, wa)) : wpY_numberOfGoal post (sa, ga, bo, af, aw, wa) :=
  ⟨7, yi_ngL hs ht hp 6 bo (by omega) (fun z hz => by omega)⟩
