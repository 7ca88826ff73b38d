/-! Y's small methods over boards, its constructor -/
theorem ys_cnt : ∀ v, v < 6 → ((nI v &&& 31).toBitVec.smod 32).toNat = v := by decide +kernel
theorem ys_bit : ∀ t, t < 6 → (1 : Int32) <<< (nI t &&& 31) = nI (2 ^ t) := by decide +kernel
theorem ys_or {a b : Nat} (ha : a < 2 ^ 30) (hb : b < 2 ^ 30) : nI a ||| nI b = nI (a ||| b) := by
  apply Int32.toBitVec_inj.mp
  apply BitVec.eq_of_toNat_eq
  have h := Nat.or_lt_two_pow ha hb
  rw [Int32.toBitVec_or, BitVec.toNat_or, pk_tn (by omega), pk_tn (by omega), pk_tn (by omega)]
theorem ys_tb {u v : Nat} (hu : u < 64) (hv : v < 6) : (nI u >>> (nI v &&& 31)) &&& 1 = nI (u / 2 ^ v % 2) := by
  have h2 : u / 2 ^ v ≤ u := Nat.div_le_self _ _
  rw [pk_shrN (by omega) _ v (ys_cnt v hv), pk_andN (by omega) 1 (by decide)]
def ys_uR (used rank : Nat) : Nat → Nat → Nat
  | 0, _ => 0
  | d + 1, k => if used / 2 ^ (5 - d) % 2 = 0 then (if k = rank then 5 - d else ys_uR used rank d (k + 1)) else ys_uR used rank d k
theorem ys_unL {used rank : Nat} (hu : used < 64) (hr : rank < 2 ^ 20) {post : Int32 → Prop} {sa ga bo af aw wa : Nat → Int32} : ∀ d k : Nat, d ≤ 6 → k < 2 ^ 20 - d → post (nI (ys_uR used rank d k)) → wY_unused_5 post (nI used) (nI rank) sa ga bo af aw wa (d + 1) (nI k) (nI (6 - d)) := by
  intro d
  induction d with
  | zero => intro k _ _ h; exact br_t (by decide) h
  | succ d ih =>
    intro k hd hk h
    have hy : 5 - d < 6 := by omega
    have e6 : 6 - (d + 1) = 5 - d := by omega
    have e1 : nI (5 - d) + 1 = nI (6 - d) := by rw [nI_1]; congr 1; omega
    have m2 : used / 2 ^ (5 - d) % 2 < 2 := Nat.mod_lt _ (by decide)
    rw [e6]
    refine br_f (nI_ge (b := 6) hy (by decide)) (pk_eq (used / 2 ^ (5 - d) % 2) 0 (fun hc => pk_eq k rank (fun hk => ?_) (fun hk => nm_r (nI_1 k) (nm_r e1 (ih (k + 1) (by omega) (by omega) ?_)))) (fun hc => nm_r e1 (ih k (by omega) (by omega) ?_)) (ys_tb hu hy))
    · rw [ys_uR, if_pos hc, if_pos hk] at h; exact h
    · rw [ys_uR, if_pos hc, if_neg hk] at h; exact h
    · rw [ys_uR, if_neg hc] at h; exact h
def ys_size (x : Nat) : Nat := match x with
  | 0 => 120
  | 1 => 24
  | 2 => 6
  | 3 => 2
  | _ => 1
def ys_rest (b : Nat) : Nat → Nat
  | 0 => b
  | x + 1 => ys_rest b x % ys_size x
def ys_used (b : Nat) : Nat → Nat
  | 0 => 0
  | x + 1 => ys_used b x ||| 2 ^ bd_t b x
theorem ys_wr' {b : Nat} (h : b < 720) : ∀ x, x < 6 → ys_uR (ys_used b x) (ys_rest b x / ys_size x) 6 0 = bd_t b x ∧ ys_used b x < 64 := co_dec (P := fun b => ∀ x, x < 6 → ys_uR (ys_used b x) (ys_rest b x / ys_size x) 6 0 = bd_t b x ∧ ys_used b x < 64) (by decide +kernel) h
theorem ys_restle (b : Nat) : ∀ x, ys_rest b x ≤ b
  | 0 => Nat.le_refl _
  | x + 1 => Nat.le_trans (Nat.mod_le _ _) (ys_restle b x)
theorem ys_sz : ∀ x, x < 6 → 0 < ys_size x ∧ ys_size x < 121 := by decide
theorem ys_szS : ∀ x, x < 5 → ys_size x / (5 - x) = ys_size (x + 1) := by decide
theorem ys_or1 {u t : Nat} (hu : u < 64) (ht : t < 6) : nI u ||| ((1 : Int32) <<< (nI t &&& 31)) = nI (u ||| 2 ^ t) := by
  have q : 2 ^ t ≤ 2 ^ 5 := Nat.pow_le_pow_right (by decide) (by omega)
  rw [ys_bit t ht, ys_or (by omega) (by omega)]
theorem ys_wrL {b : Nat} (hb : b < 720) {post : SY → Prop} {sa ga af aw wa : Nat → Int32} (hp : ∀ bo : Nat → Int32, (∀ z, z < 6 → bo z = nI (bd_t b z)) → post (sa, ga, bo, af, aw, wa)) : ∀ (d : Nat) (bo : Nat → Int32), d ≤ 6 → (∀ z, z < 6 - d → bo z = nI (bd_t b z)) → wY_write_11 post (d + 1) (nI (ys_rest b (6 - d))) (nI (ys_size (6 - d))) (nI (ys_used b (6 - d))) (nI (6 - d)) sa ga bo af aw wa := by
  intro d
  induction d with
  | zero => intro bo _ h; exact br_t (by decide) (hp bo h)
  | succ d ih =>
    intro bo hd h
    have hy : 5 - d < 6 := by omega
    have e6 : 6 - (d + 1) = 5 - d := by omega
    have e7 : 6 - d = 5 - d + 1 := by omega
    have e1 : nI (5 - d) + 1 = nI (6 - d) := by rw [nI_1]; congr 1; omega
    have w := ys_wr' hb (5 - d) hy
    have sz := ys_sz (5 - d) hy
    have rl := ys_restle b (5 - d)
    have rd : ys_rest b (5 - d) / ys_size (5 - d) ≤ ys_rest b (5 - d) := Nat.div_le_self _ _
    have nz : ¬ nI (ys_size (5 - d)) = 0 := nI_ne0 sz.1 (by omega)
    have iv : vp_in (nI (5 - d)) 6 := vp_in_nI hy (by decide)
    have cl : (nI (5 - d)).toNatClampNeg = 5 - d := nI_clamp (by omega)
    rw [e6] at h ⊢
    have hq : nI (ys_rest b (5 - d)) / nI (ys_size (5 - d)) = nI (ys_rest b (5 - d) / ys_size (5 - d)) := pk_div (by omega) sz.1 (by omega)
    have hm : nI (ys_rest b (5 - d)) - nI (ys_rest b (5 - d)) / nI (ys_size (5 - d)) * nI (ys_size (5 - d)) = nI (ys_rest b (6 - d)) := by rw [pk_rem (by omega) sz.1 (by omega), e7]; rfl
    refine br_f (nI_ge (b := 6) hy (by decide)) ⟨nz, ?_⟩
    rw [hq] at hm ⊢
    refine ⟨7, ys_unL w.2 (by omega) 6 0 (by omega) (by omega) ?_⟩
    rw [w.1]
    refine ⟨iv, nm_r (show _ = upd bo (5 - d) (nI (bd_t b (5 - d))) by rw [cl]) ⟨iv, nm_r (e' := nI (ys_used b (6 - d))) ?_ ⟨nz, nm_r hm ?_⟩⟩⟩
    · rw [cl, pk_us, ys_or1 w.2 (bd_t6 hb hy), e7]; rfl
    · have ok : ∀ z, z < 6 - d → upd bo (5 - d) (nI (bd_t b (5 - d))) z = nI (bd_t b z) := by
        intro z hz
        by_cases c : z = 5 - d
        · rw [c, pk_us]
        · rw [pk_un c]; exact h z (by omega)
      have q := ih (upd bo (5 - d) (nI (bd_t b (5 - d)))) (by omega) ok
      refine pk_le 5 (5 - d) (fun hc => nm_r e1 ?_) (fun hc => ⟨?_, nm_r (e' := nI (ys_size (6 - d))) ?_ (nm_r e1 q)⟩)
      · have e0 : d = 0 := by omega
        subst e0
        exact q
      · rw [show (5 : Int32) = nI 5 from rfl, pk_sub (by omega)]
        exact nI_ne0 (by omega) (by omega)
      · rw [show (5 : Int32) = nI 5 from rfl, pk_sub (by omega), pk_div (by omega) (by omega) (by omega), ys_szS _ hc, e7]
theorem ys_write {b : Nat} (hb : b < 720) {post : SY → Prop} {sa ga bo af aw wa : Nat → Int32} (hp : ∀ bo : Nat → Int32, (∀ z, z < 6 → bo z = nI (bd_t b z)) → post (sa, ga, bo, af, aw, wa)) : wpY_write post (sa, ga, bo, af, aw, wa) (nI b) :=
  ⟨7, ys_wrL hb hp 6 bo (by omega) (fun z hz => by omega)⟩
theorem yr_in {bo sa ga af aw wa : Nat → Int32} {t : Nat → Nat} (ht : ∀ x, x < 6 → bo x = nI (t x)) (h8 : ∀ x, x < 6 → t x < 8) {post : Int32 → Prop} {J4 : Int32 → Int32 → Prop} {x1 : Int32} {x : Nat} (hx : x < 6) : ∀ d s : Nat, d ≤ 5 → J4 ((x1 * (6 - nI x)) + nI (s + bd_sm t (t x) d)) (nI x + 1) → wY_numberOfBoard_17 post J4 x1 (nI x) sa ga bo af aw wa (d + 1) (nI s) (nI (6 - d)) := by
  intro d
  induction d with
  | zero => intro s _ h; exact br_t (by decide) (nm_e (nm_e h))
  | succ d ih =>
    intro s hd h
    have hy : 5 - d < 6 := by omega
    have e6 : 6 - (d + 1) = 5 - d := by omega
    have e1 : nI (5 - d) + 1 = nI (6 - d) := by rw [nI_1]; congr 1; omega
    have a1 := h8 x hx
    have a2 := h8 _ hy
    rw [e6]
    refine br_f (nI_ge (b := 6) hy (by decide)) ⟨vp_in_nI hy (by decide), vp_in_nI hx (by decide), pk_le (t x) (t (5 - d)) (fun hc => nm_r e1 (ih s (by omega) ?_)) (fun hc => nm_r (nI_1 s) (nm_r e1 (ih (s + 1) (by omega) ?_))) (by rw [nI_clamp (by omega), ht x hx]) (by rw [nI_clamp (by omega), ht _ hy])⟩
    · rw [bd_sm, if_pos hc, Nat.zero_add] at h; exact h
    · rw [bd_sm, if_neg (by omega), ← Nat.add_assoc] at h; exact h
theorem yr_out {bo sa ga af aw wa : Nat → Int32} {t : Nat → Nat} (ht : ∀ x, x < 6 → bo x = nI (t x)) (h8 : ∀ x, x < 6 → t x < 8) {post : Int32 → Prop} : ∀ d acc : Nat, d ≤ 6 → post (nI (bd_rk t d acc)) → wY_numberOfBoard_4 post sa ga bo af aw wa (d + 1) (nI acc) (nI (6 - d)) := by
  intro d
  induction d with
  | zero => intro acc _ h; exact br_t (by decide) h
  | succ d ih =>
    intro acc hd h
    have hy : 5 - d < 6 := by omega
    have e6 : 6 - (d + 1) = 5 - d := by omega
    have e1 : nI (5 - d) + 1 = nI (6 - d) := by rw [nI_1]; congr 1; omega
    rw [e6]
    refine br_f (nI_ge (b := 6) hy (by decide)) (nm_r e1 ⟨d + 1, yr_in ht h8 hy d 0 (by omega) ?_⟩)
    rw [e1, Nat.zero_add, show (6 : Int32) = nI 6 from rfl, pk_sub (by omega), pk_mul, nI_add, show 6 - (5 - d) = d + 1 by omega]
    exact ih _ (by omega) h
theorem ys_num {bo sa ga af aw wa : Nat → Int32} {t : Nat → Nat} (ht : ∀ x, x < 6 → bo x = nI (t x)) (h8 : ∀ x, x < 6 → t x < 8) {post : Int32 → Prop} (h : post (nI (bd_rk t 6 0))) : wpY_numberOfBoard post (sa, ga, bo, af, aw, wa) :=
  ⟨7, yr_out ht h8 6 0 (by omega) h⟩
theorem ys_gapL {b : Nat} (hb : b < 720) {bo sa ga af aw wa : Nat → Int32} (ht : ∀ x, x < 6 → bo x = nI (bd_t b x)) {post : Int32 → Prop} (h : post (nI (bd_g b))) : ∀ d x : Nat, x + d = bd_g b → wY_gapOnBoard_2 post sa ga bo af aw wa (d + 1) (nI x) := by
  have g6 := bd_g6 b
  intro d
  induction d with
  | zero =>
    intro x hx
    have hx6 : x < 6 := by omega
    refine br_f (nI_ge (b := 6) hx6 (by decide)) ⟨vp_in_nI hx6 (by decide), br_t ?_ ?_⟩
    · rw [nI_clamp (by omega), ht x hx6, (bd_gz hb hx6).mpr (by omega)]; rfl
    · rw [← hx] at h; exact h
  | succ d ih =>
    intro x hx
    have hx6 : x < 6 := by omega
    have nz : ¬ bd_t b x = 0 := fun w => by have := (bd_gz hb hx6).mp w; omega
    have t6 := bd_t6 hb hx6
    refine br_f (nI_ge (b := 6) hx6 (by decide)) ⟨vp_in_nI hx6 (by decide), br_f ?_ (nm_r (nI_1 x) (ih (x + 1) (by omega)))⟩
    rw [nI_clamp (by omega), ht x hx6]
    exact nI_ne0 (by omega) (by omega)
theorem ys_gap {b : Nat} (hb : b < 720) {bo sa ga af aw wa : Nat → Int32} (ht : ∀ x, x < 6 → bo x = nI (bd_t b x)) {post : Int32 → Prop} (h : post (nI (bd_g b))) : wpY_gapOnBoard post (sa, ga, bo, af, aw, wa) :=
  ⟨bd_g b + 1, ys_gapL hb ht h (bd_g b) 0 (by omega)⟩
def ys_tg (p0 p1 : Int32) : Int32 := if p1 = 0 then (if p0 < 3 then -1 else p0 - 3) else if p1 = 1 then (if 3 ≤ p0 then -1 else p0 + 3) else if p1 = 2 then (if (p0 - p0 / 3 * 3) ≤ 0 then -1 else p0 - 1) else (if 2 ≤ (p0 - p0 / 3 * 3) then -1 else p0 + 1)
theorem ys_tgP {post : Int32 → Prop} {sa ga bo af aw wa : Nat → Int32} (p0 p1 : Int32) (h : post (ys_tg p0 p1)) : wpY_target post (sa, ga, bo, af, aw, wa) p0 p1 := by
  unfold wpY_target
  unfold ys_tg at h
  dsimp only
  repeat' (first | apply And.intro | intro)
  all_goals simp_all
theorem ys_tgT : ∀ g, g < 6 → ∀ m, m < 4 → ys_tg (nI g) (nI m) = if bd_to g m = 6 then -1 else nI (bd_to g m) := by decide +kernel
theorem ys_tg1 {g m : Nat} (hg : g < 6) (hm : m < 4) (c : bd_to g m = 6) {sa ga bo af aw wa : Nat → Int32} {post : Int32 → Prop} (h : post (-1)) : wpY_target post (sa, ga, bo, af, aw, wa) (nI g) (nI m) := ys_tgP _ _ (by rw [ys_tgT g hg m hm, if_pos c]; exact h)
theorem ys_tg2 {g m : Nat} (hg : g < 6) (hm : m < 4) (c : ¬ bd_to g m = 6) {sa ga bo af aw wa : Nat → Int32} {post : Int32 → Prop} (h : post (nI (bd_to g m))) : wpY_target post (sa, ga, bo, af, aw, wa) (nI g) (nI m) := ys_tgP _ _ (by rw [ys_tgT g hg m hm, if_neg c]; exact h)
