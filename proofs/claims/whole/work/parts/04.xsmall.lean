/-! X's small methods over boards -/
theorem xs_cnt : ∀ x, x < 6 → (((3 * nI x) &&& 31).toBitVec.smod 32).toNat = 3 * x := by decide +kernel
theorem xs_xor {a b : Nat} (ha : a < 2 ^ 30) (hb : b < 2 ^ 30) : nI a ^^^ nI b = nI (a ^^^ b) := by
  apply Int32.toBitVec_inj.mp
  apply BitVec.eq_of_toNat_eq
  have h := Nat.xor_lt_two_pow ha hb
  rw [Int32.toBitVec_xor, BitVec.toNat_xor, pk_tn (by omega), pk_tn (by omega), pk_tn (by omega)]
theorem xs_pow (x : Nat) : 2 ^ (3 * x) = 8 ^ x := by rw [Nat.pow_mul]
theorem xs_tile {b x : Nat} (hx : x < 6) : (nI (bd_p b) >>> ((3 * nI x) &&& 31)) &&& 7 = nI (bd_t b x) := by
  have h := bd_p18 b
  have h2 : bd_p b / 2 ^ (3 * x) ≤ bd_p b := Nat.div_le_self _ _
  rw [pk_shrN (by omega) _ (3 * x) (xs_cnt x hx), pk_andN (by omega) 3 (by decide), xs_pow]
  rfl
theorem xs_at {post : Int32 → Prop} {p x v : Int32} (e : (p >>> ((3 * x) &&& 31)) &&& 7 = v) (h : post v) : wpX_tileAt post p x := by
  unfold wpX_tileAt; rw [e]; exact h
theorem xr_in {p0 : Int32} {t : Nat → Nat} (ht : ∀ x, x < 6 → (p0 >>> ((3 * nI x) &&& 31)) &&& 7 = nI (t x)) (h8 : ∀ x, x < 6 → t x < 8) {post : Int32 → Prop} {J4 : Int32 → Int32 → Prop} {x1 : Int32} {x : Nat} (hx : x < 6) : ∀ d s : Nat, d ≤ 5 → J4 ((x1 * (6 - nI x)) + nI (s + bd_sm t (t x) d)) (nI x + 1) → wX_rankOf_17 post J4 p0 x1 (nI x) (d + 1) (nI s) (nI (6 - d)) := by
  intro d
  induction d with
  | zero => intro s _ h; exact br_t (by decide) (nm_e (nm_e h))
  | succ d ih =>
    intro s hd h
    have hy : 5 - d < 6 := by omega
    have e6 : 6 - (d + 1) = 5 - d := by omega
    have e1 : nI (5 - d) + 1 = nI (6 - d) := by rw [nI_1]; congr 1; omega
    have a1 := h8 x hx
    have a2 := h8 _ hy
    rw [e6]
    refine br_f (nI_ge (b := 6) hy (by decide)) (xs_at (ht _ hy) (xs_at (ht _ hx) (pk_le (t x) (t (5 - d)) (fun hc => nm_r e1 (ih s (by omega) ?_)) (fun hc => nm_r (nI_1 s) (nm_r e1 (ih (s + 1) (by omega) ?_))))))
    · rw [bd_sm, if_pos hc, Nat.zero_add] at h; exact h
    · rw [bd_sm, if_neg (by omega), ← Nat.add_assoc] at h; exact h
theorem xr_out {p0 : Int32} {t : Nat → Nat} (ht : ∀ x, x < 6 → (p0 >>> ((3 * nI x) &&& 31)) &&& 7 = nI (t x)) (h8 : ∀ x, x < 6 → t x < 8) {post : Int32 → Prop} : ∀ d acc : Nat, d ≤ 6 → post (nI (bd_rk t d acc)) → wX_rankOf_4 post p0 (d + 1) (nI acc) (nI (6 - d)) := by
  intro d
  induction d with
  | zero => intro acc _ h; exact br_t (by decide) h
  | succ d ih =>
    intro acc hd h
    have hy : 5 - d < 6 := by omega
    have e6 : 6 - (d + 1) = 5 - d := by omega
    have e1 : nI (5 - d) + 1 = nI (6 - d) := by rw [nI_1]; congr 1; omega
    rw [e6]
    refine br_f (nI_ge (b := 6) hy (by decide)) (nm_r e1 ⟨d + 1, xr_in ht h8 hy d 0 (by omega) ?_⟩)
    rw [e1, Nat.zero_add, show (6 : Int32) = nI 6 from rfl, pk_sub (by omega), pk_mul, nI_add, show 6 - (5 - d) = d + 1 by omega]
    exact ih _ (by omega) h
theorem xs_rank {b : Nat} (hb : b < 720) {post : Int32 → Prop} (h : post (nI b)) : wpX_rankOf post (nI (bd_p b)) :=
  ⟨7, xr_out (t := bd_t b) (fun _ hx => xs_tile hx) (fun _ _ => Nat.mod_lt _ (by decide)) 6 0 (by omega) (by rw [bd_rank hb]; exact h)⟩
theorem xs_gapL {b : Nat} (hb : b < 720) {post : Int32 → Prop} (h : post (nI (bd_g b))) : ∀ d : Nat, d ≤ 5 → wX_gapOf_4 post (nI (bd_p b)) (d + 1) (nI (if bd_g b < 6 - d then bd_g b else 0)) (nI (6 - d)) := by
  intro d
  induction d with
  | zero => intro _; rw [if_pos (bd_g6 b)]; exact br_t (by decide) h
  | succ d ih =>
    intro hd
    have hy : 5 - d < 6 := by omega
    have e6 : 6 - (d + 1) = 5 - d := by omega
    have e1 : nI (5 - d) + 1 = nI (6 - d) := by rw [nI_1]; congr 1; omega
    have a1 := bd_t6 hb hy
    have z := bd_gz hb hy
    rw [e6]
    refine br_f (nI_ge (b := 6) hy (by decide)) (xs_at (xs_tile hy) (pk_eq (bd_t b (5 - d)) 0 (fun hc => nm_r e1 ?_) (fun hc => nm_r e1 ?_)))
    · have q := ih (by omega)
      have e := z.mp hc
      rw [if_pos (by omega), ← e] at q
      exact q
    · have q := ih (by omega)
      have e : ¬ 5 - d = bd_g b := fun w => hc (z.mpr w)
      by_cases c : bd_g b < 5 - d
      · rw [if_pos (by omega)] at q; rw [if_pos c]; exact q
      · rw [if_neg (by omega)] at q; rw [if_neg c]; exact q
theorem xs_gap {b : Nat} (hb : b < 720) {post : Int32 → Prop} (h : post (nI (bd_g b))) : wpX_gapOf post (nI (bd_p b)) := by
  have q := xs_gapL hb h 5 (by omega)
  have e : (if bd_g b < 6 - 5 then bd_g b else 0) = 0 := by split <;> omega
  rw [e] at q
  exact ⟨_, q⟩
def xs_ga (p0 p1 : Int32) : Int32 := if p1 = 0 ∧ ¬ p0 < 3 then p0 - 3 else if p1 = 1 ∧ ¬ 3 ≤ p0 then p0 + 3 else if p1 = 2 ∧ ¬ (p0 - p0 / 3 * 3) ≤ 0 then p0 - 1 else if p1 = 3 ∧ ¬ 2 ≤ (p0 - p0 / 3 * 3) then p0 + 1 else -2
theorem xs_gaP {post : Int32 → Prop} (p0 p1 : Int32) (h : post (xs_ga p0 p1)) : wpX_gapAfter post p0 p1 := by
  unfold wpX_gapAfter wX_gapAfter_17 wX_gapAfter_31 wX_gapAfter_44
  refine ⟨by decide, nm_e ?_⟩
  unfold xs_ga at h
  repeat' (first | apply And.intro | intro)
  all_goals simp_all
theorem xs_gaT : ∀ g, g < 6 → ∀ m, m < 4 → xs_ga (nI g) (nI m) = if bd_to g m = 6 then -2 else nI (bd_to g m) := by decide +kernel
theorem xs_gaN : ∀ g, g < 6 → xs_ga (nI g) (-2) = -2 := by decide +kernel
theorem xs_ga1 {g m : Nat} (hg : g < 6) (hm : m < 4) (c : bd_to g m = 6) {post : Int32 → Prop} (h : post (-2)) : wpX_gapAfter post (nI g) (nI m) := xs_gaP _ _ (by rw [xs_gaT g hg m hm, if_pos c]; exact h)
theorem xs_ga2 {g m : Nat} (hg : g < 6) (hm : m < 4) (c : ¬ bd_to g m = 6) {post : Int32 → Prop} (h : post (nI (bd_to g m))) : wpX_gapAfter post (nI g) (nI m) := xs_gaP _ _ (by rw [xs_gaT g hg m hm, if_neg c]; exact h)
theorem xs_ga3 {g : Nat} (hg : g < 6) {post : Int32 → Prop} (h : post (-2)) : wpX_gapAfter post (nI g) (-2) := xs_gaP _ _ (by rw [xs_gaN g hg]; exact h)
theorem xs_n2 {n : Nat} (h : n < 2 ^ 31) : ¬ nI n = -2 := by
  intro e
  have := congrArg Int32.toInt e
  rw [nI_toInt h, show (-2 : Int32).toInt = -2 from by decide] at this
  omega
theorem xs_exch {b x y : Nat} (hb : b < 720) (hx : x < 6) (hy : y < 6) {post : Int32 → Prop} (h : post (nI (bd_p (bd_xc b x y)))) : wpX_exchanged post (nI (bd_p b)) (nI x) (nI y) := by
  have h1 := bd_t6 hb hx
  have h2 := bd_t6 hb hy
  have h3 := bd_p18 b
  have hd : bd_t b x ^^^ bd_t b y < 2 ^ 3 := Nat.xor_lt_two_pow (by omega) (by omega)
  have px : 8 ^ x ≤ 8 ^ 5 := Nat.pow_le_pow_right (by decide) (by omega)
  have py : 8 ^ y ≤ 8 ^ 5 := Nat.pow_le_pow_right (by decide) (by omega)
  have mx : (bd_t b x ^^^ bd_t b y) * 8 ^ x < 2 ^ 18 := Nat.lt_of_lt_of_le (Nat.mul_lt_mul_of_lt_of_le hd px (by decide)) (by decide)
  have my : (bd_t b x ^^^ bd_t b y) * 8 ^ y < 2 ^ 18 := Nat.lt_of_lt_of_le (Nat.mul_lt_mul_of_lt_of_le hd py (by decide)) (by decide)
  have m1 : bd_p b ^^^ ((bd_t b x ^^^ bd_t b y) * 8 ^ x) < 2 ^ 18 := Nat.xor_lt_two_pow (by omega) mx
  refine xs_at (xs_tile hx) (xs_at (xs_tile hy) (nm_r (xs_xor (by omega) (by omega)) ?_))
  rw [pk_shlN _ (3 * x) (xs_cnt x hx) (by rw [xs_pow]; omega), pk_shlN _ (3 * y) (xs_cnt y hy) (by rw [xs_pow]; omega), xs_pow, xs_pow, xs_xor (by omega) (by omega), xs_xor (by omega) (by omega), (bd_xcA hb hx hy).2.1]
  exact h
