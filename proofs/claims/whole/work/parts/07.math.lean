/-! distances, ways and good moves to the GOAL: what is true of them, and that there is one such table -/
def ch_ok (g : Nat) (e : Nat → Option Nat) : Prop :=
  e g = some 0 ∧ (∀ b, b < 720 → e b = some 0 → b = g) ∧
  (∀ b k, b < 720 → e b = some (k + 1) → ∃ m, m < 4 ∧ bd_nx b m < 720 ∧ e (bd_nx b m) = some k) ∧
  (∀ b k m, b < 720 → e b = some k → m < 4 → bd_nx b m < 720 → ∃ j, j ≤ k + 1 ∧ e (bd_nx b m) = some j) ∧
  (∀ b k, b < 720 → e b = some k → k < 720)
theorem ch_le {g : Nat} {e e' : Nat → Option Nat} (h : ch_ok g e) (h' : ch_ok g e') : ∀ k b, b < 720 → e b = some k → ∃ j, j ≤ k ∧ e' b = some j := by
  obtain ⟨a1, a2, a3, a4, a5⟩ := h
  obtain ⟨b1, b2, b3, b4, b5⟩ := h'
  intro k
  induction k with
  | zero => intro b hb eb; rw [a2 b hb eb]; exact ⟨0, Nat.le_refl _, b1⟩
  | succ k ih =>
    intro b hb eb
    obtain ⟨m, hm, hn, hc⟩ := a3 b k hb eb
    obtain ⟨j, hj, ej⟩ := ih _ hn hc
    have rv := bd_rv hb hm hn
    obtain ⟨i, hi, ei⟩ := b4 _ j (bd_op m) hn ej (bd_op4 m hm) (by rw [rv]; exact hb)
    rw [rv] at ei
    exact ⟨i, by omega, ei⟩
theorem ch_uniq {g : Nat} {e e' : Nat → Option Nat} (h : ch_ok g e) (h' : ch_ok g e') {b : Nat} (hb : b < 720) : e b = e' b := by
  cases q : e b with
  | none =>
    cases q' : e' b with
    | none => rfl
    | some k' =>
      obtain ⟨j, _, ej⟩ := ch_le h' h k' b hb q'
      rw [q] at ej; cases ej
  | some k =>
    obtain ⟨j, hj, ej⟩ := ch_le h h' k b hb q
    obtain ⟨i, hi, ei⟩ := ch_le h' h j b hb ej
    rw [q] at ei
    cases ei
    rw [ej, show j = k by omega]
/-- the move m from b leads one nearer -/
def ch_dn (e : Nat → Option Nat) (b m : Nat) : Bool := decide (bd_nx b m < 720) && (match e b, e (bd_nx b m) with
  | some i, some j => Nat.beq i (j + 1)
  | _, _ => false)
theorem ch_dnI {e : Nat → Option Nat} {b m : Nat} : ch_dn e b m = true ↔ bd_nx b m < 720 ∧ ∃ k, e b = some (k + 1) ∧ e (bd_nx b m) = some k := by
  unfold ch_dn
  rw [Bool.and_eq_true, decide_eq_true_iff]
  constructor
  · rintro ⟨h1, h2⟩
    refine ⟨h1, ?_⟩
    split at h2
    · next i j ei ej =>
      refine ⟨j, ?_, ej⟩
      rw [ei, Nat.eq_of_beq_eq_true h2]
    · cases h2
  · rintro ⟨h1, k, e1, e2⟩
    refine ⟨h1, ?_⟩
    rw [e1, e2]
    exact Nat.beq_refl _
def ch_gs (p q r s : Bool) : Int32 := (if p then 1 else 0) ||| (if q then 2 else 0) ||| (if r then 4 else 0) ||| (if s then 8 else 0)
def ch_sum (g : Nat) (w : Nat → Nat → Bool) (S : Nat → Int32) (b : Nat) : Int32 := (if b = g then 1 else 0) + (if w b 0 then S (bd_nx b 0) else 0) + (if w b 1 then S (bd_nx b 1) else 0) + (if w b 2 then S (bd_nx b 2) else 0) + (if w b 3 then S (bd_nx b 3) else 0)
def ch_S (g : Nat) (w : Nat → Nat → Bool) (S G : Nat → Int32) : Prop :=
  (∀ b, b < 720 → S b = ch_sum g w S b) ∧ (∀ b, b < 720 → G b = ch_gs (w b 0) (w b 1) (w b 2) (w b 3))
theorem ch_Sc {g : Nat} {w w' : Nat → Nat → Bool} {S G : Nat → Int32} (hw : ∀ b m, b < 720 → m < 4 → w' b m = w b m) (h : ch_S g w S G) : ch_S g w' S G := by
  obtain ⟨h1, h2⟩ := h
  refine ⟨fun b hb => ?_, fun b hb => ?_⟩
  · rw [h1 b hb]; unfold ch_sum
    rw [hw b 0 hb (by omega), hw b 1 hb (by omega), hw b 2 hb (by omega), hw b 3 hb (by omega)]
  · rw [h2 b hb, hw b 0 hb (by omega), hw b 1 hb (by omega), hw b 2 hb (by omega), hw b 3 hb (by omega)]
theorem ch_bits0 (q r s : Bool) : ch_gs false q r s ||| ((1 : Int32) <<< (nI 0 &&& 31)) = ch_gs true q r s := by cases q <;> cases r <;> cases s <;> decide
theorem ch_bits1 (p r s : Bool) : ch_gs p false r s ||| ((1 : Int32) <<< (nI 1 &&& 31)) = ch_gs p true r s := by cases p <;> cases r <;> cases s <;> decide
theorem ch_bits2 (p q s : Bool) : ch_gs p q false s ||| ((1 : Int32) <<< (nI 2 &&& 31)) = ch_gs p q true s := by cases p <;> cases q <;> cases s <;> decide
theorem ch_bits3 (p q r : Bool) : ch_gs p q r false ||| ((1 : Int32) <<< (nI 3 &&& 31)) = ch_gs p q r true := by cases p <;> cases q <;> cases r <;> decide
theorem ch_add0 (i a b c s : Int32) : i + 0 + a + b + c + s = i + s + a + b + c := by grind
theorem ch_add1 (i a b c s : Int32) : i + a + 0 + b + c + s = i + a + s + b + c := by grind
theorem ch_add2 (i a b c s : Int32) : i + a + b + 0 + c + s = i + a + b + s + c := by grind
theorem ch_add3 (i a b c s : Int32) : i + a + b + c + 0 + s = i + a + b + c + s := by grind
theorem ch_way {g b m0 : Nat} {w w' : Nat → Nat → Bool} {S G : Nat → Int32} (h : ch_S g w S G) (hb : b < 720) (hm0 : m0 < 4) (h0 : w b m0 = false) (h1 : w' b m0 = true) (hs : ∀ x m, x < 720 → m < 4 → (x ≠ b ∨ m ≠ m0) → w' x m = w x m) (hn : ∀ x m, x < 720 → m < 4 → w' x m = true → bd_nx x m ≠ b) : ch_S g w' (upd S b (S b + S (bd_nx b m0))) (upd G b (G b ||| ((1 : Int32) <<< (nI m0 &&& 31)))) := by
  obtain ⟨k1, k2⟩ := h
  have tm : ∀ x m, x < 720 → m < 4 → (x ≠ b ∨ m ≠ m0) → (if w' x m then upd S b (S b + S (bd_nx b m0)) (bd_nx x m) else 0) = (if w x m then S (bd_nx x m) else 0) := by
    intro x m hx hm c
    have e := hs x m hx hm c
    cases q : w' x m with
    | false => rw [q] at e; rw [← e]; rfl
    | true => rw [q] at e; rw [← e, if_pos rfl, if_pos rfl, pk_un (hn x m hx hm q)]
  have t0 : (if w b m0 then S (bd_nx b m0) else 0) = 0 := by rw [h0]; rfl
  have t1 : (if w' b m0 then upd S b (S b + S (bd_nx b m0)) (bd_nx b m0) else 0) = S (bd_nx b m0) := by rw [h1, if_pos rfl, pk_un (hn b m0 hb hm0 h1)]
  refine ⟨fun x hx => ?_, fun x hx => ?_⟩
  · by_cases c : x = b
    · subst c
      rw [pk_us]
      have k := k1 x hb
      generalize hv : S x + S (bd_nx x m0) = v at t1 tm ⊢
      unfold ch_sum at k ⊢
      have cc : m0 = 0 ∨ m0 = 1 ∨ m0 = 2 ∨ m0 = 3 := by omega
      rcases cc with rfl | rfl | rfl | rfl
      · rw [t1, tm x 1 hb (by omega) (Or.inr (by omega)), tm x 2 hb (by omega) (Or.inr (by omega)), tm x 3 hb (by omega) (Or.inr (by omega)), ← hv, k, t0, ch_add0]
      · rw [t1, tm x 0 hb (by omega) (Or.inr (by omega)), tm x 2 hb (by omega) (Or.inr (by omega)), tm x 3 hb (by omega) (Or.inr (by omega)), ← hv, k, t0, ch_add1]
      · rw [t1, tm x 0 hb (by omega) (Or.inr (by omega)), tm x 1 hb (by omega) (Or.inr (by omega)), tm x 3 hb (by omega) (Or.inr (by omega)), ← hv, k, t0, ch_add2]
      · rw [t1, tm x 0 hb (by omega) (Or.inr (by omega)), tm x 1 hb (by omega) (Or.inr (by omega)), tm x 2 hb (by omega) (Or.inr (by omega)), ← hv, k, t0, ch_add3]
    · rw [pk_un c, k1 x hx]
      unfold ch_sum
      rw [tm x 0 hx (by omega) (Or.inl c), tm x 1 hx (by omega) (Or.inl c), tm x 2 hx (by omega) (Or.inl c), tm x 3 hx (by omega) (Or.inl c)]
  · by_cases c : x = b
    · subst c
      rw [pk_us, k2 x hb]
      have cc : m0 = 0 ∨ m0 = 1 ∨ m0 = 2 ∨ m0 = 3 := by omega
      rcases cc with rfl | rfl | rfl | rfl
      · rw [h0, h1, hs x 1 hb (by omega) (Or.inr (by omega)), hs x 2 hb (by omega) (Or.inr (by omega)), hs x 3 hb (by omega) (Or.inr (by omega)), ch_bits0]
      · rw [h0, h1, hs x 0 hb (by omega) (Or.inr (by omega)), hs x 2 hb (by omega) (Or.inr (by omega)), hs x 3 hb (by omega) (Or.inr (by omega)), ch_bits1]
      · rw [h0, h1, hs x 0 hb (by omega) (Or.inr (by omega)), hs x 1 hb (by omega) (Or.inr (by omega)), hs x 3 hb (by omega) (Or.inr (by omega)), ch_bits2]
      · rw [h0, h1, hs x 0 hb (by omega) (Or.inr (by omega)), hs x 1 hb (by omega) (Or.inr (by omega)), hs x 2 hb (by omega) (Or.inr (by omega)), ch_bits3]
    · rw [pk_un c, k2 x hx, hs x 0 hx (by omega) (Or.inl c), hs x 1 hx (by omega) (Or.inl c), hs x 2 hx (by omega) (Or.inl c), hs x 3 hx (by omega) (Or.inl c)]
/-- how many of the first n are unreached -/
def ch_cn (f : Nat → Int32) : Nat → Nat
  | 0 => 0
  | n + 1 => ch_cn f n + if f n = -2 then 1 else 0
theorem ch_cn_all {f : Nat → Int32} : ∀ n, (∀ b, b < n → f b = -2) → ch_cn f n = n
  | 0, _ => rfl
  | n + 1, h => by rw [ch_cn, ch_cn_all n (fun b hb => h b (by omega)), if_pos (h n (by omega))]
theorem ch_cn_lo {f : Nat → Int32} {k : Nat} {x : Int32} : ∀ n, n ≤ k → ch_cn (upd f k x) n = ch_cn f n
  | 0, _ => rfl
  | n + 1, h => by rw [ch_cn, ch_cn, ch_cn_lo n (by omega), pk_un (by omega)]
theorem ch_cn_hi {f : Nat → Int32} {k : Nat} {x : Int32} (hk : f k = -2) (hx : ¬ x = -2) : ∀ n, k < n → ch_cn (upd f k x) n + 1 = ch_cn f n
  | 0, h => by omega
  | n + 1, h => by
    rw [ch_cn, ch_cn]
    by_cases c : n = k
    · subst c
      rw [ch_cn_lo n (Nat.le_refl _), pk_us, if_neg hx, if_pos hk]
    · have := ch_cn_hi hk hx n (by omega)
      rw [pk_un c]
      omega
theorem ch_cn_pos {f : Nat → Int32} {k : Nat} (hk : f k = -2) : ∀ n, k < n → 0 < ch_cn f n
  | 0, h => by omega
  | n + 1, h => by
    rw [ch_cn]
    by_cases c : n = k
    · subst c; rw [if_pos hk]; omega
    · have := ch_cn_pos hk n (by omega); omega
