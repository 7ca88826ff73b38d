/-! Y's search by passes: what holds within a pass and between passes -/
def yb_v (o : Option Nat) : Int32 := match o with
  | none => -1
  | some k => nI k
def yb_l (e : Nat → Option Nat) (d b m : Nat) : Bool := decide (bd_nx b m < 720) && decide (e (bd_nx b m) = some d)
def yb_n (e : Nat → Option Nat) (d b : Nat) : Nat → Bool
  | 0 => false
  | m + 1 => yb_n e d b m || yb_l e d b m
def yb_p (e : Nat → Option Nat) (d x m : Nat) : Option Nat := if e x = none ∧ yb_n e d x m = true then some (d + 1) else e x
def yb_e (e : Nat → Option Nat) (d x : Nat) : Option Nat := yb_p e d x 4
def yb_k (b m x : Nat) : Nat := if x < b then 4 else if x = b then m else 0
def yb_A (e : Nat → Option Nat) (d b m : Nat) (aw : Nat → Int32) : Prop := ∀ x, x < 720 → aw x = yb_v (yb_p e d x (yb_k b m x))
def yb_F (e : Nat → Option Nat) (d b m : Nat) (x2 : Int32) : Prop := (x2 = 0 ∧ ∀ x, x < 720 → yb_p e d x (yb_k b m x) = e x) ∨ (x2 = 1 ∧ ∃ x, x < 720 ∧ e x = none ∧ yb_e e d x = some (d + 1))
def yb_K (g : Nat) (e : Nat → Option Nat) (d b : Nat) (wa : Nat → Int32) : Prop := ∀ x k, x < 720 → yb_p e d x (yb_k b 0 x) = some k → wa x = ch_sum g (ch_dn (yb_e e d)) wa x
theorem yb_kb (b m : Nat) : yb_k b m b = m := by unfold yb_k; rw [if_neg (by omega), if_pos rfl]
theorem yb_kn {b m m' x : Nat} (h : x ≠ b) : yb_k b m x = yb_k b m' x := by unfold yb_k; rw [if_neg h, if_neg h]
theorem yb_k4 (b x : Nat) : yb_k b 4 x = yb_k (b + 1) 0 x := by
  unfold yb_k
  by_cases c : x < b
  · rw [if_pos c, if_pos (by omega)]
  · rw [if_neg c]
    by_cases c2 : x = b
    · rw [if_pos c2, if_pos (by omega)]
    · rw [if_neg c2, if_neg (by omega)]
      split <;> rfl
theorem yb_p0 (e : Nat → Option Nat) (d x : Nat) : yb_p e d x 0 = e x := if_neg (fun z => Bool.noConfusion z.2)
theorem yb_po {e : Nat → Option Nat} {d x m k : Nat} (h : e x = some k) : yb_p e d x m = some k := by
  unfold yb_p
  rw [if_neg (fun z => by have z1 := z.1; rw [h] at z1; cases z1)]
  exact h
theorem yb_ps {e : Nat → Option Nat} {d x m k : Nat} (h : yb_p e d x m = some k) : e x = some k ∨ (e x = none ∧ yb_n e d x m = true ∧ k = d + 1) := by
  unfold yb_p at h
  by_cases c : e x = none ∧ yb_n e d x m = true
  · rw [if_pos c] at h; cases h; exact Or.inr ⟨c.1, c.2, rfl⟩
  · rw [if_neg c] at h; exact Or.inl h
theorem yb_pn {e : Nat → Option Nat} {d x m : Nat} (h : yb_p e d x m = none) : e x = none ∧ yb_n e d x m = false := by
  unfold yb_p at h
  by_cases c : e x = none ∧ yb_n e d x m = true
  · rw [if_pos c] at h; cases h
  · rw [if_neg c] at h
    refine ⟨h, ?_⟩
    cases z : yb_n e d x m with
    | false => rfl
    | true => exact absurd ⟨h, z⟩ c
theorem yb_pnew {e : Nat → Option Nat} {d x m : Nat} (h : e x = none) (h2 : yb_n e d x m = true) : yb_p e d x m = some (d + 1) := if_pos ⟨h, h2⟩
theorem yb_nup {e : Nat → Option Nat} {d x m : Nat} (h : yb_n e d x m = true) : ∀ j, yb_n e d x (m + j) = true
  | 0 => h
  | j + 1 => by show (yb_n e d x (m + j) || _) = true; rw [yb_nup h j]; rfl
theorem yb_n4 {e : Nat → Option Nat} {d x m : Nat} (hm : m ≤ 4) (h : yb_n e d x m = true) : yb_n e d x 4 = true := by
  have := yb_nup h (4 - m)
  rw [show m + (4 - m) = 4 by omega] at this
  exact this
theorem yb_nl {e : Nat → Option Nat} {d x m : Nat} (hm : m < 4) (h : yb_l e d x m = true) : yb_n e d x 4 = true :=
  yb_n4 (m := m + 1) (by omega) (by show (_ || yb_l e d x m) = true; rw [h, Bool.or_true])
theorem yb_nex {e : Nat → Option Nat} {d x : Nat} : ∀ m, yb_n e d x m = true → ∃ j, j < m ∧ yb_l e d x j = true
  | 0, h => Bool.noConfusion h
  | m + 1, h => by
    have h' : (yb_n e d x m || yb_l e d x m) = true := h
    rw [Bool.or_eq_true] at h'
    rcases h' with h' | h'
    · obtain ⟨j, hj, q⟩ := yb_nex m h'
      exact ⟨j, by omega, q⟩
    · exact ⟨m, by omega, h'⟩
theorem yb_lI {e : Nat → Option Nat} {d x m : Nat} : yb_l e d x m = true ↔ bd_nx x m < 720 ∧ e (bd_nx x m) = some d := by
  unfold yb_l; rw [Bool.and_eq_true, decide_eq_true_iff, decide_eq_true_iff]
theorem yb_neg {k : Nat} (h : k < 2 ^ 31) : ¬ (-1 : Int32) = nI k := by
  intro e
  have := congrArg Int32.toInt e
  rw [nI_toInt h, show (-1 : Int32).toInt = -1 from by decide] at this
  omega
/-- the test 'away is d' in pass d speaks of the table before the pass -/
theorem yb_vd {e : Nat → Option Nat} {d x m : Nat} (d7 : d < 720) (hk : ∀ k, e x = some k → k ≤ d) : yb_v (yb_p e d x m) = nI d ↔ e x = some d := by
  constructor
  · intro h
    cases z : yb_p e d x m with
    | none => rw [z] at h; exact absurd h (yb_neg (by omega))
    | some k =>
      rw [z] at h
      have h' : nI k = nI d := h
      rcases yb_ps z with y | ⟨_, _, y⟩
      · have := hk k y
        rw [nI_eq (by omega) (by omega)] at h'
        rw [y, h']
      · rw [nI_eq (by omega) (by omega)] at h'
        omega
  · intro h; rw [yb_po h]; rfl
theorem yb_vd1 {e : Nat → Option Nat} {d x m : Nat} (d7 : d < 720) (hk : ∀ k, e x = some k → k ≤ d) : yb_v (yb_p e d x m) = nI (d + 1) ↔ e x = none ∧ yb_n e d x m = true := by
  constructor
  · intro h
    cases z : yb_p e d x m with
    | none => rw [z] at h; exact absurd h (yb_neg (by omega))
    | some k =>
      rw [z] at h
      have h' : nI k = nI (d + 1) := h
      rcases yb_ps z with y | ⟨y1, y2, y⟩
      · have := hk k y
        rw [nI_eq (by omega) (by omega)] at h'
        omega
      · exact ⟨y1, y2⟩
  · intro h; rw [yb_pnew h.1 h.2]; rfl
theorem yb_same {e : Nat → Option Nat} {d b m : Nat} (h : yb_p e d b (m + 1) = yb_p e d b m) (x : Nat) : yb_p e d x (yb_k b (m + 1) x) = yb_p e d x (yb_k b m x) := by
  by_cases c : x = b
  · rw [c, yb_kb, yb_kb, h]
  · rw [yb_kn c]
theorem yb_sA {e : Nat → Option Nat} {d b m : Nat} {aw : Nat → Int32} (h : yb_p e d b (m + 1) = yb_p e d b m) (H : yb_A e d b m aw) : yb_A e d b (m + 1) aw := by
  intro x hx; rw [yb_same h]; exact H x hx
theorem yb_sF {e : Nat → Option Nat} {d b m : Nat} {x2 : Int32} (h : yb_p e d b (m + 1) = yb_p e d b m) (H : yb_F e d b m x2) : yb_F e d b (m + 1) x2 := by
  rcases H with ⟨a, H⟩ | H
  · exact Or.inl ⟨a, fun x hx => by rw [yb_same h]; exact H x hx⟩
  · exact Or.inr H
/-- the table that pass d leaves: its levels -/
theorem yb_eL {e : Nat → Option Nat} {d x k : Nat} (hk : ∀ k, e x = some k → k ≤ d) (h : yb_e e d x = some k) : k ≤ d + 1 := by
  rcases yb_ps h with y | ⟨_, _, y⟩
  · have := hk k y; omega
  · omega
theorem yb_ed {e : Nat → Option Nat} {d x k : Nat} (hk : k ≤ d) (h : yb_e e d x = some k) : e x = some k := by
  rcases yb_ps h with y | ⟨_, _, y⟩
  · exact y
  · omega
theorem yb_dn {e : Nat → Option Nat} {d x m k : Nat} (hx : e x = some k) (hkd : k ≤ d) : ch_dn (yb_e e d) x m = ch_dn e x m := by
  cases z : ch_dn e x m with
  | true =>
    obtain ⟨a1, i, a2, a3⟩ := ch_dnI.mp z
    exact ch_dnI.mpr ⟨a1, i, yb_po a2, yb_po a3⟩
  | false =>
    cases y : ch_dn (yb_e e d) x m with
    | false => rfl
    | true =>
      obtain ⟨a1, i, a2, a3⟩ := ch_dnI.mp y
      have b2 : yb_e e d x = some k := yb_po hx
      rw [b2] at a2
      cases a2
      have b3 := yb_ed (by omega) a3
      rw [ch_dnI.mpr ⟨a1, i, hx, b3⟩] at z
      cases z
theorem yb_sumc {g x : Nat} {w w' : Nat → Nat → Bool} {S S' : Nat → Int32} (hw : ∀ m, m < 4 → w' x m = w x m) (h : ∀ m, m < 4 → w x m = true → S' (bd_nx x m) = S (bd_nx x m)) : ch_sum g w' S' x = ch_sum g w S x := by
  have t : ∀ m, m < 4 → (if w' x m then S' (bd_nx x m) else 0) = (if w x m then S (bd_nx x m) else 0) := by
    intro m hm
    rw [hw m hm]
    cases z : w x m with
    | false => rfl
    | true => rw [h m hm z]
  unfold ch_sum
  rw [t 0 (by omega), t 1 (by omega), t 2 (by omega), t 3 (by omega)]
theorem yb_cle {f f' : Nat → Int32} : ∀ n, (∀ x, x < n → f' x = -2 → f x = -2) → ch_cn f' n ≤ ch_cn f n
  | 0, _ => Nat.le_refl _
  | n + 1, h => by
    have i := yb_cle n (fun x hx => h x (by omega))
    rw [ch_cn, ch_cn]
    by_cases c : f' n = -2
    · rw [if_pos c, if_pos (h n (by omega) c)]; omega
    · rw [if_neg c]; omega
theorem yb_clt {f f' : Nat → Int32} {x0 : Nat} (h0 : f x0 = -2) (h1 : ¬ f' x0 = -2) : ∀ n, x0 < n → (∀ x, x < n → f' x = -2 → f x = -2) → ch_cn f' n + 1 ≤ ch_cn f n
  | 0, hn, _ => by omega
  | n + 1, hn, h => by
    rw [ch_cn, ch_cn]
    by_cases c0 : x0 = n
    · have i := yb_cle n (fun x hx => h x (by omega))
      subst c0
      rw [if_neg h1, if_pos h0]; omega
    · have i := yb_clt h0 h1 n (by omega) (fun x hx => h x (by omega))
      by_cases c : f' n = -2
      · rw [if_pos c, if_pos (h n (by omega) c)]; omega
      · rw [if_neg c]; omega
/-- between passes -/
def yb_M (g d : Nat) (e : Nat → Option Nat) (wa : Nat → Int32) : Prop :=
  e g = some 0 ∧ (∀ b, b < 720 → e b = some 0 → b = g) ∧
  (∀ b k, b < 720 → e b = some (k + 1) → ∃ m, m < 4 ∧ bd_nx b m < 720 ∧ e (bd_nx b m) = some k) ∧
  (∀ b k, b < 720 → e b = some k → k ≤ d) ∧
  (∀ b k m, b < 720 → e b = some k → k < d → m < 4 → bd_nx b m < 720 → ∃ j, j ≤ k + 1 ∧ e (bd_nx b m) = some j) ∧
  (∀ b k, b < 720 → e b = some k → wa b = ch_sum g (ch_dn e) wa b) ∧
  ch_cn (fun b => xb_dv (e b)) 720 + d + 1 ≤ 720
def yb_T (g : Nat) (aw wa : Nat → Int32) : Prop := ∃ e, ch_ok g e ∧ (∀ b, b < 720 → aw b = yb_v (e b)) ∧ (∀ b k, b < 720 → e b = some k → wa b = ch_sum g (ch_dn e) wa b)
theorem yb_K0 {g d : Nat} {e : Nat → Option Nat} {wa : Nat → Int32} (h : yb_M g d e wa) : yb_K g e d 0 wa := by
  obtain ⟨m1, m2, m3, m4, m5, m6, m7⟩ := h
  intro x k hx h
  have e0 : yb_k 0 0 x = 0 := by unfold yb_k; rw [if_neg (by omega)]; split <;> rfl
  rw [e0, yb_p0] at h
  rw [m6 x k hx h]
  exact (yb_sumc (fun m _ => yb_dn h (m4 x k hx h)) (fun m _ _ => rfl)).symm
theorem yb_A0 {d : Nat} {e : Nat → Option Nat} {aw : Nat → Int32} (h : ∀ b, b < 720 → aw b = yb_v (e b)) : yb_A e d 0 0 aw ∧ yb_F e d 0 0 0 := by
  have e0 : ∀ x, yb_k 0 0 x = 0 := by intro x; unfold yb_k; rw [if_neg (by omega)]; split <;> rfl
  refine ⟨fun x hx => ?_, Or.inl ⟨rfl, fun x hx => ?_⟩⟩
  · rw [e0, yb_p0]; exact h x hx
  · rw [e0, yb_p0]
theorem yb_k720 {x : Nat} (hx : x < 720) : yb_k 720 0 x = 4 := if_pos hx
theorem yb_close {g d : Nat} {e : Nat → Option Nat} {wa : Nat → Int32} (h : yb_M g d e wa) {b k m : Nat} (hb : b < 720) (eb : e b = some k) (hm : m < 4) (hn : bd_nx b m < 720) : ∃ j, j ≤ k + 1 ∧ yb_e e d (bd_nx b m) = some j := by
  obtain ⟨m1, m2, m3, m4, m5, m6, m7⟩ := h
  by_cases c : k < d
  · obtain ⟨j, a1, a2⟩ := m5 b k m hb eb c hm hn
    exact ⟨j, a1, yb_po a2⟩
  · have kd : k = d := by have := m4 b k hb eb; omega
    subst kd
    cases z : e (bd_nx b m) with
    | some j => exact ⟨j, by have := m4 _ j hn z; omega, yb_po z⟩
    | none =>
      have rv := bd_rv hb hm hn
      exact ⟨k + 1, Nat.le_refl _, yb_pnew z (yb_nl (bd_op4 m hm) (yb_lI.mpr ⟨by rw [rv]; exact hb, by rw [rv]; exact eb⟩))⟩
theorem yb_next {g d : Nat} {e : Nat → Option Nat} {wa0 wa aw : Nat → Int32} (h : yb_M g d e wa0) (hA : yb_A e d 720 0 aw) (hK : yb_K g e d 720 wa) (hF : ∃ x, x < 720 ∧ e x = none ∧ yb_e e d x = some (d + 1)) : yb_M g (d + 1) (yb_e e d) wa ∧ (∀ b, b < 720 → aw b = yb_v (yb_e e d b)) := by
  have h' := h
  obtain ⟨m1, m2, m3, m4, m5, m6, m7⟩ := h
  refine ⟨⟨yb_po m1, ?_, ?_, ?_, ?_, ?_, ?_⟩, ?_⟩
  · intro b hb eb; exact m2 b hb (yb_ed (by omega) eb)
  · intro b k hb eb
    rcases yb_ps eb with y | ⟨_, y2, y3⟩
    · obtain ⟨m, a1, a2, a3⟩ := m3 b k hb y
      exact ⟨m, a1, a2, yb_po a3⟩
    · obtain ⟨m, a1, a2⟩ := yb_nex 4 y2
      obtain ⟨a3, a4⟩ := yb_lI.mp a2
      have kd : k = d := by omega
      exact ⟨m, a1, a3, by rw [kd]; exact yb_po a4⟩
  · intro b k hb eb; exact yb_eL (fun k => m4 b k hb) eb
  · intro b k m hb eb hk hm hn
    exact yb_close h' hb (yb_ed (by omega) eb) hm hn
  · intro b k hb eb
    exact hK b k hb (by rw [yb_k720 hb]; exact eb)
  · obtain ⟨x0, a1, a2, a3⟩ := hF
    have d7 : d < 720 := by omega
    have := yb_clt (f := fun b => xb_dv (e b)) (f' := fun b => xb_dv (yb_e e d b)) (x0 := x0) (by show xb_dv (e x0) = -2; rw [a2]; rfl) (by show ¬ xb_dv (yb_e e d x0) = -2; rw [a3]; exact xs_n2 (by omega)) 720 a1 (fun x hx hz => by
      show xb_dv (e x) = -2
      cases z : e x with
      | none => rfl
      | some k =>
        have q : yb_e e d x = some k := yb_po z
        have hz' : xb_dv (yb_e e d x) = -2 := hz
        rw [q] at hz'
        exact hz')
    omega
  · intro b hb
    rw [hA b hb, yb_k720 hb]
    rfl
theorem yb_last {g d : Nat} {e : Nat → Option Nat} {wa0 wa aw : Nat → Int32} (h : yb_M g d e wa0) (hA : yb_A e d 720 0 aw) (hK : yb_K g e d 720 wa) (hF : ∀ x, x < 720 → yb_p e d x (yb_k 720 0 x) = e x) : yb_T g aw wa := by
  have h' := h
  obtain ⟨m1, m2, m3, m4, m5, m6, m7⟩ := h
  have ee : ∀ x, x < 720 → yb_e e d x = e x := fun x hx => by have := hF x hx; rw [yb_k720 hx] at this; exact this
  refine ⟨e, ⟨m1, m2, m3, ?_, ?_⟩, ?_, ?_⟩
  · intro b k m hb eb hm hn
    obtain ⟨j, a1, a2⟩ := yb_close h' hb eb hm hn
    rw [ee _ hn] at a2
    exact ⟨j, a1, a2⟩
  · intro b k hb eb
    have := m4 b k hb eb
    omega
  · intro b hb; rw [hA b hb, hF b hb]
  · intro b k hb eb
    rw [hK b k hb (by rw [yb_k720 hb]; exact yb_po eb)]
    exact yb_sumc (fun m _ => yb_dn eb (m4 b k hb eb)) (fun m _ _ => rfl)
theorem yb_first {g : Nat} (hg : g < 720) {aw wa : Nat → Int32} (h : ∀ b, b < 720 → aw b = -1) : yb_M g 0 (xb_eu (fun _ => none) g 0) (upd wa g 1) ∧ ∀ b, b < 720 → upd aw g 0 b = yb_v (xb_eu (fun _ => none) g 0 b) := by
  have eg : xb_eu (fun _ => none) g 0 g = some 0 := if_pos rfl
  have en : ∀ b k, xb_eu (fun _ => none) g 0 b = some k → b = g ∧ k = 0 := by
    intro b k eb
    unfold xb_eu at eb
    by_cases z : b = g
    · rw [if_pos z] at eb; cases eb; exact ⟨z, rfl⟩
    · rw [if_neg z] at eb; cases eb
  refine ⟨⟨eg, ?_, ?_, ?_, ?_, ?_, ?_⟩, ?_⟩
  · intro b hb eb; exact (en b 0 eb).1
  · intro b k hb eb; have := (en _ _ eb).2; omega
  · intro b k hb eb; have := (en _ _ eb).2; omega
  · intro b k m hb eb hk; omega
  · intro b k hb eb
    have b' := (en _ _ eb).1
    subst b'
    have df : ∀ m, ch_dn (xb_eu (fun _ => none) b 0) b m = false := by
      intro m
      cases z : ch_dn (xb_eu (fun _ => none) b 0) b m with
      | false => rfl
      | true =>
        obtain ⟨_, i, a2, _⟩ := ch_dnI.mp z
        have := (en _ _ a2).2
        omega
    unfold ch_sum
    rw [df, df, df, df, pk_us, if_pos rfl]
    rfl
  · have a := yb_clt (f := fun _ => -2) (f' := fun b => xb_dv (xb_eu (fun _ => none) g 0 b)) (x0 := g) rfl (by show ¬ xb_dv (xb_eu (fun _ => none) g 0 g) = -2; rw [eg]; decide) 720 hg (fun _ _ _ => rfl)
    have b := ch_cn_all (f := fun _ => -2) 720 (fun _ _ => rfl)
    omega
  · intro b hb
    by_cases z : b = g
    · rw [z, pk_us, eg]; rfl
    · rw [pk_un z, h b hb]; unfold xb_eu; rw [if_neg z]; rfl
