/-! X's search: what holds while the queue is worked off -/
def xb_dv (o : Option Nat) : Int32 := match o with
  | none => -2
  | some k => nI k
def xb_E (g h q L : Nat) (e : Nat → Option Nat) (qs : Nat → Nat) (D Q : Nat → Int32) : Prop :=
  (∀ b, b < 720 → D b = xb_dv (e b)) ∧
  (∀ b k, b < 720 → e b = some k → k ≤ L + 1 ∧ ∃ i, i < q ∧ qs i = b) ∧
  (∀ i, i < q → qs i < 720 ∧ Q i = nI (bd_p (qs i)) ∧ ∃ k, e (qs i) = some k ∧ k ≤ i) ∧
  (∀ i j k k', i ≤ j → j < q → e (qs i) = some k → e (qs j) = some k' → k ≤ k') ∧
  (∀ i j, i < j → j < q → qs i ≠ qs j) ∧
  e g = some 0 ∧ (∀ b, b < 720 → e b = some 0 → b = g) ∧
  (∀ b k, b < 720 → e b = some (k + 1) → ∃ m, m < 4 ∧ bd_nx b m < 720 ∧ e (bd_nx b m) = some k) ∧
  ch_cn D 720 + q = 720 ∧ h ≤ q ∧ (h < q → e (qs h) = some L)
def xb_P (h mm L : Nat) (e : Nat → Option Nat) (qs : Nat → Nat) (pr : Nat → Nat → Bool) : Prop :=
  (∀ c m, pr c m = true ↔ m < 4 ∧ ((∃ i, i < h ∧ qs i = c) ∨ (c = qs h ∧ m < mm))) ∧
  (∀ c m, pr c m = true → c < 720 ∧ ∃ k, e c = some k ∧ k ≤ L ∧ (bd_nx c m < 720 → ∃ j, j ≤ k + 1 ∧ e (bd_nx c m) = some j))
def xb_xd (e : Nat → Option Nat) (pr : Nat → Nat → Bool) (b m : Nat) : Bool := ch_dn e b m && pr (bd_nx b m) (bd_op m)
def xb_I (g h mm L c q : Nat) (D S G Q : Nat → Int32) : Prop := ∃ (e : Nat → Option Nat) (qs : Nat → Nat) (pr : Nat → Nat → Bool), xb_E g h q L e qs D Q ∧ xb_P h mm L e qs pr ∧ ch_S g (xb_xd e pr) S G ∧ h < q ∧ qs h = c
theorem xb_dvN {o : Option Nat} (h : xb_dv o = -2) (hb : ∀ k, o = some k → k < 720) : o = none := by
  cases o with
  | none => rfl
  | some k => exact absurd h (xs_n2 (by have := hb k rfl; omega))
def xb_pu (pr : Nat → Nat → Bool) (c m c' m' : Nat) : Bool := pr c' m' || (Nat.beq c' c && Nat.beq m' m)
def xb_eu (e : Nat → Option Nat) (b k x : Nat) : Option Nat := if x = b then some k else e x
def xb_qu (qs : Nat → Nat) (q b i : Nat) : Nat := if i = q then b else qs i
/-- a pair (c, m) newly worked off whose far end gains nothing by it -/
theorem xb_skip {g h m L c q : Nat} {e : Nat → Option Nat} {qs : Nat → Nat} {pr : Nat → Nat → Bool} {D S G Q : Nat → Int32} (hE : xb_E g h q L e qs D Q) (hP : xb_P h m L e qs pr) (hS : ch_S g (xb_xd e pr) S G) (hh : h < q) (hc : qs h = c) (hm : m < 4) (ht : bd_nx c m < 720 → ∃ j, j ≤ L + 1 ∧ e (bd_nx c m) = some j) (hd : bd_nx c m < 720 → ch_dn e (bd_nx c m) (bd_op m) = false) : xb_I g h (m + 1) L c q D S G Q := by
  obtain ⟨e1, e2, e3, e4, e5, e6, e7, e8, e9, e10, e11⟩ := hE
  have c7 := (e3 h hh).1
  rw [hc] at c7
  have eL := e11 hh
  rw [hc] at eL
  refine ⟨e, qs, xb_pu pr c m, ⟨e1, e2, e3, e4, e5, e6, e7, e8, e9, e10, e11⟩, ⟨?_, ?_⟩, ?_, hh, hc⟩
  · intro c' m'
    unfold xb_pu
    rw [Bool.or_eq_true, Bool.and_eq_true, hP.1 c' m']
    constructor
    · rintro (⟨a, b | b⟩ | ⟨a, b⟩)
      · exact ⟨a, Or.inl b⟩
      · exact ⟨a, Or.inr ⟨b.1, by omega⟩⟩
      · have a' := Nat.eq_of_beq_eq_true a
        have b' := Nat.eq_of_beq_eq_true b
        exact ⟨by omega, Or.inr ⟨by rw [a', hc], by omega⟩⟩
    · rintro ⟨a, b | b⟩
      · exact Or.inl ⟨a, Or.inl b⟩
      · by_cases z : m' = m
        · exact Or.inr ⟨by rw [b.1, hc]; exact Nat.beq_refl _, by rw [z]; exact Nat.beq_refl _⟩
        · exact Or.inl ⟨a, Or.inr ⟨b.1, by omega⟩⟩
  · intro c' m' z
    unfold xb_pu at z; rw [Bool.or_eq_true, Bool.and_eq_true] at z
    rcases z with z | ⟨a, b⟩
    · exact hP.2 c' m' z
    · have a' := Nat.eq_of_beq_eq_true a
      have b' := Nat.eq_of_beq_eq_true b
      subst a' b'
      exact ⟨c7, L, eL, Nat.le_refl _, ht⟩
  · refine ch_Sc (fun x m' hx hm' => ?_) hS
    unfold xb_xd xb_pu
    cases p : pr (bd_nx x m') (bd_op m') with
    | true => rfl
    | false =>
      rw [Bool.false_or, Bool.and_false]
      cases z : (Nat.beq (bd_nx x m') c && Nat.beq (bd_op m') m) with
      | false => rw [Bool.and_false]
      | true =>
        rw [Bool.and_true]
        rw [Bool.and_eq_true] at z
        have a' := Nat.eq_of_beq_eq_true z.1
        have b' := Nat.eq_of_beq_eq_true z.2
        have rv := bd_rv hx hm' (by rw [a']; exact c7)
        rw [a', b'] at rv
        have em : bd_op m = m' := by rw [← b', bd_opop m' hm']
        have q := hd (by rw [rv]; exact hx)
        rw [rv, em] at q
        exact q
theorem xb_none {g h m L c q : Nat} {D S G Q : Nat → Int32} (h1 : xb_I g h m L c q D S G Q) (hm : m < 4) (hn : bd_nx c m = 720) : xb_I g h (m + 1) L c q D S G Q := by
  obtain ⟨e, qs, pr, hE, hP, hS, hh, hc⟩ := h1
  exact xb_skip hE hP hS hh hc hm (fun z => by omega) (fun z => by omega)
theorem xb_enq {g h m L c q b : Nat} {D S G Q : Nat → Int32} (h1 : xb_I g h m L c q D S G Q) (hm : m < 4) (hb : b < 720) (hn : bd_nx c m = b) (hD : D b = -2) : q < 720 ∧ xb_I g h m L c (q + 1) (upd D b (D c + 1)) S G (upd Q q (nI (bd_p b))) := by
  obtain ⟨e, qs, pr, hE, hP, hS, hh, hc⟩ := h1
  obtain ⟨e1, e2, e3, e4, e5, e6, e7, e8, e9, e10, e11⟩ := hE
  have q7 : q < 720 := by have := ch_cn_pos hD 720 hb; omega
  have kb : ∀ x k, x < 720 → e x = some k → k < 720 := by
    intro x k hx ex
    obtain ⟨_, i, hi, ei⟩ := e2 x k hx ex
    obtain ⟨_, _, k', ek, hk⟩ := e3 i hi
    rw [ei, ex] at ek
    cases ek
    omega
  have eb : e b = none := xb_dvN (by rw [← e1 b hb]; exact hD) (fun k ek => kb b k hb ek)
  have nb : ∀ x k, e x = some k → x ≠ b := by intro x k ex c; rw [c, eb] at ex; cases ex
  have c7 := (e3 h hh).1
  rw [hc] at c7
  have eL := e11 hh
  rw [hc] at eL
  have Lh : L ≤ h := by
    obtain ⟨_, _, k', ek, hk⟩ := e3 h hh
    rw [hc, eL] at ek
    cases ek
    exact hk
  have rv := bd_rv c7 hm (by rw [hn]; exact hb)
  rw [hn] at rv
  refine ⟨q7, xb_eu e b (L + 1), xb_qu qs q b, pr, ⟨?_, ?_, ?_, ?_, ?_, ?_, ?_, ?_, ?_, ?_, ?_⟩, ⟨?_, ?_⟩, ?_, by omega, ?_⟩
  all_goals (try unfold xb_eu)
  all_goals (try unfold xb_qu)
  · intro x hx
    by_cases z : x = b
    · rw [z, pk_us, if_pos rfl, e1 c c7, eL]; exact nI_1 L
    · rw [pk_un z, if_neg z]; exact e1 x hx
  · intro x k hx ex
    by_cases z : x = b
    · rw [if_pos z] at ex
      cases ex
      exact ⟨Nat.le_refl _, q, by omega, by rw [if_pos rfl, z]⟩
    · rw [if_neg z] at ex
      obtain ⟨a1, i, a2, a3⟩ := e2 x k hx ex
      exact ⟨a1, i, by omega, by rw [if_neg (by omega)]; exact a3⟩
  · intro i hi
    by_cases z : i = q
    · rw [z, if_pos rfl, pk_us, if_pos rfl]
      exact ⟨hb, rfl, L + 1, rfl, by omega⟩
    · rw [if_neg z, pk_un z]
      obtain ⟨a1, a2, k, a3, a4⟩ := e3 i (by omega)
      exact ⟨a1, a2, k, by rw [if_neg (nb _ k a3)]; exact a3, a4⟩
  · intro i j k k' hij hj ei ej
    by_cases z : j = q
    · rw [if_pos z, if_pos rfl] at ej
      cases ej
      by_cases z2 : i = q
      · rw [if_pos z2, if_pos rfl] at ei
        cases ei
        exact Nat.le_refl _
      · rw [if_neg z2] at ei
        obtain ⟨a1, a2, k2, a3, a4⟩ := e3 i (by omega)
        rw [if_neg (nb _ k2 a3)] at ei
        exact (e2 _ k a1 ei).1
    · rw [if_neg z] at ej
      rw [if_neg (show ¬ i = q by omega)] at ei
      obtain ⟨_, _, k2, a3, _⟩ := e3 i (by omega)
      obtain ⟨_, _, k3, a5, _⟩ := e3 j (by omega)
      rw [if_neg (nb _ k2 a3)] at ei
      rw [if_neg (nb _ k3 a5)] at ej
      exact e4 i j k k' hij (by omega) ei ej
  · intro i j hij hj
    rw [if_neg (show ¬ i = q by omega)]
    obtain ⟨_, _, k2, a3, _⟩ := e3 i (by omega)
    by_cases z : j = q
    · rw [if_pos z]; exact nb _ k2 a3
    · rw [if_neg z]; exact e5 i j hij (by omega)
  · rw [if_neg (nb g 0 e6)]; exact e6
  · intro x hx ex
    by_cases z : x = b
    · rw [if_pos z] at ex; cases ex
    · rw [if_neg z] at ex; exact e7 x hx ex
  · intro x k hx ex
    by_cases z : x = b
    · rw [if_pos z] at ex
      cases ex
      refine ⟨bd_op m, bd_op4 m hm, by rw [z, rv]; exact c7, ?_⟩
      rw [z, rv, if_neg (nb c _ eL)]
      exact eL
    · rw [if_neg z] at ex
      obtain ⟨m', a1, a2, a3⟩ := e8 x k hx ex
      exact ⟨m', a1, a2, by rw [if_neg (nb _ _ a3)]; exact a3⟩
  · have := ch_cn_hi (x := D c + 1) hD (by rw [e1 c c7, eL]; show ¬ nI L + 1 = -2; rw [nI_1]; exact xs_n2 (by omega)) 720 hb
    omega
  · omega
  · intro _
    rw [if_neg (show ¬ h = q by omega), hc, if_neg (nb c _ eL)]
    exact eL
  · intro c' m'
    rw [hP.1 c' m', if_neg (show ¬ h = q by omega)]
    constructor
    · rintro ⟨a, ⟨i, hi, ei⟩ | y⟩
      · exact ⟨a, Or.inl ⟨i, hi, by rw [if_neg (show ¬ i = q by omega)]; exact ei⟩⟩
      · exact ⟨a, Or.inr y⟩
    · rintro ⟨a, ⟨i, hi, ei⟩ | y⟩
      · rw [if_neg (show ¬ i = q by omega)] at ei
        exact ⟨a, Or.inl ⟨i, hi, ei⟩⟩
      · exact ⟨a, Or.inr y⟩
  · intro c' m' z
    obtain ⟨a1, k, a2, a3, a4⟩ := hP.2 c' m' z
    refine ⟨a1, k, by rw [if_neg (nb _ _ a2)]; exact a2, a3, fun y => ?_⟩
    obtain ⟨j, a5, a6⟩ := a4 y
    exact ⟨j, a5, by rw [if_neg (nb _ _ a6)]; exact a6⟩
  · refine ch_Sc (fun x m' hx hm' => ?_) hS
    unfold xb_xd
    cases p : pr (bd_nx x m') (bd_op m') with
    | false => rw [Bool.and_false, Bool.and_false]
    | true =>
      rw [Bool.and_true, Bool.and_true]
      obtain ⟨a1, k, a2, a3, a4⟩ := hP.2 _ _ p
      have rv2 := bd_rv hx hm' a1
      rw [rv2] at a4
      obtain ⟨j, _, a6⟩ := a4 hx
      unfold ch_dn
      dsimp only
      rw [if_neg (nb _ _ a6), if_neg (nb _ _ a2)]
  · rw [if_neg (show ¬ h = q by omega)]; exact hc
theorem xb_way {g h m L c q b : Nat} {D S G Q : Nat → Int32} (h1 : xb_I g h m L c q D S G Q) (hm : m < 4) (hb : b < 720) (hn : bd_nx c m = b) (hD : ¬ D b = -2) : (D b = D c + 1 → xb_I g h (m + 1) L c q D (upd S b (S b + S c)) (upd G b (G b ||| ((1 : Int32) <<< (nI (bd_op m) &&& 31)))) Q) ∧ (¬ D b = D c + 1 → xb_I g h (m + 1) L c q D S G Q) := by
  obtain ⟨e, qs, pr, hE, hP, hS, hh, hc⟩ := h1
  have hE' := hE
  obtain ⟨e1, e2, e3, e4, e5, e6, e7, e8, e9, e10, e11⟩ := hE
  have kb : ∀ x k, x < 720 → e x = some k → k < 720 := by
    intro x k hx ex
    obtain ⟨_, i, hi, ei⟩ := e2 x k hx ex
    obtain ⟨_, _, k', ek, hk⟩ := e3 i hi
    rw [ei, ex] at ek
    cases ek
    omega
  have c7 := (e3 h hh).1
  rw [hc] at c7
  have eL := e11 hh
  rw [hc] at eL
  have rv := bd_rv c7 hm (by rw [hn]; exact hb)
  rw [hn] at rv
  have hb' := e1 b hb
  obtain ⟨j, ej⟩ : ∃ j, e b = some j := by
    cases z : e b with
    | none => rw [z] at hb'; exact absurd hb' hD
    | some j => exact ⟨j, rfl⟩
  rw [ej] at hb'
  have jL := (e2 b j hb ej).1
  have j7 := kb b j hb ej
  have L7 := kb c L c7 eL
  have hcc : D c + 1 = nI (L + 1) := by rw [e1 c c7, eL]; exact nI_1 L
  have hbb : D b = nI j := hb'
  refine ⟨fun y => ?_, fun y => ?_⟩
  · rw [hbb, hcc, nI_eq (by omega) (by omega)] at y
    subst y
    have hdn : ch_dn e b (bd_op m) = true := ch_dnI.mpr ⟨by rw [rv]; exact c7, L, ej, by rw [rv]; exact eL⟩
    have hpf : pr c m = false := by
      cases z : pr c m with
      | false => rfl
      | true =>
        obtain ⟨_, ⟨i, hi, ei⟩ | w⟩ := (hP.1 c m).mp z
        · exact absurd (ei.trans hc.symm) (e5 i h hi hh)
        · omega
    have key := ch_way (w := xb_xd e pr) (w' := xb_xd e (xb_pu pr c m)) (m0 := bd_op m) hS hb (bd_op4 m hm) (by unfold xb_xd; rw [rv, bd_opop m hm, hpf, Bool.and_false]) (by unfold xb_xd xb_pu; rw [hdn, rv, bd_opop m hm, Nat.beq_refl, Nat.beq_refl]; simp) (by
      intro x m' hx hm' hne
      unfold xb_xd xb_pu
      cases p : pr (bd_nx x m') (bd_op m') with
      | true => rfl
      | false =>
        rw [Bool.false_or, Bool.and_false]
        cases z : (Nat.beq (bd_nx x m') c && Nat.beq (bd_op m') m) with
        | false => rw [Bool.and_false]
        | true =>
          rw [Bool.and_eq_true] at z
          have a' := Nat.eq_of_beq_eq_true z.1
          have b' := Nat.eq_of_beq_eq_true z.2
          have rv2 := bd_rv hx hm' (by rw [a']; exact c7)
          rw [a', b', hn] at rv2
          have em : bd_op m = m' := by rw [← b', bd_opop m' hm']
          rcases hne with w | w
          · exact absurd rv2.symm w
          · exact absurd em.symm w) (by
      intro x m' hx hm' z heq
      unfold xb_xd xb_pu at z
      rw [Bool.and_eq_true, heq] at z
      obtain ⟨z1, z2⟩ := z
      rw [Bool.or_eq_true] at z2
      rcases z2 with z2 | z2
      · obtain ⟨_, k, a2, a3, _⟩ := hP.2 _ _ z2
        rw [ej] at a2
        cases a2
        omega
      · rw [Bool.and_eq_true] at z2
        have a' := Nat.eq_of_beq_eq_true z2.1
        rw [a', eL] at ej
        cases ej)
    rw [rv] at key
    refine ⟨e, qs, xb_pu pr c m, hE', ⟨?_, ?_⟩, key, hh, hc⟩
    · intro c' m'
      unfold xb_pu
      rw [Bool.or_eq_true, Bool.and_eq_true, hP.1 c' m']
      constructor
      · rintro (⟨a, b | b⟩ | ⟨a, b⟩)
        · exact ⟨a, Or.inl b⟩
        · exact ⟨a, Or.inr ⟨b.1, by omega⟩⟩
        · have a' := Nat.eq_of_beq_eq_true a
          have b' := Nat.eq_of_beq_eq_true b
          exact ⟨by omega, Or.inr ⟨by rw [a', hc], by omega⟩⟩
      · rintro ⟨a, b | b⟩
        · exact Or.inl ⟨a, Or.inl b⟩
        · by_cases z : m' = m
          · exact Or.inr ⟨by rw [b.1, hc]; exact Nat.beq_refl _, by rw [z]; exact Nat.beq_refl _⟩
          · exact Or.inl ⟨a, Or.inr ⟨b.1, by omega⟩⟩
    · intro c' m' z
      unfold xb_pu at z; rw [Bool.or_eq_true, Bool.and_eq_true] at z
      rcases z with z | ⟨a, b⟩
      · exact hP.2 c' m' z
      · have a' := Nat.eq_of_beq_eq_true a
        have b' := Nat.eq_of_beq_eq_true b
        subst a' b'
        exact ⟨c7, L, eL, Nat.le_refl _, fun _ => ⟨L + 1, Nat.le_refl _, by rw [hn]; exact ej⟩⟩
  · refine xb_skip hE' hP hS hh hc hm (fun _ => ⟨j, jL, by rw [hn]; exact ej⟩) (fun _ => ?_)
    rw [hn]
    cases z : ch_dn e b (bd_op m) with
    | false => rfl
    | true =>
      obtain ⟨_, k, k1, k2⟩ := ch_dnI.mp z
      rw [rv, eL] at k2
      cases k2
      rw [ej] at k1
      cases k1
      exact absurd (hbb.trans hcc.symm) y
