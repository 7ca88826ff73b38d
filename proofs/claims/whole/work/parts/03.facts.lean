/-! what the tables say -/
theorem bd_xcA {b x y : Nat} (h : b < 720) (hx : x < 6) (hy : y < 6) : bd_xc b x y < 720 ∧ (bd_p b ^^^ ((bd_t b x ^^^ bd_t b y) * 8 ^ x)) ^^^ ((bd_t b x ^^^ bd_t b y) * 8 ^ y) = bd_p (bd_xc b x y) ∧ ∀ z, z < 6 → bd_t (bd_xc b x y) z = bd_sw (bd_t b) x y z := by
  have q := bd_ckA h hx hy
  unfold bd_ck at q
  simp only [Bool.and_eq_true] at q
  obtain ⟨⟨⟨⟨⟨⟨⟨q1, q2⟩, t0⟩, t1⟩, t2⟩, t3⟩, t4⟩, t5⟩ := q
  refine ⟨Nat.le_of_ble_eq_true q1, Nat.eq_of_beq_eq_true q2, fun z hz => ?_⟩
  have c : z = 0 ∨ z = 1 ∨ z = 2 ∨ z = 3 ∨ z = 4 ∨ z = 5 := by omega
  rcases c with rfl | rfl | rfl | rfl | rfl | rfl <;> exact Nat.eq_of_beq_eq_true (by assumption)
theorem bd_to7 : ∀ g, g < 6 → ∀ m, m < 4 → bd_to g m ≤ 6 := by decide +kernel
theorem bd_op4 : ∀ m, m < 4 → bd_op m < 4 := by decide +kernel
theorem bd_opop : ∀ m, m < 4 → bd_op (bd_op m) = m := by decide +kernel
theorem bd_nx7 {b m : Nat} (h : b < 720) (hm : m < 4) : bd_nx b m ≤ 720 := by
  unfold bd_nx
  split
  · exact Nat.le_refl _
  · next c =>
    have := bd_to7 _ (bd_g6 b) m hm
    exact Nat.le_of_lt (bd_xcA h (bd_g6 b) (by omega)).1
theorem bd_rv' {b : Nat} (h : b < 720) : ∀ m, m < 4 → (bd_nx b m < 720 → bd_nx (bd_nx b m) (bd_op m) = b) := co_dec (P := fun b => ∀ m, m < 4 → (bd_nx b m < 720 → bd_nx (bd_nx b m) (bd_op m) = b)) (by decide +kernel) h
theorem bd_rv {b m : Nat} (h : b < 720) (hm : m < 4) (hn : bd_nx b m < 720) : bd_nx (bd_nx b m) (bd_op m) = b := bd_rv' h m hm hn
