/-! the boards: packed, tiles, gap, exchange, neighbours -/
def bd_p (b : Nat) : Nat := bd_T / 2 ^ (18 * b) % 262144
def bd_t (b x : Nat) : Nat := bd_p b / 8 ^ x % 8
/-- how many of the last d cells hold less than v -/
def bd_sm (t : Nat → Nat) (v : Nat) : Nat → Nat
  | 0 => 0
  | d + 1 => (if v ≤ t (5 - d) then 0 else 1) + bd_sm t v d
/-- the rank, with d cells to go -/
def bd_rk (t : Nat → Nat) : Nat → Nat → Nat
  | 0, acc => acc
  | d + 1, acc => bd_rk t d (acc * (d + 1) + bd_sm t (t (5 - d)) d)
def bd_g (b : Nat) : Nat := if bd_t b 1 = 0 then 1 else if bd_t b 2 = 0 then 2 else if bd_t b 3 = 0 then 3 else if bd_t b 4 = 0 then 4 else if bd_t b 5 = 0 then 5 else 0
def bd_sw (t : Nat → Nat) (x y z : Nat) : Nat := if z = y then t x else if z = x then t y else t z
def bd_xc (b x y : Nat) : Nat := bd_rk (bd_sw (bd_t b) x y) 6 0
/-- where the gap goes; 6: nowhere -/
def bd_to (g m : Nat) : Nat := match m with
  | 0 => if g < 3 then 6 else g - 3
  | 1 => if g < 3 then g + 3 else 6
  | 2 => if g % 3 = 0 then 6 else g - 1
  | _ => if g % 3 = 2 then 6 else g + 1
def bd_nx (b m : Nat) : Nat := if bd_to (bd_g b) m = 6 then 720 else bd_xc b (bd_g b) (bd_to (bd_g b) m)
def bd_op (m : Nat) : Nat := match m with
  | 0 => 1
  | 1 => 0
  | 2 => 3
  | _ => 2
theorem bd_rank {b : Nat} (h : b < 720) : bd_rk (bd_t b) 6 0 = b := co_dec (P := fun b => bd_rk (bd_t b) 6 0 = b) (by decide +kernel) h
theorem bd_t6' {b : Nat} (h : b < 720) : ∀ x, x < 6 → bd_t b x < 6 := co_dec (P := fun b => ∀ x, x < 6 → bd_t b x < 6) (by decide +kernel) h
theorem bd_t6 {b x : Nat} (h : b < 720) (hx : x < 6) : bd_t b x < 6 := bd_t6' h x hx
theorem bd_gz' {b : Nat} (h : b < 720) : ∀ x, x < 6 → (bd_t b x = 0 ↔ x = bd_g b) := co_dec (P := fun b => ∀ x, x < 6 → (bd_t b x = 0 ↔ x = bd_g b)) (by decide +kernel) h
theorem bd_gz {b x : Nat} (h : b < 720) (hx : x < 6) : bd_t b x = 0 ↔ x = bd_g b := bd_gz' h x hx
theorem bd_g6 (b : Nat) : bd_g b < 6 := by unfold bd_g; (repeat' split) <;> decide
theorem bd_p18 (b : Nat) : bd_p b < 262144 := Nat.mod_lt _ (by decide)
def bd_ck (x y b : Nat) : Bool := 
  let c := bd_xc b x y
  let d := Nat.xor (bd_t b x) (bd_t b y)
  Nat.ble (c + 1) 720 && Nat.beq (Nat.xor (Nat.xor (bd_p b) (d * 8 ^ x)) (d * 8 ^ y)) (bd_p c)
    && Nat.beq (bd_t c 0) (bd_sw (bd_t b) x y 0) && Nat.beq (bd_t c 1) (bd_sw (bd_t b) x y 1) && Nat.beq (bd_t c 2) (bd_sw (bd_t b) x y 2) && Nat.beq (bd_t c 3) (bd_sw (bd_t b) x y 3) && Nat.beq (bd_t c 4) (bd_sw (bd_t b) x y 4) && Nat.beq (bd_t c 5) (bd_sw (bd_t b) x y 5)
theorem bd_ck0 : (List.range 720).all (fun b => (List.range 6).all (fun y => bd_ck 0 y b)) = true := by decide +kernel
theorem bd_ck1 : (List.range 720).all (fun b => (List.range 6).all (fun y => bd_ck 1 y b)) = true := by decide +kernel
theorem bd_ck2 : (List.range 720).all (fun b => (List.range 6).all (fun y => bd_ck 2 y b)) = true := by decide +kernel
theorem bd_ck3 : (List.range 720).all (fun b => (List.range 6).all (fun y => bd_ck 3 y b)) = true := by decide +kernel
theorem bd_ck4 : (List.range 720).all (fun b => (List.range 6).all (fun y => bd_ck 4 y b)) = true := by decide +kernel
theorem bd_ck5 : (List.range 720).all (fun b => (List.range 6).all (fun y => bd_ck 5 y b)) = true := by decide +kernel
theorem bd_ckA {b x y : Nat} (h : b < 720) (hx : x < 6) (hy : y < 6) : bd_ck x y b = true := by
  have k : ∀ x, (List.range 720).all (fun b => (List.range 6).all (fun y => bd_ck x y b)) = true → bd_ck x y b = true := fun x q =>
    List.all_eq_true.mp (List.all_eq_true.mp q b (List.mem_range.mpr h)) y (List.mem_range.mpr hy)
  have c : x = 0 ∨ x = 1 ∨ x = 2 ∨ x = 3 ∨ x = 4 ∨ x = 5 := by omega
  rcases c with rfl | rfl | rfl | rfl | rfl | rfl
  · exact k 0 bd_ck0
  · exact k 1 bd_ck1
  · exact k 2 bd_ck2
  · exact k 3 bd_ck3
  · exact k 4 bd_ck4
  · exact k 5 bd_ck5
