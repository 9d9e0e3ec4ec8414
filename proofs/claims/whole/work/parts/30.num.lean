/-! numbers: Int32 by its Int -/
theorem i_lt {x y : Int32} : x < y ↔ x.toInt < y.toInt := Int32.lt_iff_toInt_lt
theorem i_le {x y : Int32} : x ≤ y ↔ x.toInt ≤ y.toInt := Int32.le_iff_toInt_le
theorem i_eq {x y : Int32} : x = y ↔ x.toInt = y.toInt := Int32.toInt_inj.symm
theorem i_rng (x : Int32) : -2147483648 ≤ x.toInt ∧ x.toInt < 2147483648 := ⟨by have := x.le_toInt; omega, by have := x.toInt_lt; omega⟩
theorem i_bm {z : Int} (h1 : -2147483648 ≤ z) (h2 : z < 2147483648) : z.bmod (2 ^ 32) = z := Int.bmod_eq_of_le (by omega) (by omega)
theorem i_add {x y : Int32} (h1 : -2147483648 ≤ x.toInt + y.toInt) (h2 : x.toInt + y.toInt < 2147483648) : (x + y).toInt = x.toInt + y.toInt := by
  rw [Int32.toInt_add]; exact i_bm h1 h2
theorem i_sub {x y : Int32} (h1 : -2147483648 ≤ x.toInt - y.toInt) (h2 : x.toInt - y.toInt < 2147483648) : (x - y).toInt = x.toInt - y.toInt := by
  rw [Int32.toInt_sub]; exact i_bm h1 h2
theorem i_mul {x y : Int32} (h1 : -2147483648 ≤ x.toInt * y.toInt) (h2 : x.toInt * y.toInt < 2147483648) : (x * y).toInt = x.toInt * y.toInt := by
  rw [Int32.toInt_mul]; exact i_bm h1 h2
theorem i_neg {x : Int32} (h1 : -2147483648 < x.toInt) : (-x).toInt = -x.toInt := by
  rw [Int32.toInt_neg]; exact i_bm (by have := i_rng x; omega) (by omega)
def zI (z : Int) : Int32 := Int32.ofInt z
theorem z_t {z : Int} (h1 : -2147483648 ≤ z) (h2 : z < 2147483648) : (zI z).toInt = z := Int32.toInt_ofInt_of_le (by omega) (by omega)
theorem z_i (x : Int32) : zI x.toInt = x := Int32.ofInt_toInt x
theorem z_of {x : Int32} {z : Int} (h : x.toInt = z) : x = zI z := by rw [← h, z_i]
theorem z_add (a b : Int) : zI a + zI b = zI (a + b) := (Int32.ofInt_add a b).symm
theorem z_sub (a b : Int) : zI a - zI b = zI (a - b) := (Int32.ofInt_sub a b).symm
theorem z_mul (a b : Int) : zI a * zI b = zI (a * b) := (Int32.ofInt_mul a b).symm
theorem z_lt {a b : Int} (h1 : -2147483648 ≤ a) (h2 : a < 2147483648) (h3 : -2147483648 ≤ b) (h4 : b < 2147483648) : zI a < zI b ↔ a < b := by
  rw [i_lt, z_t h1 h2, z_t h3 h4]
theorem z_le {a b : Int} (h1 : -2147483648 ≤ a) (h2 : a < 2147483648) (h3 : -2147483648 ≤ b) (h4 : b < 2147483648) : zI a ≤ zI b ↔ a ≤ b := by
  rw [i_le, z_t h1 h2, z_t h3 h4]
theorem z_eq {a b : Int} (h1 : -2147483648 ≤ a) (h2 : a < 2147483648) (h3 : -2147483648 ≤ b) (h4 : b < 2147483648) : zI a = zI b ↔ a = b := by
  rw [i_eq, z_t h1 h2, z_t h3 h4]
theorem z_cl {a : Int} (h1 : 0 ≤ a) (h2 : a < 2147483648) : (zI a).toNatClampNeg = a.toNat := by
  show (zI a).toInt.toNat = a.toNat
  rw [z_t (by omega) h2]
theorem n_cl {k : Nat} (h2 : k < 2147483648) : (zI (k : Int)).toNatClampNeg = k := by
  rw [z_cl (by omega) (by omega)]; omega
theorem gd_in {α : Type} {i : Int32} {n : Nat} (k : Option α) (h1 : 0 ≤ i.toInt) (h2 : i.toInt < n) : gd i n k = k := by
  unfold gd
  rw [if_neg]
  intro h
  rcases h with h | h
  · rw [i_lt] at h
    have : (0 : Int32).toInt = 0 := by decide
    omega
  · have : i.toNatClampNeg = i.toInt.toNat := rfl
    omega
theorem gd_z {α : Type} {i : Int} {n : Nat} (k : Option α) (h1 : 0 ≤ i) (h2 : i < n) (hn : n ≤ 1000) : gd (zI i) n k = k := gd_in k (by rw [z_t (by omega) (by omega)]; omega) (by rw [z_t (by omega) (by omega)]; omega)
theorem gp_t {α : Type} {c : Prop} [Decidable c] (k : Option α) (h : c) : gp c k = k := if_pos h
theorem bd_e {α β : Type} {o : Option (α × Mem)} {r : α} {N : Mem} (k : α → Mem → Option β) (h : o = some (r, N)) : bd o k = k r N := by rw [h]; rfl
theorem lq_e {α β : Type} (a : α) (k : α → β) : lq a k = k a := rfl
theorem mw_at (M : Mem) (c k : Nat) (x : Int32) (c' k' : Nat) : mw M c k x c' k' = if c' = c ∧ k' = k then x else M c' k' := by
  by_cases h : c' = c
  · subst h
    rw [mw_s]
    by_cases h2 : k' = k
    · subst h2; simp [upd]
    · simp [upd, h2]
  · rw [mw_n M h]; simp [h]
theorem mw_i (M : Mem) (c k : Nat) (x : Int32) : mw M c k x c k = x := by rw [mw_at]; simp
theorem mw_o (M : Mem) {c k c' k' : Nat} (x : Int32) (h : ¬ (c' = c ∧ k' = k)) : mw M c k x c' k' = M c' k' := by rw [mw_at, if_neg h]
