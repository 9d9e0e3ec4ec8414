/-! the reference's methods, one by one, over a memory that is well formed -/
def vv (M : Mem) (c k : Nat) : Int := (M c k).toInt
theorem vv_z (M : Mem) (c k : Nat) : M c k = zI (vv M c k) := (z_i _).symm
def Mw (M : Mem) : Prop := (1 ≤ vv M 16 1 ∧ vv M 16 1 ≤ 6) ∧ (0 ≤ vv M 16 2 ∧ vv M 16 2 ≤ 4) ∧ (0 ≤ vv M 16 3 ∧ vv M 16 3 ≤ 8) ∧ (∀ j, j < 6 → 0 ≤ vv M 17 j ∧ vv M 17 j ≤ 100 ∧ 0 ≤ vv M 18 j ∧ vv M 18 j < 256) ∧ (∀ k, k < 8 → 0 ≤ vv M 19 k ∧ vv M 19 k ≤ 39 ∧ 0 ≤ vv M 20 k ∧ vv M 20 k ≤ 39) ∧ ∀ i, i < 4 → (0 ≤ vv M 21 i ∧ vv M 21 i ≤ 6) ∧ (0 ≤ vv M 22 i ∧ vv M 22 i ≤ 100) ∧ (0 ≤ vv M 23 i ∧ vv M 23 i ≤ 24) ∧ (0 ≤ vv M 24 i ∧ vv M 24 i ≤ 15) ∧ (0 ≤ vv M 25 i ∧ vv M 25 i ≤ 100) ∧ (0 ≤ vv M 26 i ∧ vv M 26 i < 256) ∧ (-1 ≤ vv M 27 i ∧ vv M 27 i ≤ 95)
theorem i0 : (0 : Int32) = zI 0 := by decide
theorem i1 : (1 : Int32) = zI 1 := by decide
theorem iN1 : (-1 : Int32) = zI (-1) := by decide
theorem i6 : (6 : Int32) = zI 6 := by decide
theorem i96 : (96 : Int32) = zI 96 := by decide
theorem iFar : (1000000000 : Int32) = zI 1000000000 := by decide
theorem bool01 {c : Prop} [Decidable c] : (if c then (1 : Int32) else 0) = 0 ∨ (if c then (1 : Int32) else 0) = 1 := by by_cases h : c <;> simp [h]
theorem e_in (N : Nat) (x a b : Int32) (M : Mem) : fX4_in N x a b M = some (if a ≤ x ∧ x ≤ b then 1 else 0, M) := by
  unfold fX4_in
  by_cases h1 : x < a
  · rw [if_pos h1, if_neg (by rw [i_lt] at h1; rw [i_le, i_le]; omega)]
  · rw [if_neg h1]
    by_cases h2 : b < x
    · rw [if_pos h2, if_neg (by rw [i_lt] at h1 h2; rw [i_le, i_le]; omega)]
    · rw [if_neg h2, if_pos (by rw [i_lt] at h1 h2; rw [i_le, i_le]; omega)]
theorem e_isWithin (N : Nat) (x a b : Int32) (M : Mem) : fX3_isWithin N x a b M = some (if a ≤ x ∧ x ≤ b then 1 else 0, M) := e_in N x a b M
/-- deep enough from place p on, for the ship's whole length -/
def rDeep (M : Mem) (i p : Nat) : Prop := (p : Int) + vv M 21 i ≤ vv M 16 1 ∧ ∀ k : Nat, p ≤ k → (k : Int) < p + vv M 21 i → vv M 22 i ≤ vv M 17 k
theorem deep_loop (N : Nat) {M : Mem} (hM : Mw M) {i p : Nat} (hi : i < 4) (hp : (p : Int) + vv M 21 i ≤ vv M 16 1) : ∀ (m k n : Nat), p ≤ k → (k : Int) + m = p + vv M 21 i → m < n →
    ∃ r : Int32, fX4_isDeep_24 N n (zI i) (zI p) 1 (zI k) M = some (r, M) ∧ (r = 0 ∨ r = 1) ∧ (r = 1 ↔ ∀ q : Nat, k ≤ q → (q : Int) < p + vv M 21 i → vv M 22 i ≤ vv M 17 q) := by
  obtain ⟨hL, -, -, hD, -, hS⟩ := hM
  have hs := hS i hi
  intro m
  induction m with
  | zero =>
    intro k n hk he hn
    obtain ⟨n, rfl⟩ : ∃ z, n = z + 1 := ⟨n - 1, by omega⟩
    refine ⟨1, ?_, Or.inr rfl, ⟨fun _ q h1 h2 => by omega, fun _ => rfl⟩⟩
    rw [fX4_isDeep_24_s, gd_z _ (by omega) (by omega) (by omega), n_cl (by omega), vv_z M 21 i, z_add, if_pos ((z_le (by omega) (by omega) (by omega) (by omega)).mpr (by omega)), gp_t _ (Or.inr rfl)]
  | succ m ih =>
    intro k n hk he hn
    obtain ⟨n, rfl⟩ : ∃ z, n = z + 1 := ⟨n - 1, by omega⟩
    have hk6 : k < 6 := by omega
    rw [fX4_isDeep_24_s, gd_z _ (by omega) (by omega) (by omega), n_cl (by omega), vv_z M 21 i, z_add, if_neg (fun q => by have := (z_le (by omega) (by omega) (by omega) (by omega)).mp q; omega), if_neg (by decide), gd_z _ (by omega) (by omega) (by omega), gd_z _ (by omega) (by omega) (by omega), n_cl (by omega), vv_z M 17 k, vv_z M 22 i, lq_e, lq_e, i1, z_add]
    have hd := hD k hk6
    by_cases hq : vv M 17 k < vv M 22 i
    · rw [if_pos ((z_lt (by omega) (by omega) (by omega) (by omega)).mpr hq)]
      refine ⟨0, ?_, Or.inl rfl, ⟨fun h => absurd h (by decide), fun h => ?_⟩⟩
      · obtain ⟨n, rfl⟩ : ∃ z, n = z + 1 := ⟨n - 1, by omega⟩
        rw [fX4_isDeep_24_s, gd_z _ (by omega) (by omega) (by omega)]
        by_cases hc : zI ↑p + M 21 (zI ↑i).toNatClampNeg ≤ zI (↑k + 1)
        · rw [if_pos hc, gp_t _ (Or.inl rfl)]
        · rw [if_neg hc, if_pos rfl, gp_t _ (Or.inl rfl)]
      · have := h k (Nat.le_refl _) (by omega)
        omega
    · rw [if_neg (fun q => hq ((z_lt (by omega) (by omega) (by omega) (by omega)).mp q))]
      obtain ⟨r, h1, h2, h3⟩ := ih (k + 1) n (by omega) (by omega) (by omega)
      refine ⟨r, by rw [← h1]; rfl, h2, h3.trans ⟨fun h q a b => ?_, fun h q a b => h q (by omega) b⟩⟩
      rcases Nat.lt_or_ge k q with z | z
      · exact h q z b
      · have : q = k := by omega
        subst this; omega
theorem e_isDeep (N : Nat) (hN : 100 ≤ N) {M : Mem} (hM : Mw M) {i p : Nat} (hi : i < 4) (hp : p < 6) : ∃ r : Int32, fX4_isDeep N (zI i) (zI p) M = some (r, M) ∧ (r = 0 ∨ r = 1) ∧ (r = 1 ↔ rDeep M i p) := by
  have hM' := hM
  obtain ⟨hL, -, -, hD, -, hS⟩ := hM'
  have hs := hS i hi
  unfold fX4_isDeep
  rw [gd_z _ (by omega) (by omega) (by omega), n_cl (by omega), vv_z M 21 i, vv_z M 16 1, z_add]
  by_cases h : vv M 16 1 < (p : Int) + vv M 21 i
  · rw [if_pos ((z_lt (by omega) (by omega) (by omega) (by omega)).mpr h)]
    refine ⟨0, ?_, Or.inl rfl, ⟨fun h => absurd h (by decide), fun q => by have := q.1; omega⟩⟩
    obtain ⟨n, hn⟩ : ∃ z, N = z + 1 := ⟨N - 1, by omega⟩
    rw [show fX4_isDeep_24 N N = fX4_isDeep_24 N (n + 1) by rw [← hn], fX4_isDeep_24_s, gd_z _ (by omega) (by omega) (by omega)]
    by_cases hc : zI ↑p + M 21 (zI ↑i).toNatClampNeg ≤ zI ↑p
    · rw [if_pos hc, gp_t _ (Or.inl rfl)]
    · rw [if_neg hc, if_pos rfl, gp_t _ (Or.inl rfl)]
  · rw [if_neg (fun q => h ((z_lt (by omega) (by omega) (by omega) (by omega)).mp q))]
    obtain ⟨r, h1, h2, h3⟩ := deep_loop N hM hi (p := p) (by omega) (vv M 21 i).toNat p N (Nat.le_refl _) (by omega) (by omega)
    exact ⟨r, h1, h2, h3.trans ⟨fun q => ⟨by omega, q⟩, fun q => q.2⟩⟩
