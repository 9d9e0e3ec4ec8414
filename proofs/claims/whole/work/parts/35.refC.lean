def rMay (M : Mem) (i a : Nat) : Prop := (0 ≤ vv M 27 i ∧ (a : Int) = vv M 27 i) ∨ (vv M 27 i < 0 ∧ ((a % 6 : Nat) : Int) < vv M 16 1 ∧ vv M 24 i ≤ ((a / 6 : Nat) : Int) ∧ rTide M ((a / 6 : Nat) : Int) ∧ rDeep M i (a % 6) ∧ rGear M i (a % 6))
theorem e_mayBe (N : Nat) (hN : 100 ≤ N) {M : Mem} (hM : Mw M) {i a : Nat} (hi : i < 4) (ha : a < 96) : ∃ r : Int32, fX4_mayBe N (zI i) (zI a) M = some (r, M) ∧ (r = 0 ∨ r = 1) ∧ (r = 1 ↔ rMay M i a) := by
  have hM' := hM
  obtain ⟨hL, -, -, -, -, hS⟩ := hM'
  have hs := hS i hi
  have h6 : a / 6 < 16 := by omega
  have hm : a % 6 < 6 := Nat.mod_lt _ (by decide)
  unfold fX4_mayBe
  rw [gd_z _ (by omega) (by omega) (by omega), n_cl (by omega), z_rem (by omega), z_div (by omega), vv_z M 27 i, vv_z M 16 1, vv_z M 24 i]
  by_cases hf : vv M 27 i < 0
  · rw [if_pos (by rw [i0]; exact (z_lt (by omega) (by omega) (by omega) (by omega)).mpr hf)]
    have key : rMay M i a ↔ (((a % 6 : Nat) : Int) < vv M 16 1 ∧ vv M 24 i ≤ ((a / 6 : Nat) : Int) ∧ rTide M ((a / 6 : Nat) : Int) ∧ rDeep M i (a % 6) ∧ rGear M i (a % 6)) := ⟨fun q => by
      rcases q with ⟨q, _⟩ | ⟨_, q⟩
      · omega
      · exact q, fun q => Or.inr ⟨hf, q⟩⟩
    rw [key]
    by_cases h1 : vv M 16 1 ≤ ((a % 6 : Nat) : Int)
    · rw [if_pos ((z_le (by omega) (by omega) (by omega) (by omega)).mpr h1)]
      exact ⟨0, rfl, Or.inl rfl, ⟨fun q => absurd q (by decide), fun q => by omega⟩⟩
    · rw [if_neg (fun q => h1 ((z_le (by omega) (by omega) (by omega) (by omega)).mp q)), gd_z _ (by omega) (by omega) (by omega)]
      by_cases h2 : ((a / 6 : Nat) : Int) < vv M 24 i
      · rw [if_pos ((z_lt (by omega) (by omega) (by omega) (by omega)).mpr h2)]
        exact ⟨0, rfl, Or.inl rfl, ⟨fun q => absurd q (by decide), fun q => by omega⟩⟩
      · rw [if_neg (fun q => h2 ((z_lt (by omega) (by omega) (by omega) (by omega)).mp q))]
        obtain ⟨r1, a1, a2, a3⟩ := e_isTide N hN hM (h := ((a / 6 : Nat) : Int)) (by omega) (by omega)
        obtain ⟨r2, b1, b2, b3⟩ := e_isDeep N hN hM hi hm
        obtain ⟨r3, c1, c2, c3⟩ := e_hasGear N hN hM hi hm
        rw [bd_e _ a1]
        rcases a2 with rfl | rfl
        · rw [if_pos rfl]
          exact ⟨0, rfl, Or.inl rfl, ⟨fun q => absurd q (by decide), fun q => absurd (a3.mpr q.2.2.1) (by decide)⟩⟩
        · rw [if_neg (by decide), bd_e _ b1]
          rcases b2 with rfl | rfl
          · rw [if_pos rfl]
            exact ⟨0, rfl, Or.inl rfl, ⟨fun q => absurd q (by decide), fun q => absurd (b3.mpr q.2.2.2.1) (by decide)⟩⟩
          · rw [if_neg (by decide), bd_e _ c1]
            rcases c2 with rfl | rfl
            · rw [if_pos rfl]
              exact ⟨0, rfl, Or.inl rfl, ⟨fun q => absurd q (by decide), fun q => absurd (c3.mpr q.2.2.2.2) (by decide)⟩⟩
            · rw [if_neg (by decide)]
              exact ⟨1, rfl, Or.inr rfl, ⟨fun _ => ⟨by omega, by omega, a3.mp rfl, b3.mp rfl, c3.mp rfl⟩, fun _ => rfl⟩⟩
  · rw [if_neg (by rw [i0]; exact fun q => hf ((z_lt (by omega) (by omega) (by omega) (by omega)).mp q)), gd_z _ (by omega) (by omega) (by omega)]
    by_cases h1 : (a : Int) = vv M 27 i
    · rw [if_pos ((z_eq (by omega) (by omega) (by omega) (by omega)).mpr h1)]
      exact ⟨1, rfl, Or.inr rfl, ⟨fun _ => Or.inl ⟨by omega, h1⟩, fun _ => rfl⟩⟩
    · rw [if_neg (fun q => h1 ((z_eq (by omega) (by omega) (by omega) (by omega)).mp q))]
      refine ⟨0, rfl, Or.inl rfl, ⟨fun q => absurd q (by decide), fun q => ?_⟩⟩
      rcases q with ⟨_, q⟩ | ⟨q, _⟩
      · exact absurd q h1
      · omega
def rCost (M : Mem) (i a : Nat) : Int := vv M 25 i * (((a / 6 : Nat) : Int) - vv M 24 i)
theorem mul_b {w d : Int} (h1 : 0 ≤ w) (h2 : w ≤ 100) (h3 : -15 ≤ d) (h4 : d ≤ 15) : -1500 ≤ w * d ∧ w * d ≤ 1500 := by
  have a := Int.mul_le_mul_of_nonneg_left h4 h1
  have b := Int.mul_le_mul_of_nonneg_left h3 h1
  constructor <;> omega
theorem rCost_b {M : Mem} (hM : Mw M) {i a : Nat} (hi : i < 4) (ha : a < 96) : -1500 ≤ rCost M i a ∧ rCost M i a ≤ 1500 := by
  have hs := hM.2.2.2.2.2 i hi
  exact mul_b (by omega) (by omega) (by omega) (by omega)
theorem e_cost (N : Nat) {M : Mem} (hM : Mw M) {i a : Nat} (hi : i < 4) (ha : a < 96) : fX4_cost N (zI i) (zI a) M = some (zI (rCost M i a), M) := by
  unfold fX4_cost
  rw [gd_z _ (by omega) (by omega) (by omega), gd_z _ (by omega) (by omega) (by omega), n_cl (by omega), z_div (by omega), vv_z M 25 i, vv_z M 24 i, z_sub, z_mul]
  rfl
def rMeet (M : Mem) (s a t b : Nat) : Prop := (((a % 6 : Nat) : Int) < ((b % 6 : Nat) : Int) + vv M 21 t ∧ ((b % 6 : Nat) : Int) < ((a % 6 : Nat) : Int) + vv M 21 s) ∧ ((a / 6 : Nat) : Int) < ((b / 6 : Nat) : Int) + vv M 23 t ∧ ((b / 6 : Nat) : Int) < ((a / 6 : Nat) : Int) + vv M 23 s
theorem rMeet_sym {M : Mem} {s a t b : Nat} : rMeet M s a t b ↔ rMeet M t b s a := ⟨fun h => ⟨⟨h.1.2, h.1.1⟩, h.2.2, h.2.1⟩, fun h => ⟨⟨h.1.2, h.1.1⟩, h.2.2, h.2.1⟩⟩
theorem e_meet43 (N : Nat) {M : Mem} (hM : Mw M) {s a t b : Nat} (hs4 : s < 4) (ht4 : t < 4) (ha : a < 96) (hb : b < 96) : ∃ r : Int32, fX4_meet_43 N (zI s) (zI a) (zI t) (zI b) 1 M = some (r, M) ∧ (r = 0 ∨ r = 1) ∧ (r = 1 ↔ (((a / 6 : Nat) : Int) < ((b / 6 : Nat) : Int) + vv M 23 t ∧ ((b / 6 : Nat) : Int) < ((a / 6 : Nat) : Int) + vv M 23 s)) := by
  have h1 := hM.2.2.2.2.2 s hs4
  have h2 := hM.2.2.2.2.2 t ht4
  unfold fX4_meet_43
  rw [if_neg (by decide), gd_z _ (by omega) (by omega) (by omega), gd_z _ (by omega) (by omega) (by omega), n_cl (by omega), n_cl (by omega), z_div (by omega), z_div (by omega), vv_z M 23 t, vv_z M 23 s, z_add, z_add]
  by_cases q1 : ((b / 6 : Nat) : Int) + vv M 23 t ≤ ((a / 6 : Nat) : Int)
  · rw [if_pos ((z_le (by omega) (by omega) (by omega) (by omega)).mpr q1)]
    exact ⟨0, rfl, Or.inl rfl, ⟨fun q => absurd q (by decide), fun q => by omega⟩⟩
  · rw [if_neg (fun q => q1 ((z_le (by omega) (by omega) (by omega) (by omega)).mp q))]
    by_cases q2 : ((a / 6 : Nat) : Int) + vv M 23 s ≤ ((b / 6 : Nat) : Int)
    · rw [if_pos ((z_le (by omega) (by omega) (by omega) (by omega)).mpr q2)]
      exact ⟨0, rfl, Or.inl rfl, ⟨fun q => absurd q (by decide), fun q => by omega⟩⟩
    · rw [if_neg (fun q => q2 ((z_le (by omega) (by omega) (by omega) (by omega)).mp q))]
      exact ⟨1, rfl, Or.inr rfl, ⟨fun _ => ⟨by omega, by omega⟩, fun _ => rfl⟩⟩
theorem e_meet (N : Nat) {M : Mem} (hM : Mw M) {s a t b : Nat} (hs4 : s < 4) (ht4 : t < 4) (ha : a < 96) (hb : b < 96) : ∃ r : Int32, fX4_meet N (zI s) (zI a) (zI t) (zI b) M = some (r, M) ∧ (r = 0 ∨ r = 1) ∧ (r = 1 ↔ rMeet M s a t b) := by
  have h1 := hM.2.2.2.2.2 s hs4
  have h2 := hM.2.2.2.2.2 t ht4
  unfold fX4_meet
  rw [gd_z _ (by omega) (by omega) (by omega), gd_z _ (by omega) (by omega) (by omega), n_cl (by omega), n_cl (by omega), z_rem (by omega), z_rem (by omega), vv_z M 21 t, vv_z M 21 s, z_add, z_add]
  have no : fX4_meet_43 N (zI s) (zI a) (zI t) (zI b) 0 M = some (0, M) := by unfold fX4_meet_43; rw [if_pos rfl]
  by_cases q1 : ((b % 6 : Nat) : Int) + vv M 21 t ≤ ((a % 6 : Nat) : Int)
  · rw [if_pos ((z_le (by omega) (by omega) (by omega) (by omega)).mpr q1), no]
    exact ⟨0, rfl, Or.inl rfl, ⟨fun q => absurd q (by decide), fun q => by have := q.1.1; omega⟩⟩
  · rw [if_neg (fun q => q1 ((z_le (by omega) (by omega) (by omega) (by omega)).mp q))]
    by_cases q2 : ((a % 6 : Nat) : Int) + vv M 21 s ≤ ((b % 6 : Nat) : Int)
    · rw [if_pos ((z_le (by omega) (by omega) (by omega) (by omega)).mpr q2), no]
      exact ⟨0, rfl, Or.inl rfl, ⟨fun q => absurd q (by decide), fun q => by have := q.1.2; omega⟩⟩
    · rw [if_neg (fun q => q2 ((z_le (by omega) (by omega) (by omega) (by omega)).mp q))]
      obtain ⟨r, a1, a2, a3⟩ := e_meet43 N hM hs4 ht4 ha hb
      exact ⟨r, a1, a2, a3.trans ⟨fun q => ⟨⟨by omega, by omega⟩, q⟩, fun q => q.2⟩⟩
/-- the least cost of a ship alone (FAR if it can't be) -/
def rLeast (M : Mem) (i : Nat) (z : Int) : Prop := (z = 1000000000 ∧ ∀ a, a < 96 → ¬ rMay M i a) ∨ (-1500 ≤ z ∧ z ≤ 1500 ∧ (∃ a, a < 96 ∧ rMay M i a ∧ rCost M i a = z) ∧ ∀ a, a < 96 → rMay M i a → z ≤ rCost M i a)
theorem least_loop (N : Nat) (hN : 100 ≤ N) {M : Mem} (hM : Mw M) {i : Nat} (hi : i < 4) : ∀ (m k n : Nat) (z : Int), k + m = 96 → m < n → ((z = 1000000000 ∧ ∀ a, a < k → ¬ rMay M i a) ∨ (-1500 ≤ z ∧ z ≤ 1500 ∧ (∃ a, a < 96 ∧ rMay M i a ∧ rCost M i a = z) ∧ ∀ a, a < k → rMay M i a → z ≤ rCost M i a)) →
    ∃ y : Int, fX4_leastOf_5 N n (zI i) (zI z) (zI k) M = some (zI y, M) ∧ rLeast M i y := by
  intro m
  induction m with
  | zero =>
    intro k n z hk hn hz
    obtain ⟨n, rfl⟩ : ∃ q, n = q + 1 := ⟨n - 1, by omega⟩
    have : k = 96 := by omega
    subst this
    rw [fX4_leastOf_5_s, i96, if_pos ((z_le (by omega) (by omega) (by omega) (by omega)).mpr (by omega))]
    exact ⟨z, rfl, hz⟩
  | succ m ih =>
    intro k n z hk hn hz
    obtain ⟨n, rfl⟩ : ∃ q, n = q + 1 := ⟨n - 1, by omega⟩
    have hk96 : k < 96 := by omega
    obtain ⟨r, a1, a2, a3⟩ := e_mayBe N hN hM hi hk96
    have hcb := rCost_b hM hi hk96
    have hzb : -1500 ≤ z ∧ z ≤ 1000000000 := by rcases hz with ⟨h, _⟩ | ⟨h1, h2, _⟩ <;> omega
    rw [fX4_leastOf_5_s, i96, if_neg (fun q => by have := (z_le (by omega) (by omega) (by omega) (by omega)).mp q; omega), bd_e _ a1]
    rcases a2 with rfl | rfl
    · rw [if_pos rfl, lq_e, z_1]
      have hno : ¬ rMay M i k := fun q => absurd (a3.mpr q) (by decide)
      refine ih (k + 1) n z (by omega) (by omega) ?_
      rcases hz with ⟨h1, h2⟩ | ⟨h1, h2, h3, h4⟩
      · exact Or.inl ⟨h1, fun a ha hm => by
          rcases Nat.lt_or_ge a k with q | q
          · exact h2 a q hm
          · rw [show a = k by omega] at hm; exact hno hm⟩
      · exact Or.inr ⟨h1, h2, h3, fun a ha hm => by
          rcases Nat.lt_or_ge a k with q | q
          · exact h4 a q hm
          · rw [show a = k by omega] at hm; exact absurd hm hno⟩
    · have hyes : rMay M i k := a3.mp rfl
      rw [if_neg (by decide), bd_e _ (e_cost N hM hi hk96)]
      by_cases hc : z ≤ rCost M i k
      · rw [if_pos ((z_le (by omega) (by omega) (by omega) (by omega)).mpr hc), lq_e, z_1]
        refine ih (k + 1) n z (by omega) (by omega) ?_
        rcases hz with ⟨h1, h2⟩ | ⟨h1, h2, h3, h4⟩
        · omega
        · exact Or.inr ⟨h1, h2, h3, fun a ha hm => by
            rcases Nat.lt_or_ge a k with q | q
            · exact h4 a q hm
            · rw [show a = k by omega]; exact hc⟩
      · rw [if_neg (fun q => hc ((z_le (by omega) (by omega) (by omega) (by omega)).mp q)), bd_e _ (e_cost N hM hi hk96), lq_e, z_1]
        refine ih (k + 1) n (rCost M i k) (by omega) (by omega) (Or.inr ⟨by omega, by omega, ⟨k, hk96, hyes, rfl⟩, fun a ha hm => ?_⟩)
        rcases Nat.lt_or_ge a k with q | q
        · rcases hz with ⟨h1, h2⟩ | ⟨h1, h2, h3, h4⟩
          · exact absurd hm (h2 a q)
          · have := h4 a q hm; omega
        · rw [show a = k by omega]; omega
theorem e_leastOf (N : Nat) (hN : 100 ≤ N) {M : Mem} (hM : Mw M) {i : Nat} (hi : i < 4) : ∃ y : Int, fX4_leastOf N (zI i) M = some (zI y, M) ∧ rLeast M i y := by
  unfold fX4_leastOf
  have e : (0 : Int32) = zI ((0 : Nat) : Int) := by decide
  rw [iFar, e]
  exact least_loop N hN hM hi 96 0 N 1000000000 (by omega) (by omega) (Or.inl ⟨rfl, fun a h => by omega⟩)
