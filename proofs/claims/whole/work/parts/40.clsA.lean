theorem n_not {x g : Nat} (hx : x < 256) (hg : g < 256) : nI x &&& (nI g ^^^ -1) = nI (x &&& (255 ^^^ g)) := by
  apply nI_inj
  have hm : (-1 : Int32).toBitVec = BitVec.allOnes 32 := by decide
  rw [Int32.toBitVec_and, Int32.toBitVec_xor, nI_bv, nI_bv, nI_bv, hm]
  apply BitVec.eq_of_getLsbD_eq
  intro i hi
  have hb : ∀ n : Nat, (BitVec.ofNat 32 n).getLsbD i = n.testBit i := fun n => by rw [BitVec.getLsbD_ofNat, decide_eq_true hi, Bool.true_and]
  rw [BitVec.getLsbD_and, BitVec.getLsbD_xor, hb, hb, hb, Nat.testBit_and, Nat.testBit_xor, BitVec.getLsbD_allOnes, decide_eq_true hi]
  by_cases h8 : i < 8
  · have : (255 : Nat).testBit i = true := by
      rcases (show i = 0 ∨ i = 1 ∨ i = 2 ∨ i = 3 ∨ i = 4 ∨ i = 5 ∨ i = 6 ∨ i = 7 by omega) with rfl | rfl | rfl | rfl | rfl | rfl | rfl | rfl <;> decide
    rw [this, Bool.xor_comm]
  · have h0 : x.testBit i = false := Nat.testBit_lt_two_pow (Nat.lt_of_lt_of_le hx (show 2 ^ 8 ≤ 2 ^ i from Nat.pow_le_pow_right (by decide) (by omega)))
    rw [h0]; rfl
theorem n_not_b {x g b : Nat} (hx : x < 256) (hg : g < 256) : (x &&& (255 ^^^ g)).testBit b = (x.testBit b && !g.testBit b) := by
  rw [Nat.testBit_and, Nat.testBit_xor]
  by_cases h8 : b < 8
  · have : (255 : Nat).testBit b = true := by
      rcases (show b = 0 ∨ b = 1 ∨ b = 2 ∨ b = 3 ∨ b = 4 ∨ b = 5 ∨ b = 6 ∨ b = 7 by omega) with rfl | rfl | rfl | rfl | rfl | rfl | rfl | rfl <;> decide
    rw [this, Bool.true_xor]
  · have h0 : x.testBit b = false := Nat.testBit_lt_two_pow (Nat.lt_of_lt_of_le hx (show 2 ^ 8 ≤ 2 ^ b from Nat.pow_le_pow_right (by decide) (by omega)))
    rw [h0]; rfl
/-- the planner's own quay is well formed -/
def Qw (M : Mem) : Prop := (1 ≤ vv M 1 0 ∧ vv M 1 0 ≤ 6) ∧ ∀ j, j < 6 → 0 ≤ vv M 2 j ∧ vv M 2 j ≤ 100 ∧ 0 ≤ vv M 3 j ∧ vv M 3 j < 256
theorem e_isRow (N : Nat) {M : Mem} (hQ : Qw M) {p l : Int} (hp : -1000 ≤ p ∧ p < 1000000000) (hl : 0 ≤ l ∧ l ≤ 6) : fX0_isRow N (zI p) (zI l) M = some (if 0 ≤ p ∧ p + l ≤ vv M 1 0 then 1 else 0, M) := by
  obtain ⟨hL, -⟩ := hQ
  unfold fX0_isRow
  rw [vv_z M 1 0, z_sub, i0]
  by_cases h1 : p < 0
  · rw [if_pos ((z_lt (by omega) (by omega) (by omega) (by omega)).mpr h1), if_neg (by omega)]
  · rw [if_neg (fun q => h1 ((z_lt (by omega) (by omega) (by omega) (by omega)).mp q))]
    by_cases h2 : vv M 1 0 - l < p
    · rw [if_pos ((z_lt (by omega) (by omega) (by omega) (by omega)).mpr h2), if_neg (by omega)]
    · rw [if_neg (fun q => h2 ((z_lt (by omega) (by omega) (by omega) (by omega)).mp q)), if_pos (by omega)]
theorem suits_loop (N : Nat) {M : Mem} (hQ : Qw M) {p : Nat} {l nd : Int} (hl : 0 ≤ l ∧ l ≤ 6) (hnd : 0 ≤ nd ∧ nd ≤ 100) (hp : (p : Int) + l ≤ vv M 1 0) : ∀ (m k n x : Nat), p ≤ k → (k : Int) + m = p + l → x < 256 → m < n →
    ∃ r : Int32, fX0_suits_18 N n (zI p) (zI l) (zI nd) (nI x) (zI k) M = some (r, M) ∧ (r = 0 ∨ r = 1) ∧ (r = 1 ↔ (∀ q : Nat, k ≤ q → (q : Int) < p + l → nd ≤ vv M 2 q) ∧ ∀ b, x.testBit b = true → ∃ q : Nat, k ≤ q ∧ (q : Int) < p + l ∧ (vv M 3 q).toNat.testBit b = true) := by
  obtain ⟨hL, hD⟩ := hQ
  intro m
  induction m with
  | zero =>
    intro k n x hk he hx hn
    obtain ⟨n, rfl⟩ : ∃ z, n = z + 1 := ⟨n - 1, by omega⟩
    rw [fX0_suits_18_s, z_add, if_pos ((z_le (by omega) (by omega) (by omega) (by omega)).mpr (by omega))]
    have e0 : (0 : Int32) = nI 0 := by decide
    by_cases h : x = 0
    · rw [if_pos (by rw [h]; decide)]
      refine ⟨1, rfl, Or.inr rfl, ⟨fun _ => ⟨fun q h1 h2 => by omega, fun b hb => by rw [h, Nat.zero_testBit] at hb; cases hb⟩, fun _ => rfl⟩⟩
    · rw [if_neg (fun q => h (by rw [e0] at q; exact (n_eq (by omega) (by omega)).mp q))]
      refine ⟨0, rfl, Or.inl rfl, ⟨fun q => absurd q (by decide), fun ⟨_, q⟩ => ?_⟩⟩
      obtain ⟨t, t1, t2, -⟩ := b_least (n := x) (by omega) h
      obtain ⟨q, h1, h2, -⟩ := q t t2
      omega
  | succ m ih =>
    intro k n x hk he hx hn
    obtain ⟨n, rfl⟩ : ∃ z, n = z + 1 := ⟨n - 1, by omega⟩
    have hd := hD k (by omega)
    have hg : (vv M 3 k).toNat < 256 := by omega
    rw [fX0_suits_18_s, z_add, if_neg (fun q => by have := (z_le (by omega) (by omega) (by omega) (by omega)).mp q; omega), gd_z _ (by omega) (by omega) (by omega), gd_z _ (by omega) (by omega) (by omega), n_cl (by omega), vv_z M 2 k, vv_n (M := M) (c := 3) (k := k) (by omega), n_not hx hg, lq_e, lq_e, z_1]
    by_cases h : nd ≤ vv M 2 k
    · rw [if_pos ((z_le (by omega) (by omega) (by omega) (by omega)).mpr h)]
      have hx2 : x &&& (255 ^^^ (vv M 3 k).toNat) < 256 := Nat.lt_of_le_of_lt Nat.and_le_left hx
      obtain ⟨r, h1, h2, h3⟩ := ih (k + 1) n _ (by omega) (by omega) hx2 (by omega)
      refine ⟨r, h1, h2, h3.trans ⟨fun ⟨q1, q2⟩ => ⟨fun q a b => ?_, fun b hb => ?_⟩, fun ⟨q1, q2⟩ => ⟨fun q a b => q1 q (by omega) b, fun b hb => ?_⟩⟩⟩
      · rcases Nat.lt_or_ge k q with z | z
        · exact q1 q z b
        · rw [show q = k by omega]; exact h
      · cases hgb : (vv M 3 k).toNat.testBit b
        · obtain ⟨q, a1, a2, a3⟩ := q2 b (by rw [n_not_b hx hg, hb, hgb]; rfl)
          exact ⟨q, by omega, a2, a3⟩
        · exact ⟨k, Nat.le_refl _, by omega, hgb⟩
      · rw [n_not_b hx hg, Bool.and_eq_true] at hb
        obtain ⟨q, a1, a2, a3⟩ := q2 b hb.1
        rcases Nat.lt_or_ge k q with z | z
        · exact ⟨q, z, a2, a3⟩
        · rw [show q = k by omega] at a3
          rw [a3] at hb
          exact absurd hb.2 (by decide)
    · rw [if_neg (fun q => h ((z_le (by omega) (by omega) (by omega) (by omega)).mp q))]
      refine ⟨0, rfl, Or.inl rfl, ⟨fun q => absurd q (by decide), fun ⟨q, _⟩ => ?_⟩⟩
      have := q k (Nat.le_refl _) (by omega)
      omega
/-- the row from p on suits: within, deep enough, with the gear -/
def cSuit (M : Mem) (p : Nat) (l nd : Int) (w : Nat) : Prop := (p : Int) + l ≤ vv M 1 0 ∧ (∀ q : Nat, p ≤ q → (q : Int) < p + l → nd ≤ vv M 2 q) ∧ ∀ b, w.testBit b = true → ∃ q : Nat, p ≤ q ∧ (q : Int) < p + l ∧ (vv M 3 q).toNat.testBit b = true
theorem e_suits (N : Nat) (hN : 100 ≤ N) {M : Mem} (hQ : Qw M) {p w : Nat} {l nd : Int} (hp6 : p < 6) (hl : 0 ≤ l ∧ l ≤ 6) (hnd : 0 ≤ nd ∧ nd ≤ 100) (hw : w < 256) : ∃ r : Int32, fX0_suits N (zI p) (zI l) (zI nd) (nI w) M = some (r, M) ∧ (r = 0 ∨ r = 1) ∧ (r = 1 ↔ cSuit M p l nd w) := by
  unfold fX0_suits
  rw [bd_e _ (e_isRow N hQ (by omega) hl)]
  by_cases h : (p : Int) + l ≤ vv M 1 0
  · rw [if_neg (by rw [if_pos (by omega)]; decide)]
    obtain ⟨r, h1, h2, h3⟩ := suits_loop N hQ hl hnd h l.toNat p N w (Nat.le_refl _) (by omega) hw (by omega)
    exact ⟨r, h1, h2, h3.trans ⟨fun q => ⟨h, q⟩, fun q => q.2⟩⟩
  · rw [if_pos (by rw [if_neg (by omega)])]
    exact ⟨0, rfl, Or.inl rfl, ⟨fun q => absurd q (by decide), fun q => absurd q.1 h⟩⟩
