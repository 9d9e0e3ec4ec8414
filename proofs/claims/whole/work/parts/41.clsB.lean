/-- the planner's part of the memory and the reference's say the same -/
def Re (M : Mem) : Prop := Mw M ∧ Qw M ∧ (vv M 0 3 = vv M 16 2 ∧ vv M 1 0 = vv M 16 1 ∧ vv M 1 4 = vv M 16 3) ∧ (∀ j, j < 6 → vv M 2 j = vv M 17 j ∧ vv M 3 j = vv M 18 j) ∧ (∀ i, i < 4 → vv M (5 + i) 0 = vv M 21 i ∧ vv M (5 + i) 1 = vv M 22 i ∧ vv M (5 + i) 2 = vv M 23 i ∧ vv M (5 + i) 3 = vv M 24 i ∧ vv M (5 + i) 4 = vv M 25 i ∧ vv M (5 + i) 5 = vv M 26 i) ∧ (∀ i, i < 4 → (vv M (5 + i) 6 = 0 ∧ vv M 27 i = -1) ∨ (vv M (5 + i) 6 = 1 ∧ vv M 27 i = 6 * vv M (5 + i) 8 + vv M (5 + i) 7 ∧ 0 ≤ vv M (5 + i) 7 ∧ vv M (5 + i) 7 ≤ 5 ∧ vv M (5 + i) 7 + vv M 21 i ≤ vv M 16 1 ∧ 0 ≤ vv M (5 + i) 8 ∧ vv M (5 + i) 8 ≤ 15)) ∧ (0 ≤ vv M 1 3 ∧ vv M 1 3 < 65536 ∧ ∀ h : Nat, h < 16 → ((vv M 1 3).toNat.testBit h = true ↔ ∃ k : Nat, (k : Int) < vv M 16 3 ∧ vv M 19 k ≤ h ∧ (h : Int) ≤ vv M 20 k)) ∧ ∀ i : Nat, (i : Int) < vv M 16 2 → 1 ≤ vv M 21 i ∧ 1 ≤ vv M 23 i ∧ 1 ≤ vv M 25 i
theorem suit_may {M : Mem} (hR : Re M) {i p : Nat} (hi : i < 4) (hp : (p : Int) < vv M 16 1) : cSuit M p (vv M 21 i) (vv M 22 i) (vv M 26 i).toNat ↔ rDeep M i p ∧ rGear M i p := by
  obtain ⟨hM, hQ, ⟨-, hL, -⟩, hJ, -⟩ := hR
  have h6 := hM.1
  unfold cSuit rDeep rGear
  constructor
  · rintro ⟨h1, h2, h3⟩
    refine ⟨⟨by omega, fun k a b => ?_⟩, fun b hb => ?_⟩
    · rw [← (hJ k (by omega)).1]; exact h2 k a b
    · obtain ⟨q, a1, a2, a3⟩ := h3 b hb
      exact ⟨q, a1, a2, by omega, by rw [← (hJ q (by omega)).2]; exact a3⟩
  · rintro ⟨⟨h1, h2⟩, h3⟩
    refine ⟨by omega, fun k a b => ?_, fun b hb => ?_⟩
    · rw [(hJ k (by omega)).1]; exact h2 k a b
    · obtain ⟨q, a1, a2, a3, a4⟩ := h3 b hb
      exact ⟨q, a1, a2, by rw [(hJ q (by omega)).2]; exact a4⟩
theorem e_beginsFrom (N : Nat) {M : Mem} (hR : Re M) {M' : Mem} (hE : ∀ c, c < 9 → M' c = M c) {x : Int} (hx : 0 ≤ x ∧ x ≤ 15) : ∃ m : Nat, m < 65536 ∧ fX0_beginsFrom N (zI x) M' = some (nI m, M') ∧ ∀ h, h < 16 → (m.testBit h = true ↔ x ≤ (h : Int) ∧ rTide M h) := by
  obtain ⟨hM, hQ, ⟨-, -, hS⟩, -, -, -, ⟨t1, t2, t3⟩, -⟩ := hR
  have hsp := hM.2.2.1
  unfold fX0_beginsFrom
  have h15 : (15 : Int32) = zI 15 := by decide
  rw [h15, bd_e _ (e_bb N (by omega) (by omega) (by omega) (by omega) M'), hE 1 (by decide), vv_z M 1 4, hS, i0]
  by_cases hz : vv M 16 3 = 0
  · rw [if_pos ((z_eq (by omega) (by omega) (by omega) (by omega)).mpr hz)]
    refine ⟨hmask x 15, hmask_lt _ _, rfl, fun h hh => ?_⟩
    rw [hmask_b x 15 hh, decide_eq_true_iff]
    exact ⟨fun q => ⟨q.1, Or.inl hz⟩, fun q => ⟨q.1, by omega⟩⟩
  · rw [if_neg (fun q => hz ((z_eq (by omega) (by omega) (by omega) (by omega)).mp q)), vv_n (M := M) (c := 1) (k := 3) t1, n_and]
    refine ⟨_, Nat.lt_of_le_of_lt Nat.and_le_left (hmask_lt x 15), rfl, fun h hh => ?_⟩
    rw [Nat.testBit_and, Bool.and_eq_true, hmask_b x 15 hh, decide_eq_true_iff, t3 h hh]
    constructor
    · rintro ⟨⟨a, _⟩, b⟩
      exact ⟨a, Or.inr b⟩
    · rintro ⟨a, b | b⟩
      · exact absurd b hz
      · exact ⟨⟨a, by omega⟩, b⟩
theorem n_shl {h : Nat} (hh : h < 16) : (1 : Int32) <<< (nI h &&& 31) = nI (2 ^ h) := by
  rcases (show h = 0 ∨ h = 1 ∨ h = 2 ∨ h = 3 ∨ h = 4 ∨ h = 5 ∨ h = 6 ∨ h = 7 ∨ h = 8 ∨ h = 9 ∨ h = 10 ∨ h = 11 ∨ h = 12 ∨ h = 13 ∨ h = 14 ∨ h = 15 by omega) with rfl | rfl | rfl | rfl | rfl | rfl | rfl | rfl | rfl | rfl | rfl | rfl | rfl | rfl | rfl | rfl <;> decide
theorem e_beginsAt (N : Nat) (hN : 100 ≤ N) {M : Mem} (hR : Re M) {M' : Mem} (hE : ∀ c, c < 9 → M' c = M c) {i p : Nat} (hi : i < 4) (hp : (p : Int) < vv M 16 1) : ∃ m : Nat, m < 65536 ∧ fX2_beginsAt N (5 + i) (zI p) M' = some (nI m, M') ∧ ∀ h, h < 16 → (m.testBit h = true ↔ rMay M i (6 * h + p)) := by
  have hR' := hR
  obtain ⟨hM, hQ, ⟨-, hL, hS⟩, -, hF, hX, -, -⟩ := hR'
  have h6 := hM.1
  have hs := hM.2.2.2.2.2 i hi
  have hf := hF i hi
  have hm : ∀ h : Nat, (6 * h + p) % 6 = p ∧ (6 * h + p) / 6 = h := fun h => by omega
  have hQ' : Qw M' := by
    unfold Qw vv at hQ ⊢
    rw [hE 1 (by decide), hE 2 (by decide), hE 3 (by decide)]
    exact hQ
  have hCS : ∀ (l nd : Int) (w : Nat), cSuit M' p l nd w ↔ cSuit M p l nd w := fun l nd w => by
    unfold cSuit vv
    rw [hE 1 (by decide), hE 2 (by decide), hE 3 (by decide)]
  unfold fX2_beginsAt
  rw [hE (5 + i) (by omega), vv_z M (5 + i) 6, i0]
  rcases hX i hi with ⟨x1, x2⟩ | ⟨x1, x2, x3, x4, x5, x6, x7⟩
  · rw [if_pos ((z_eq (by omega) (by omega) (by omega) (by omega)).mpr x1), vv_z M (5 + i) 0, vv_z M (5 + i) 1, vv_n (M := M) (c := 5 + i) (k := 5) (by omega), hf.1, hf.2.1, hf.2.2.2.2.2]
    obtain ⟨r, a1, a2, a3⟩ := e_suits N hN hQ' (p := p) (w := (vv M 26 i).toNat) (l := vv M 21 i) (nd := vv M 22 i) (by omega) (by omega) (by omega) (by omega)
    rw [hCS] at a3
    rw [bd_e _ a1]
    have key : ∀ h : Nat, rMay M i (6 * h + p) ↔ (vv M 24 i ≤ (h : Int) ∧ rTide M h ∧ rDeep M i p ∧ rGear M i p) := fun h => by
      unfold rMay
      rw [(hm h).1, (hm h).2]
      constructor
      · rintro (⟨q, _⟩ | ⟨_, _, q⟩)
        · omega
        · exact q
      · intro q
        exact Or.inr ⟨by omega, hp, q⟩
    rcases a2 with rfl | rfl
    · rw [if_pos (by decide)]
      refine ⟨0, by decide, rfl, fun h hh => ?_⟩
      rw [Nat.zero_testBit, key h]
      exact ⟨fun q => absurd q (by decide), fun q => absurd (a3.mpr ((suit_may hR hi hp).mpr q.2.2)) (by decide)⟩
    · rw [if_neg (by decide), hE (5 + i) (by omega), vv_z M (5 + i) 3, hf.2.2.2.1]
      obtain ⟨m, b1, b2, b3⟩ := e_beginsFrom N hR hE (x := vv M 24 i) (by omega)
      rw [bd_e _ b2]
      refine ⟨m, b1, rfl, fun h hh => ?_⟩
      rw [b3 h hh, key h]
      have := (suit_may hR hi hp).mp (a3.mp rfl)
      exact ⟨fun q => ⟨q.1, q.2, this⟩, fun q => ⟨q.1, q.2.1⟩⟩
  · rw [if_neg (fun q => by have := (z_eq (by omega) (by omega) (by omega) (by omega)).mp q; omega), vv_z M (5 + i) 7]
    have key : ∀ h : Nat, rMay M i (6 * h + p) ↔ ((6 * h + p : Nat) : Int) = vv M 27 i := fun h => by
      unfold rMay
      constructor
      · rintro (⟨_, q⟩ | ⟨q, _⟩)
        · exact q
        · omega
      · intro q
        exact Or.inl ⟨by omega, q⟩
    by_cases hq : (p : Int) = vv M (5 + i) 7
    · rw [if_pos ((z_eq (by omega) (by omega) (by omega) (by omega)).mpr hq), vv_n (M := M) (c := 5 + i) (k := 8) (by omega), n_shl (by omega)]
      refine ⟨2 ^ (vv M (5 + i) 8).toNat, ?_, rfl, fun h hh => ?_⟩
      · show _ < 2 ^ 16
        exact Nat.pow_lt_pow_right (by decide) (by omega)
      · rw [Nat.testBit_two_pow, decide_eq_true_iff, key h]
        omega
    · rw [if_neg (fun q => hq ((z_eq (by omega) (by omega) (by omega) (by omega)).mp q))]
      refine ⟨0, by decide, rfl, fun h hh => ?_⟩
      rw [Nat.zero_testBit, key h]
      exact ⟨fun q => absurd q (by decide), fun q => by omega⟩
