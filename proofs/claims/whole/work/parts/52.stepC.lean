theorem z0n : zI ((0 : Nat) : Int) = 0 := by decide
theorem z_m1 (k : Nat) : zI ((k + 1 : Nat) : Int) - 1 = zI (k : Int) := by
  rw [i1, z_sub]
  congr 1
  omega
theorem Mw.t {M M' : Mem} (h : Mw M) (e1 : vv M' 16 1 = vv M 16 1) (e2 : vv M' 16 2 = vv M 16 2) (e3 : vv M' 16 3 = vv M 16 3) (e : ∀ c k, 17 ≤ c → c < 28 → vv M' c k = vv M c k) : Mw M' := by
  unfold Mw at h ⊢
  rw [e1, e2, e3]
  simp only [e 17 _ (by decide) (by decide), e 18 _ (by decide) (by decide), e 19 _ (by decide) (by decide), e 20 _ (by decide) (by decide), e 21 _ (by decide) (by decide), e 22 _ (by decide) (by decide), e 23 _ (by decide) (by decide), e 24 _ (by decide) (by decide), e 25 _ (by decide) (by decide), e 26 _ (by decide) (by decide), e 27 _ (by decide) (by decide)]
  exact h
theorem e_isRowI (N : Nat) {M : Mem} (h1 : 1 ≤ vv M 1 0 ∧ vv M 1 0 ≤ 6) (x : Int32) {l : Int32} (hl : 0 ≤ l.toInt ∧ l.toInt ≤ 6) : fX0_isRow N x l M = some (if 0 ≤ x.toInt ∧ x.toInt + l.toInt ≤ vv M 1 0 then 1 else 0, M) := by
  unfold fX0_isRow
  have e : (M 1 0 - l).toInt = vv M 1 0 - l.toInt := by
    unfold vv at h1 ⊢
    exact i_sub (by omega) (by omega)
  simp only [i_lt, t0, e]
  by_cases q1 : x.toInt < 0
  · rw [if_pos q1, if_neg (by omega)]
  · rw [if_neg q1]
    by_cases q2 : vv M 1 0 - l.toInt < x.toInt
    · rw [if_pos q2, if_neg (by omega)]
    · rw [if_neg q2, if_pos (by omega)]
/-- a fixed ship that the ship would meet -/
def mF (M : Mem) (s a i : Nat) : Prop := i ≠ s ∧ 0 ≤ vv M 27 i ∧ rMeet M s a i (vv M 27 i).toNat
theorem mF_e {M : Mem} (hF : RFx M) {s t p k : Nat} (hk : k < 4) (hp : p < 6) (h : 0 ≤ vv M 27 k) : rMeet M s (6 * t + p) k (vv M 27 k).toNat ↔ ((p : Int) < vv M (5 + k) 7 + vv M 21 k ∧ vv M (5 + k) 7 < p + vv M 21 s) ∧ (t : Int) < vv M (5 + k) 8 + vv M 23 k ∧ vv M (5 + k) 8 < t + vv M 23 s := by
  have hf := hF k hk
  unfold rMeet
  have g1 : (((6 * t + p) % 6 : Nat) : Int) = p := by omega
  have g2 : (((6 * t + p) / 6 : Nat) : Int) = t := by omega
  have g3 : (((vv M 27 k).toNat % 6 : Nat) : Int) = vv M (5 + k) 7 := by omega
  have g4 : (((vv M 27 k).toNat / 6 : Nat) : Int) = vv M (5 + k) 8 := by omega
  rw [g1, g2, g3, g4]
theorem mF_skip {M : Mem} {s a k n : Nat} {P : Prop} (hno : ¬ mF M s a k) (h : P ↔ ∃ i, k + 1 ≤ i ∧ i < n ∧ mF M s a i) : P ↔ ∃ i, k ≤ i ∧ i < n ∧ mF M s a i := by
  refine h.trans ⟨?_, ?_⟩
  · rintro ⟨i, h1, h2⟩
    exact ⟨i, by omega, h2⟩
  · rintro ⟨i, h1, h2, h3⟩
    refine ⟨i, ?_, h2, h3⟩
    rcases Nat.lt_or_ge k i with q | q
    · exact q
    · have e : i = k := by omega
      rw [e] at h3
      exact absurd h3 hno
theorem fix3_loop (N : Nat) {M : Mem} (hR : Rn M) {n s p t : Nat} (hn : vv M 16 2 = n) (hs : s < n) (hp : p < 6) (ht : t < 16) : ∀ (m k n1 : Nat), k + m = n → m < n1 → ∃ r : Int32, fX3_meetsFixed_11 N n1 (zI s) (zI p) (zI t) (5 + s) (zI k) M = some (r, M) ∧ (r = 0 ∨ r = 1) ∧ (r = 1 ↔ ∃ i, k ≤ i ∧ i < n ∧ mF M s (6 * t + p) i) := by
  obtain ⟨a, b, c, d, t', s', w, f, o⟩ := id hR
  have hb := b.1
  have hn4 : n ≤ 4 := by omega
  have m03 : M 0 3 = zI n := by rw [vv_z M 0 3, b.2, hn]
  intro m
  induction m with
  | zero =>
    intro k n1 hk hn1
    obtain ⟨n1, rfl⟩ : ∃ q, n1 = q + 1 := ⟨n1 - 1, by omega⟩
    rw [fX3_meetsFixed_11_s, m03, if_pos ((z_le (by omega) (by omega) (by omega) (by omega)).mpr (by omega))]
    refine ⟨0, rfl, Or.inl rfl, ⟨fun e => absurd e (by decide), ?_⟩⟩
    rintro ⟨i, h1, h2, -⟩
    omega
  | succ m ih =>
    intro k n1 hk hn1
    obtain ⟨n1, rfl⟩ : ∃ q, n1 = q + 1 := ⟨n1 - 1, by omega⟩
    obtain ⟨r, r1, r2, r3⟩ := ih (k + 1) n1 (by omega) (by omega)
    have hk4 : k < 4 := by omega
    have hs4 : s < 4 := by omega
    rw [fX3_meetsFixed_11_s, m03, if_neg (fun q => by have := (z_le (by omega) (by omega) (by omega) (by omega)).mp q; omega), gd_z _ (by omega) (by omega) (by omega), n_cl (by omega)]
    by_cases hks : k = s
    · rw [if_pos (by rw [hks]), lq_e, z_1]
      exact ⟨r, r1, r2, mF_skip (fun q => q.1 hks) r3⟩
    · rw [if_neg (fun q => hks (by have := (z_eq (by omega) (by omega) (by omega) (by omega)).mp q; omega)), vv_z M (5 + k) 6]
      rcases id (f k hk4) with ⟨x1, x2⟩ | ⟨x1, x2, x3, x4, x5, x6, x7⟩
      · rw [x1, ← i0, if_pos rfl, lq_e, z_1]
        exact ⟨r, r1, r2, mF_skip (fun q => by have := q.2.1; omega) r3⟩
      · have h27 : 0 ≤ vv M 27 k := by omega
        have em := mF_e f (s := s) (t := t) (p := p) hk4 hp h27
        have hS := s' s hs4
        have hK := s' k hk4
        rw [x1, if_neg (by decide), vv_z M (5 + s) 0, vv_z M (5 + k) 7, vv_z M (5 + k) 0, bd_e _ (e_spansMeet N (by omega) (by omega) (by omega) (by omega) M), hS.2.1, hK.2.1]
        by_cases h1 : (p : Int) < vv M (5 + k) 7 + vv M 21 k ∧ vv M (5 + k) 7 < p + vv M 21 s
        · rw [if_pos h1, if_neg (by decide), vv_z M (5 + s) 2, vv_z M (5 + k) 8, vv_z M (5 + k) 2, bd_e _ (e_spansMeet N (by omega) (by omega) (by omega) (by omega) M), hS.2.2.2.1, hK.2.2.2.1]
          by_cases h2 : (t : Int) < vv M (5 + k) 8 + vv M 23 k ∧ vv M (5 + k) 8 < t + vv M 23 s
          · rw [if_pos h2, if_neg (by decide)]
            exact ⟨1, rfl, Or.inr rfl, ⟨fun _ => ⟨k, Nat.le_refl _, by omega, hks, h27, em.mpr ⟨h1, h2⟩⟩, fun _ => rfl⟩⟩
          · rw [if_neg h2, if_pos rfl, lq_e, z_1]
            exact ⟨r, r1, r2, mF_skip (fun q => h2 (em.mp q.2.2).2) r3⟩
        · rw [if_neg h1, if_pos rfl, lq_e, z_1]
          exact ⟨r, r1, r2, mF_skip (fun q => h1 (em.mp q.2.2).1) r3⟩
theorem fix4_loop (N : Nat) {M : Mem} (hM : Mw M) {n s p t : Nat} (hn : vv M 16 2 = n) (hs : s < n) (hp : p < 6) (ht : t < 16) : ∀ (m k n1 : Nat), k + m = n → m < n1 → ∃ (r : Int32) (M'' : Mem), fX4_fix_51 N n1 (zI s) (zI p) (zI t) (zI k) M = some (r, M'') ∧ ((r = 0 ∧ M'' = M ∧ ∃ i, k ≤ i ∧ i < n ∧ mF M s (6 * t + p) i) ∨ (r = 1 ∧ M'' = mw (mw M 27 s (zI ((6 * t + p : Nat) : Int))) 16 4 0 ∧ ¬ ∃ i, k ≤ i ∧ i < n ∧ mF M s (6 * t + p) i)) := by
  have hb := hM.2.1
  have hn4 : n ≤ 4 := by omega
  have hs4 : s < 4 := by omega
  have m162 : M 16 2 = zI n := by rw [vv_z M 16 2, hn]
  have e6 : (6 : Int32) * zI (t : Int) + zI (p : Int) = zI ((6 * t + p : Nat) : Int) := by
    rw [i6, z_mul, z_add]
    congr 1
  intro m
  induction m with
  | zero =>
    intro k n1 hk hn1
    obtain ⟨n1, rfl⟩ : ∃ q, n1 = q + 1 := ⟨n1 - 1, by omega⟩
    rw [fX4_fix_51_s, m162, if_pos ((z_le (by omega) (by omega) (by omega) (by omega)).mpr (by omega)), gd_z _ (by omega) (by omega) (by omega), lq_e, lq_e, n_cl (by omega), e6]
    refine ⟨1, _, rfl, Or.inr ⟨rfl, rfl, ?_⟩⟩
    rintro ⟨i, h1, h2, -⟩
    omega
  | succ m ih =>
    intro k n1 hk hn1
    obtain ⟨n1, rfl⟩ : ∃ q, n1 = q + 1 := ⟨n1 - 1, by omega⟩
    obtain ⟨r, M'', r1, r2⟩ := ih (k + 1) n1 (by omega) (by omega)
    have hk4 : k < 4 := by omega
    have go : ¬ mF M s (6 * t + p) k → ((r = 0 ∧ M'' = M ∧ ∃ i, k ≤ i ∧ i < n ∧ mF M s (6 * t + p) i) ∨ (r = 1 ∧ M'' = mw (mw M 27 s (zI ((6 * t + p : Nat) : Int))) 16 4 0 ∧ ¬ ∃ i, k ≤ i ∧ i < n ∧ mF M s (6 * t + p) i)) := fun hno => by
      have e := mF_skip hno (Iff.refl (∃ i, k + 1 ≤ i ∧ i < n ∧ mF M s (6 * t + p) i))
      rw [← e]
      exact r2
    rw [fX4_fix_51_s, m162, if_neg (fun q => by have := (z_le (by omega) (by omega) (by omega) (by omega)).mp q; omega)]
    by_cases hks : k = s
    · rw [if_pos (by rw [hks]), lq_e, z_1]
      exact ⟨r, M'', r1, go (fun q => q.1 hks)⟩
    · rw [if_neg (fun q => hks (by have := (z_eq (by omega) (by omega) (by omega) (by omega)).mp q; omega)), gd_z _ (by omega) (by omega) (by omega), n_cl (by omega)]
      have hrg := i_rng (M 27 k)
      have hrg : -2147483648 ≤ vv M 27 k ∧ vv M 27 k < 2147483648 := hrg
      by_cases h27 : vv M 27 k < 0
      · rw [vv_z M 27 k, i0, if_pos ((z_lt (by omega) (by omega) (by omega) (by omega)).mpr h27), lq_e, z_1]
        exact ⟨r, M'', r1, go (fun q => by have := q.2.1; omega)⟩
      · have hlt : (vv M 27 k).toNat < 96 := by
          have := (hM.2.2.2.2.2 k hk4).2.2.2.2.2.2
          omega
        have m27 : M 27 k = zI (((vv M 27 k).toNat : Nat) : Int) := by
          rw [Int.toNat_of_nonneg (by omega)]
          exact vv_z M 27 k
        obtain ⟨q, q1, q2, q3⟩ := e_meet N hM (s := s) (a := 6 * t + p) (t := k) (b := (vv M 27 k).toNat) hs4 hk4 (by omega) hlt
        rw [m27, i0, if_neg (fun e => by have := (z_lt (by omega) (by omega) (by omega) (by omega)).mp e; omega), gd_z _ (by omega) (by omega) (by omega), e6, bd_e _ q1]
        rcases q2 with q2 | q2
        · rw [q2, i0, if_pos rfl, lq_e, z_1]
          exact ⟨r, M'', r1, go (fun e => by have := q3.mpr e.2.2; rw [q2] at this; exact absurd this (by decide))⟩
        · rw [q2, if_neg (by decide)]
          exact ⟨0, M, by rw [i0], Or.inl ⟨rfl, rfl, k, Nat.le_refl _, by omega, hks, by omega, q3.mp q2⟩⟩
