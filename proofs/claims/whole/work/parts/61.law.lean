theorem iM_0 (p0 : Int32) {c k : Nat} (h : iM p0 c k = 0) : vv (iM p0) c k = 0 := by
  unfold vv
  rw [h, t0]
theorem iM_p (p0 : Int32) : (1 ≤ vv (iM p0) 16 1 ∧ vv (iM p0) 16 1 ≤ 6) ∧ vv (iM p0) 1 0 = vv (iM p0) 16 1 := by
  have e1 : iM p0 1 0 = if (1 : Int32) < (if (6 : Int32) < p0 then (6 : Int32) else p0) then (if (6 : Int32) < p0 then (6 : Int32) else p0) else (1 : Int32) := rfl
  have e2 : iM p0 16 1 = if p0 < 1 then 1 else if (6 : Int32) < p0 then 6 else p0 := rfl
  unfold vv
  rw [e1, e2]
  by_cases h6 : (6 : Int32) < p0
  · have hn : ¬ p0 < 1 := by rw [i_lt, t1]; rw [i_lt, j6] at h6; omega
    rw [if_pos h6, if_pos (show (1 : Int32) < 6 by decide), if_neg hn, j6]
    omega
  · rw [if_neg h6]
    by_cases h1 : p0 < 1
    · have hn : ¬ (1 : Int32) < p0 := by rw [i_lt, t1]; rw [i_lt, t1] at h1; omega
      rw [if_neg hn, if_pos h1, t1]
      omega
    · rw [if_neg h1]
      have h1' := h1
      rw [i_lt, t1] at h1'
      rw [i_lt, j6] at h6
      by_cases h2 : (1 : Int32) < p0
      · rw [if_pos h2]
        omega
      · rw [if_neg h2]
        rw [i_lt, t1] at h2
        rw [t1]
        omega
theorem iM_27 (p0 : Int32) : ∀ i, i < 4 → vv (iM p0) 27 i = -1 := fun i hi => by
  unfold vv
  have e : iM p0 27 i = -1 := by
    rcases (show i = 0 ∨ i = 1 ∨ i = 2 ∨ i = 3 by omega) with rfl | rfl | rfl | rfl <;> rfl
  rw [e]
  decide
theorem iM_20 (p0 : Int32) : ∀ j, j < 6 → vv (iM p0) 17 j = 20 ∧ vv (iM p0) 2 j = 20 := fun j hj => by
  unfold vv
  have e : iM p0 17 j = 20 ∧ iM p0 2 j = 20 := by
    rcases (show j = 0 ∨ j = 1 ∨ j = 2 ∨ j = 3 ∨ j = 4 ∨ j = 5 by omega) with rfl | rfl | rfl | rfl | rfl | rfl <;> exact ⟨rfl, rfl⟩
  rw [e.1, e.2]
  decide
theorem iM_s (p0 : Int32) (k : Nat) : ∀ i, i < 4 → vv (iM p0) (5 + i) k = 0 := fun i hi => by
  rcases (show i = 0 ∨ i = 1 ∨ i = 2 ∨ i = 3 by omega) with rfl | rfl | rfl | rfl <;> exact iM_0 p0 rfl
theorem Inv.start (p0 : Int32) : Inv (iM p0) := by
  have h162 : vv (iM p0) 16 2 = 0 := iM_0 p0 rfl
  have h163 : vv (iM p0) 16 3 = 0 := iM_0 p0 rfl
  have h13 : vv (iM p0) 1 3 = 0 := iM_0 p0 rfl
  have z18 : ∀ k, vv (iM p0) 18 k = 0 := fun k => iM_0 p0 rfl
  have z19 : ∀ k, vv (iM p0) 19 k = 0 := fun k => iM_0 p0 rfl
  have z20 : ∀ k, vv (iM p0) 20 k = 0 := fun k => iM_0 p0 rfl
  have z21 : ∀ k, vv (iM p0) 21 k = 0 := fun k => iM_0 p0 rfl
  have z22 : ∀ k, vv (iM p0) 22 k = 0 := fun k => iM_0 p0 rfl
  have z23 : ∀ k, vv (iM p0) 23 k = 0 := fun k => iM_0 p0 rfl
  have z24 : ∀ k, vv (iM p0) 24 k = 0 := fun k => iM_0 p0 rfl
  have z25 : ∀ k, vv (iM p0) 25 k = 0 := fun k => iM_0 p0 rfl
  have z26 : ∀ k, vv (iM p0) 26 k = 0 := fun k => iM_0 p0 rfl
  have z3 : ∀ k, vv (iM p0) 3 k = 0 := fun k => iM_0 p0 rfl
  refine ⟨⟨iM_p p0, ⟨by omega, ?_⟩, fun j hj => ?_, fun j hj => ?_, ⟨⟨by omega, ?_⟩, fun k hk => ?_, by omega, by omega, fun h hh => ?_⟩, fun i hi => ?_, fun i hi => ?_, fun i hi => Or.inl ⟨iM_s p0 6 i hi, iM_27 p0 i hi⟩, fun i hi => ?_⟩, fun i hi _ => iM_27 p0 i hi, Pn.no (iM_0 p0 rfl) (iM_0 p0 rfl)⟩
  · rw [h162]
    exact iM_0 p0 rfl
  · rw [(iM_20 p0 j hj).1, (iM_20 p0 j hj).2]
    decide
  · rw [z18, z3]
    decide
  · rw [h163]
    exact iM_0 p0 rfl
  · rw [z19, z20]
    decide
  · rw [h13, h163]
    constructor
    · intro q
      rw [show (0 : Int).toNat = 0 from rfl, Nat.zero_testBit] at q
      exact absurd q (by decide)
    · rintro ⟨k, k1, -⟩
      omega
  · rw [z21, z22, z23, z24, z25, iM_s p0 0 i hi, iM_s p0 1 i hi, iM_s p0 2 i hi, iM_s p0 3 i hi, iM_s p0 4 i hi]
    decide
  · rw [z26, iM_s p0 5 i hi]
    decide
  · omega
theorem gdL {a j L : Nat} (h : a + j < L) (hL : L ≤ 3073) {w : Int32} (hw : w = zI (j : Int)) (α : Type) (k : Option α) : gd (zI (a : Int) + w) L k = k := by
  rw [hw, z_add]
  exact gd_in k (by rw [z_t (by omega) (by omega)]; omega) (by rw [z_t (by omega) (by omega)]; omega)
theorem z_6 (a : Nat) : zI (a : Int) + 6 = zI ((a + 6 : Nat) : Int) := by
  rw [i6, z_add]
  rfl
theorem c_128 (N L : Nat) (hN : 200000000 ≤ N) (hL : L ≤ 3073) (xs : Nat → Int32) (k33 : Int32 → Mem → Int64 → Option (Int32 × Mem)) {a : Nat} (ha : a + 5 < L) {M : Mem} (hI : Inv M) (ov : Int64) : ∃ (M2 : Mem) (o2 : Int64), fL_128 N L xs k33 (zI a) M ov = k33 (zI a + 6) M2 o2 ∧ Inv M2 := by
  have g1 := gdL (a := a) (j := 1) (by omega) hL (w := 1) (by decide)
  have g2 := gdL (a := a) (j := 2) (by omega) hL (w := 2) (by decide)
  have g3 := gdL (a := a) (j := 3) (by omega) hL (w := 3) (by decide)
  have g4 := gdL (a := a) (j := 4) (by omega) hL (w := 4) (by decide)
  have g5 := gdL (a := a) (j := 5) (by omega) hL (w := 5) (by decide)
  obtain ⟨q, r, M1, r', M2, e1, hq, e2, h0, hr, h2⟩ := s_ship N hI (xs (zI (a : Int) + 1).toNatClampNeg) (xs (zI (a : Int) + 2).toNatClampNeg) (xs (zI (a : Int) + 3).toNatClampNeg) (xs (zI (a : Int) + 4).toNatClampNeg) (xs (zI (a : Int) + 5).toNatClampNeg)
  have et : fX4_thrown N M2 = some (M2 16 0, M2) := rfl
  unfold fL_128
  simp only [g1, g2, g3, g4, g5]
  rw [bd_e _ e1]
  dsimp only
  rw [gp_t _ hq, lq_e, lq_e, bd_e _ e2, bd_e _ et, if_pos h0]
  rcases hq with rfl | rfl | rfl
  · rw [if_pos (show (0 : Nat) = 0 from rfl), if_pos (show hcL_ship 0 = 0 from rfl), hr rfl, if_pos (lg_r _), lq_e]
    exact ⟨M2, _, rfl, h2⟩
  · rw [if_neg (show ¬ hcL_ship 1 = 0 by decide), lq_e]
    exact ⟨M2, _, rfl, h2⟩
  · rw [if_neg (show ¬ hcL_ship 2 = 0 by decide), lq_e]
    exact ⟨M2, _, rfl, h2⟩
theorem c_232 (N L : Nat) (hN : 200000000 ≤ N) (hL : L ≤ 3073) (xs : Nat → Int32) (k33 : Int32 → Mem → Int64 → Option (Int32 × Mem)) {a : Nat} (ha : a + 5 < L) {M : Mem} (hI : Inv M) (ov : Int64) : ∃ (M2 : Mem) (o2 : Int64), fL_232 N L xs k33 (zI a) M ov = k33 (zI a + 6) M2 o2 ∧ Inv M2 := by
  have g1 := gdL (a := a) (j := 1) (by omega) hL (w := 1) (by decide)
  have g2 := gdL (a := a) (j := 2) (by omega) hL (w := 2) (by decide)
  have g3 := gdL (a := a) (j := 3) (by omega) hL (w := 3) (by decide)
  have g4 := gdL (a := a) (j := 4) (by omega) hL (w := 4) (by decide)
  have g5 := gdL (a := a) (j := 5) (by omega) hL (w := 5) (by decide)
  obtain ⟨r, M1, M2, e1, e2, h2⟩ := s_depth N (by omega) hI (xs (zI (a : Int) + 1).toNatClampNeg) (xs (zI (a : Int) + 2).toNatClampNeg) (xs (zI (a : Int) + 3).toNatClampNeg)
  refine ⟨M2, ov, ?_, h2⟩
  unfold fL_232
  simp only [g1, g2, g3, g4, g5]
  rw [bd_e _ e1, bd_e _ e2, if_pos rfl, lq_e]
theorem c_281 (N L : Nat) (hN : 200000000 ≤ N) (hL : L ≤ 3073) (xs : Nat → Int32) (k33 : Int32 → Mem → Int64 → Option (Int32 × Mem)) {a : Nat} (ha : a + 5 < L) {M : Mem} (hI : Inv M) (ov : Int64) : ∃ (M2 : Mem) (o2 : Int64), fL_281 N L xs k33 (zI a) M ov = k33 (zI a + 6) M2 o2 ∧ Inv M2 := by
  have g1 := gdL (a := a) (j := 1) (by omega) hL (w := 1) (by decide)
  have g2 := gdL (a := a) (j := 2) (by omega) hL (w := 2) (by decide)
  have g3 := gdL (a := a) (j := 3) (by omega) hL (w := 3) (by decide)
  have g4 := gdL (a := a) (j := 4) (by omega) hL (w := 4) (by decide)
  have g5 := gdL (a := a) (j := 5) (by omega) hL (w := 5) (by decide)
  by_cases h : (xs (zI (a : Int) + 3).toNatClampNeg) = 0
  · obtain ⟨r, M1, M2, e1, e2, h2⟩ := s_gear N hI (xs (zI (a : Int) + 1).toNatClampNeg) (xs (zI (a : Int) + 2).toNatClampNeg) 0 (Or.inl rfl)
    refine ⟨M2, ov, ?_, h2⟩
    unfold fL_281
    simp only [g1, g2, g3, if_pos h]
    rw [bd_e _ e1, bd_e _ e2, if_pos rfl, lq_e]
  · obtain ⟨r, M1, M2, e1, e2, h2⟩ := s_gear N hI (xs (zI (a : Int) + 1).toNatClampNeg) (xs (zI (a : Int) + 2).toNatClampNeg) 1 (Or.inr rfl)
    refine ⟨M2, ov, ?_, h2⟩
    unfold fL_281
    simp only [g1, g2, g3, if_neg h]
    rw [bd_e _ e1, bd_e _ e2, if_pos rfl, lq_e]
theorem c_346 (N L : Nat) (hN : 200000000 ≤ N) (hL : L ≤ 3073) (xs : Nat → Int32) (k33 : Int32 → Mem → Int64 → Option (Int32 × Mem)) {a : Nat} (ha : a + 5 < L) {M : Mem} (hI : Inv M) (ov : Int64) : ∃ (M2 : Mem) (o2 : Int64), fL_346 N L xs k33 (zI a) M ov = k33 (zI a + 6) M2 o2 ∧ Inv M2 := by
  have g1 := gdL (a := a) (j := 1) (by omega) hL (w := 1) (by decide)
  have g2 := gdL (a := a) (j := 2) (by omega) hL (w := 2) (by decide)
  have g3 := gdL (a := a) (j := 3) (by omega) hL (w := 3) (by decide)
  have g4 := gdL (a := a) (j := 4) (by omega) hL (w := 4) (by decide)
  have g5 := gdL (a := a) (j := 5) (by omega) hL (w := 5) (by decide)
  by_cases h : (xs (zI (a : Int) + 3).toNatClampNeg) = 0
  · obtain ⟨r, M1, M2, e1, e2, h2⟩ := s_wants N hI (xs (zI (a : Int) + 1).toNatClampNeg) (xs (zI (a : Int) + 2).toNatClampNeg) 0 (Or.inl rfl)
    refine ⟨M2, ov, ?_, h2⟩
    unfold fL_346
    simp only [g1, g2, g3, if_pos h]
    rw [bd_e _ e1, bd_e _ e2, if_pos rfl, lq_e]
  · obtain ⟨r, M1, M2, e1, e2, h2⟩ := s_wants N hI (xs (zI (a : Int) + 1).toNatClampNeg) (xs (zI (a : Int) + 2).toNatClampNeg) 1 (Or.inr rfl)
    refine ⟨M2, ov, ?_, h2⟩
    unfold fL_346
    simp only [g1, g2, g3, if_neg h]
    rw [bd_e _ e1, bd_e _ e2, if_pos rfl, lq_e]
theorem c_411 (N L : Nat) (hN : 200000000 ≤ N) (hL : L ≤ 3073) (xs : Nat → Int32) (k33 : Int32 → Mem → Int64 → Option (Int32 × Mem)) {a : Nat} (ha : a + 5 < L) {M : Mem} (hI : Inv M) (ov : Int64) : ∃ (M2 : Mem) (o2 : Int64), fL_411 N L xs k33 (zI a) M ov = k33 (zI a + 6) M2 o2 ∧ Inv M2 := by
  have g1 := gdL (a := a) (j := 1) (by omega) hL (w := 1) (by decide)
  have g2 := gdL (a := a) (j := 2) (by omega) hL (w := 2) (by decide)
  have g3 := gdL (a := a) (j := 3) (by omega) hL (w := 3) (by decide)
  have g4 := gdL (a := a) (j := 4) (by omega) hL (w := 4) (by decide)
  have g5 := gdL (a := a) (j := 5) (by omega) hL (w := 5) (by decide)
  obtain ⟨r, M1, M2, e1, e2, h2⟩ := s_tide N hI (xs (zI (a : Int) + 1).toNatClampNeg) (xs (zI (a : Int) + 2).toNatClampNeg)
  refine ⟨M2, ov, ?_, h2⟩
  unfold fL_411
  simp only [g1, g2, g3, g4, g5]
  rw [bd_e _ e1, bd_e _ e2, if_pos rfl, lq_e]
theorem c_448 (N L : Nat) (hN : 200000000 ≤ N) (hL : L ≤ 3073) (xs : Nat → Int32) (k33 : Int32 → Mem → Int64 → Option (Int32 × Mem)) {a : Nat} (ha : a + 5 < L) {M : Mem} (hI : Inv M) (ov : Int64) : ∃ (M2 : Mem) (o2 : Int64), fL_448 N L xs k33 (zI a) M ov = k33 (zI a + 6) M2 o2 ∧ Inv M2 := by
  have g1 := gdL (a := a) (j := 1) (by omega) hL (w := 1) (by decide)
  have g2 := gdL (a := a) (j := 2) (by omega) hL (w := 2) (by decide)
  have g3 := gdL (a := a) (j := 3) (by omega) hL (w := 3) (by decide)
  have g4 := gdL (a := a) (j := 4) (by omega) hL (w := 4) (by decide)
  have g5 := gdL (a := a) (j := 5) (by omega) hL (w := 5) (by decide)
  obtain ⟨r, M1, M2, e1, e2, h2⟩ := s_fix N (by omega) hI (xs (zI (a : Int) + 1).toNatClampNeg) (xs (zI (a : Int) + 2).toNatClampNeg) (xs (zI (a : Int) + 3).toNatClampNeg)
  refine ⟨M2, ov, ?_, h2⟩
  unfold fL_448
  simp only [g1, g2, g3, g4, g5]
  rw [bd_e _ e1, bd_e _ e2, if_pos rfl, lq_e]
theorem c_497 (N L : Nat) (hN : 200000000 ≤ N) (hL : L ≤ 3073) (xs : Nat → Int32) (k33 : Int32 → Mem → Int64 → Option (Int32 × Mem)) {a : Nat} (ha : a + 5 < L) {M : Mem} (hI : Inv M) (ov : Int64) : ∃ (M2 : Mem) (o2 : Int64), fL_497 N L xs k33 (zI a) M ov = k33 (zI a + 6) M2 o2 ∧ Inv M2 := by
  have g1 := gdL (a := a) (j := 1) (by omega) hL (w := 1) (by decide)
  have g2 := gdL (a := a) (j := 2) (by omega) hL (w := 2) (by decide)
  have g3 := gdL (a := a) (j := 3) (by omega) hL (w := 3) (by decide)
  have g4 := gdL (a := a) (j := 4) (by omega) hL (w := 4) (by decide)
  have g5 := gdL (a := a) (j := 5) (by omega) hL (w := 5) (by decide)
  obtain ⟨r, M1, M2, e1, e2, h2⟩ := s_free N hI (xs (zI (a : Int) + 1).toNatClampNeg)
  refine ⟨M2, ov, ?_, h2⟩
  unfold fL_497
  simp only [g1, g2, g3, g4, g5]
  rw [bd_e _ e1, bd_e _ e2, if_pos rfl, lq_e]
theorem c_522 (N L : Nat) (hN : 200000000 ≤ N) (hL : L ≤ 3073) (xs : Nat → Int32) (k33 : Int32 → Mem → Int64 → Option (Int32 × Mem)) {a : Nat} (ha : a + 5 < L) {M : Mem} (hI : Inv M) (ov : Int64) : ∃ (M2 : Mem) (o2 : Int64), fL_522 N L xs k33 (zI a) M ov = k33 (zI a + 6) M2 o2 ∧ Inv M2 := by
  have g1 := gdL (a := a) (j := 1) (by omega) hL (w := 1) (by decide)
  have g2 := gdL (a := a) (j := 2) (by omega) hL (w := 2) (by decide)
  have g3 := gdL (a := a) (j := 3) (by omega) hL (w := 3) (by decide)
  have g4 := gdL (a := a) (j := 4) (by omega) hL (w := 4) (by decide)
  have g5 := gdL (a := a) (j := 5) (by omega) hL (w := 5) (by decide)
  obtain ⟨r, M1, M2, e1, e2, h2⟩ := s_solve N hN hI
  refine ⟨M2, ov, ?_, h2⟩
  unfold fL_522
  rw [bd_e _ e1, bd_e _ e2, if_pos rfl, lq_e]
theorem c_535 (N L : Nat) (hN : 200000000 ≤ N) (hL : L ≤ 3073) (xs : Nat → Int32) (k33 : Int32 → Mem → Int64 → Option (Int32 × Mem)) {a : Nat} (ha : a + 5 < L) {M : Mem} (hI : Inv M) (ov : Int64) : ∃ (M2 : Mem) (o2 : Int64), fL_535 N L xs k33 (zI a) M ov = k33 (zI a + 6) M2 o2 ∧ Inv M2 := by
  have g1 := gdL (a := a) (j := 1) (by omega) hL (w := 1) (by decide)
  have g2 := gdL (a := a) (j := 2) (by omega) hL (w := 2) (by decide)
  have g3 := gdL (a := a) (j := 3) (by omega) hL (w := 3) (by decide)
  have g4 := gdL (a := a) (j := 4) (by omega) hL (w := 4) (by decide)
  have g5 := gdL (a := a) (j := 5) (by omega) hL (w := 5) (by decide)
  obtain ⟨q, r, M1, r', M2, e1, hq, e2, h0, hr, h2⟩ := s_at N hI (xs (zI (a : Int) + 1).toNatClampNeg) (xs (zI (a : Int) + 2).toNatClampNeg)
  have et : fX4_thrown N M2 = some (M2 16 0, M2) := rfl
  unfold fL_535
  simp only [g1, g2, g3, g4, g5]
  rw [bd_e _ e1]
  dsimp only
  rw [gp_t _ hq, lq_e, lq_e, bd_e _ e2, bd_e _ et, if_pos h0]
  rcases hq with rfl | rfl | rfl
  · rw [if_pos (show (0 : Nat) = 0 from rfl), if_pos (show hcL_at 0 = 0 from rfl), hr rfl, if_pos (lg_r _), lq_e]
    exact ⟨M2, _, rfl, h2⟩
  · rw [if_neg (show ¬ hcL_at 3 = 0 by decide), lq_e]
    exact ⟨M2, _, rfl, h2⟩
  · rw [if_neg (show ¬ hcL_at 2 = 0 by decide), lq_e]
    exact ⟨M2, _, rfl, h2⟩
theorem c_603 (N L : Nat) (hN : 200000000 ≤ N) (hL : L ≤ 3073) (xs : Nat → Int32) (k33 : Int32 → Mem → Int64 → Option (Int32 × Mem)) {a : Nat} (ha : a + 5 < L) {M : Mem} (hI : Inv M) (ov : Int64) : ∃ (M2 : Mem) (o2 : Int64), fL_603 N L xs k33 (zI a) M ov = k33 (zI a + 6) M2 o2 ∧ Inv M2 := by
  have g1 := gdL (a := a) (j := 1) (by omega) hL (w := 1) (by decide)
  have g2 := gdL (a := a) (j := 2) (by omega) hL (w := 2) (by decide)
  have g3 := gdL (a := a) (j := 3) (by omega) hL (w := 3) (by decide)
  have g4 := gdL (a := a) (j := 4) (by omega) hL (w := 4) (by decide)
  have g5 := gdL (a := a) (j := 5) (by omega) hL (w := 5) (by decide)
  obtain ⟨q, r, M1, r', M2, e1, hq, e2, h0, hr, h2⟩ := s_lateness N (by omega) hI
  have et : fX4_thrown N M2 = some (M2 16 0, M2) := rfl
  unfold fL_603
  rw [bd_e _ e1]
  dsimp only
  rw [gp_t _ hq, lq_e, lq_e, bd_e _ e2, bd_e _ et, if_pos h0]
  rcases hq with rfl | rfl
  · rw [if_pos (show (0 : Nat) = 0 from rfl), if_pos (show hcL_lateness 0 = 0 from rfl), hr rfl, if_pos (lg_r _), lq_e]
    exact ⟨M2, _, rfl, h2⟩
  · rw [if_neg (show ¬ hcL_lateness 2 = 0 by decide), lq_e]
    exact ⟨M2, _, rfl, h2⟩
theorem c_647 (N L : Nat) (hN : 200000000 ≤ N) (hL : L ≤ 3073) (xs : Nat → Int32) (k33 : Int32 → Mem → Int64 → Option (Int32 × Mem)) {a : Nat} (ha : a + 5 < L) {M : Mem} (hI : Inv M) (ov : Int64) : ∃ (M2 : Mem) (o2 : Int64), fL_647 N L xs k33 (zI a) M ov = k33 (zI a + 6) M2 o2 ∧ Inv M2 := by
  have g1 := gdL (a := a) (j := 1) (by omega) hL (w := 1) (by decide)
  have g2 := gdL (a := a) (j := 2) (by omega) hL (w := 2) (by decide)
  have g3 := gdL (a := a) (j := 3) (by omega) hL (w := 3) (by decide)
  have g4 := gdL (a := a) (j := 4) (by omega) hL (w := 4) (by decide)
  have g5 := gdL (a := a) (j := 5) (by omega) hL (w := 5) (by decide)
  obtain ⟨r, M1, M2, e1, e2, h2⟩ := s_bound N (by omega) hI
  refine ⟨M2, ov, ?_, h2⟩
  unfold fL_647
  rw [bd_e _ e1, bd_e _ e2, if_pos rfl, lq_e]
theorem c_660 (N L : Nat) (hN : 200000000 ≤ N) (hL : L ≤ 3073) (xs : Nat → Int32) (k33 : Int32 → Mem → Int64 → Option (Int32 × Mem)) {a : Nat} (ha : a + 5 < L) {M : Mem} (hI : Inv M) (ov : Int64) : ∃ (M2 : Mem) (o2 : Int64), fL_660 N L xs k33 (zI a) M ov = k33 (zI a + 6) M2 o2 ∧ Inv M2 := by
  have g1 := gdL (a := a) (j := 1) (by omega) hL (w := 1) (by decide)
  have g2 := gdL (a := a) (j := 2) (by omega) hL (w := 2) (by decide)
  have g3 := gdL (a := a) (j := 3) (by omega) hL (w := 3) (by decide)
  have g4 := gdL (a := a) (j := 4) (by omega) hL (w := 4) (by decide)
  have g5 := gdL (a := a) (j := 5) (by omega) hL (w := 5) (by decide)
  obtain ⟨q, r, M1, r', M2, e1, hq, e2, h0, hr, h2⟩ := s_why N (by omega) hI (xs (zI (a : Int) + 1).toNatClampNeg)
  have et : fX4_thrown N M2 = some (M2 16 0, M2) := rfl
  unfold fL_660
  simp only [g1, g2, g3, g4, g5]
  rw [bd_e _ e1]
  dsimp only
  rw [gp_t _ hq, lq_e, lq_e, bd_e _ e2, bd_e _ et, if_pos h0]
  rcases hq with rfl | rfl
  · rw [if_pos (show (0 : Nat) = 0 from rfl), if_pos (show hcL_why 0 = 0 from rfl), hr rfl, if_pos (lg_r _), lq_e]
    exact ⟨M2, _, rfl, h2⟩
  · rw [if_neg (show ¬ hcL_why 3 = 0 by decide), lq_e]
    exact ⟨M2, _, rfl, h2⟩
theorem c_716 (N L : Nat) (hN : 200000000 ≤ N) (hL : L ≤ 3073) (xs : Nat → Int32) (k33 : Int32 → Mem → Int64 → Option (Int32 × Mem)) {a : Nat} (ha : a + 5 < L) {M : Mem} (hI : Inv M) (ov : Int64) : ∃ (M2 : Mem) (o2 : Int64), fL_716 N L xs k33 (zI a) M ov = k33 (zI a + 6) M2 o2 ∧ Inv M2 := by
  have g1 := gdL (a := a) (j := 1) (by omega) hL (w := 1) (by decide)
  have g2 := gdL (a := a) (j := 2) (by omega) hL (w := 2) (by decide)
  have g3 := gdL (a := a) (j := 3) (by omega) hL (w := 3) (by decide)
  have g4 := gdL (a := a) (j := 4) (by omega) hL (w := 4) (by decide)
  have g5 := gdL (a := a) (j := 5) (by omega) hL (w := 5) (by decide)
  obtain ⟨q, r, M1, r', M2, e1, hq, e2, h0, hr, h2⟩ := s_change N hN hI (xs (zI (a : Int) + 1).toNatClampNeg) (xs (zI (a : Int) + 2).toNatClampNeg)
  have et : fX4_thrown N M2 = some (M2 16 0, M2) := rfl
  unfold fL_716
  simp only [g1, g2, g3, g4, g5]
  rw [bd_e _ e1]
  dsimp only
  rw [gp_t _ hq, lq_e, lq_e, bd_e _ e2, bd_e _ et, if_pos h0]
  rcases hq with rfl | rfl | rfl | rfl
  · rw [if_pos (show (0 : Nat) = 0 from rfl), if_pos (show hcL_change 0 = 0 from rfl), hr rfl, if_pos (lg_r _), lq_e]
    exact ⟨M2, _, rfl, h2⟩
  · rw [if_neg (show ¬ hcL_change 3 = 0 by decide), lq_e]
    exact ⟨M2, _, rfl, h2⟩
  · rw [if_neg (show ¬ hcL_change 1 = 0 by decide), lq_e]
    exact ⟨M2, _, rfl, h2⟩
  · rw [if_neg (show ¬ hcL_change 2 = 0 by decide), lq_e]
    exact ⟨M2, _, rfl, h2⟩
theorem c_784 (N L : Nat) (hN : 200000000 ≤ N) (hL : L ≤ 3073) (xs : Nat → Int32) (k33 : Int32 → Mem → Int64 → Option (Int32 × Mem)) {a : Nat} (ha : a + 5 < L) {M : Mem} (hI : Inv M) (ov : Int64) : ∃ (M2 : Mem) (o2 : Int64), fL_784 N L xs k33 (zI a) M ov = k33 (zI a + 6) M2 o2 ∧ Inv M2 := by
  have g1 := gdL (a := a) (j := 1) (by omega) hL (w := 1) (by decide)
  have g2 := gdL (a := a) (j := 2) (by omega) hL (w := 2) (by decide)
  have g3 := gdL (a := a) (j := 3) (by omega) hL (w := 3) (by decide)
  have g4 := gdL (a := a) (j := 4) (by omega) hL (w := 4) (by decide)
  have g5 := gdL (a := a) (j := 5) (by omega) hL (w := 5) (by decide)
  obtain ⟨q, r, M1, r', M2, e1, hq, e2, h0, hr, h2⟩ := s_lies N (by omega) hI (xs (zI (a : Int) + 1).toNatClampNeg) (xs (zI (a : Int) + 2).toNatClampNeg)
  have et : fX4_thrown N M2 = some (M2 16 0, M2) := rfl
  unfold fL_784
  simp only [g1, g2, g3, g4, g5]
  rw [bd_e _ e1]
  dsimp only
  rw [gp_t _ hq, lq_e, lq_e, bd_e _ e2, bd_e _ et, if_pos h0]
  rcases hq with rfl | rfl
  · rw [if_pos (show (0 : Nat) = 0 from rfl), if_pos (show hcL_lies 0 = 0 from rfl), hr rfl, if_pos (lg_r _), lq_e]
    exact ⟨M2, _, rfl, h2⟩
  · rw [if_neg (show ¬ hcL_lies 2 = 0 by decide), lq_e]
    exact ⟨M2, _, rfl, h2⟩
theorem c_852 (N L : Nat) (hN : 200000000 ≤ N) (hL : L ≤ 3073) (xs : Nat → Int32) (k33 : Int32 → Mem → Int64 → Option (Int32 × Mem)) {a : Nat} (ha : a + 5 < L) {M : Mem} (hI : Inv M) (ov : Int64) : ∃ (M2 : Mem) (o2 : Int64), fL_852 N L xs k33 (zI a) M ov = k33 (zI a + 6) M2 o2 ∧ Inv M2 := by
  have g1 := gdL (a := a) (j := 1) (by omega) hL (w := 1) (by decide)
  have g2 := gdL (a := a) (j := 2) (by omega) hL (w := 2) (by decide)
  have g3 := gdL (a := a) (j := 3) (by omega) hL (w := 3) (by decide)
  have g4 := gdL (a := a) (j := 4) (by omega) hL (w := 4) (by decide)
  have g5 := gdL (a := a) (j := 5) (by omega) hL (w := 5) (by decide)
  obtain ⟨q, r, M1, r', M2, e1, hq, e2, h0, hr, h2⟩ := s_share N (by omega) hI (xs (zI (a : Int) + 1).toNatClampNeg) (xs (zI (a : Int) + 2).toNatClampNeg) (xs (zI (a : Int) + 3).toNatClampNeg)
  have et : fX4_thrown N M2 = some (M2 16 0, M2) := rfl
  unfold fL_852
  simp only [g1, g2, g3, g4, g5]
  rw [bd_e _ e1]
  dsimp only
  rw [gp_t _ hq, lq_e, lq_e, bd_e _ e2, bd_e _ et, if_pos h0]
  rcases hq with rfl | rfl | rfl
  · rw [if_pos (show (0 : Nat) = 0 from rfl), if_pos (show hcL_share 0 = 0 from rfl), hr rfl, if_pos (lg_r _), lq_e]
    exact ⟨M2, _, rfl, h2⟩
  · rw [if_neg (show ¬ hcL_share 1 = 0 by decide), lq_e]
    exact ⟨M2, _, rfl, h2⟩
  · rw [if_neg (show ¬ hcL_share 4 = 0 by decide), lq_e]
    exact ⟨M2, _, rfl, h2⟩
theorem c_931 (N L : Nat) (hN : 200000000 ≤ N) (hL : L ≤ 3073) (xs : Nat → Int32) (k33 : Int32 → Mem → Int64 → Option (Int32 × Mem)) {a : Nat} (ha : a + 5 < L) {M : Mem} (hI : Inv M) (ov : Int64) : ∃ (M2 : Mem) (o2 : Int64), fL_931 N L xs k33 (zI a) M ov = k33 (zI a + 6) M2 o2 ∧ Inv M2 := by
  have g1 := gdL (a := a) (j := 1) (by omega) hL (w := 1) (by decide)
  have g2 := gdL (a := a) (j := 2) (by omega) hL (w := 2) (by decide)
  have g3 := gdL (a := a) (j := 3) (by omega) hL (w := 3) (by decide)
  have g4 := gdL (a := a) (j := 4) (by omega) hL (w := 4) (by decide)
  have g5 := gdL (a := a) (j := 5) (by omega) hL (w := 5) (by decide)
  obtain ⟨r, M1, M2, e1, e2, h2⟩ := s_count N (by omega) hI (xs (zI (a : Int) + 1).toNatClampNeg)
  refine ⟨M2, ov, ?_, h2⟩
  unfold fL_931
  simp only [g1, g2, g3, g4, g5]
  rw [bd_e _ e1, bd_e _ e2, if_pos rfl, lq_e]
theorem law_loop (N L : Nat) (hN : 200000000 ≤ N) (hL : L ≤ 3073) (xs : Nat → Int32) : ∀ (n1 a : Nat) (M : Mem) (ov : Int64), L + 1 < a + 6 * n1 → a ≤ L + 1 → Inv M → ∃ M9, fL_33 N L xs n1 (zI a) M ov = some (1, M9) := by
  intro n1
  induction n1 with
  | zero =>
    intro a M ov h1 h2 hI
    omega
  | succ n1 ih =>
    intro a M ov h1 h2 hI
    have eL : Int32.ofNat L - 6 = zI ((L : Int) - 6) := by
      rw [i6, show Int32.ofNat L = zI (L : Int) from (z_n L).symm, z_sub]
    rw [fL_33_s, eL]
    by_cases h : (L : Int) - 6 < a
    · rw [if_pos ((z_lt (by omega) (by omega) (by omega) (by omega)).mpr h)]
      exact ⟨M, rfl⟩
    · rw [if_neg (fun q => h ((z_lt (by omega) (by omega) (by omega) (by omega)).mp q)), gd_in _ (by rw [z_t (by omega) (by omega)]; omega) (by rw [z_t (by omega) (by omega)]; omega), lq_e]
      obtain ⟨j, hj, ej⟩ := sw_and (xs (zI (a : Int)).toNatClampNeg)
      rcases (show j = 0 ∨ j = 1 ∨ j = 2 ∨ j = 3 ∨ j = 4 ∨ j = 5 ∨ j = 6 ∨ j = 7 ∨ j = 8 ∨ j = 9 ∨ j = 10 ∨ j = 11 ∨ j = 12 ∨ j = 13 ∨ j = 14 ∨ j = 15 by omega) with rfl | rfl | rfl | rfl | rfl | rfl | rfl | rfl | rfl | rfl | rfl | rfl | rfl | rfl | rfl | rfl
      · rw [ej, if_pos (by decide)]
        obtain ⟨M2, o2, e, h2⟩ := c_128 N L hN hL xs (fL_33 N L xs n1) (a := a) (by omega) hI ov
        rw [e, z_6]
        exact ih (a + 6) M2 o2 (by omega) (by omega) h2
      · rw [ej, if_neg (by decide), if_pos (by decide)]
        obtain ⟨M2, o2, e, h2⟩ := c_232 N L hN hL xs (fL_33 N L xs n1) (a := a) (by omega) hI ov
        rw [e, z_6]
        exact ih (a + 6) M2 o2 (by omega) (by omega) h2
      · rw [ej, if_neg (by decide), if_neg (by decide), if_pos (by decide)]
        obtain ⟨M2, o2, e, h2⟩ := c_281 N L hN hL xs (fL_33 N L xs n1) (a := a) (by omega) hI ov
        rw [e, z_6]
        exact ih (a + 6) M2 o2 (by omega) (by omega) h2
      · rw [ej, if_neg (by decide), if_neg (by decide), if_neg (by decide), if_pos (by decide)]
        obtain ⟨M2, o2, e, h2⟩ := c_346 N L hN hL xs (fL_33 N L xs n1) (a := a) (by omega) hI ov
        rw [e, z_6]
        exact ih (a + 6) M2 o2 (by omega) (by omega) h2
      · rw [ej, if_neg (by decide), if_neg (by decide), if_neg (by decide), if_neg (by decide), if_pos (by decide)]
        obtain ⟨M2, o2, e, h2⟩ := c_411 N L hN hL xs (fL_33 N L xs n1) (a := a) (by omega) hI ov
        rw [e, z_6]
        exact ih (a + 6) M2 o2 (by omega) (by omega) h2
      · rw [ej, if_neg (by decide), if_neg (by decide), if_neg (by decide), if_neg (by decide), if_neg (by decide), if_pos (by decide)]
        obtain ⟨M2, o2, e, h2⟩ := c_448 N L hN hL xs (fL_33 N L xs n1) (a := a) (by omega) hI ov
        rw [e, z_6]
        exact ih (a + 6) M2 o2 (by omega) (by omega) h2
      · rw [ej, if_neg (by decide), if_neg (by decide), if_neg (by decide), if_neg (by decide), if_neg (by decide), if_neg (by decide), if_pos (by decide)]
        obtain ⟨M2, o2, e, h2⟩ := c_497 N L hN hL xs (fL_33 N L xs n1) (a := a) (by omega) hI ov
        rw [e, z_6]
        exact ih (a + 6) M2 o2 (by omega) (by omega) h2
      · rw [ej, if_neg (by decide), if_neg (by decide), if_neg (by decide), if_neg (by decide), if_neg (by decide), if_neg (by decide), if_neg (by decide), if_pos (by decide)]
        obtain ⟨M2, o2, e, h2⟩ := c_522 N L hN hL xs (fL_33 N L xs n1) (a := a) (by omega) hI ov
        rw [e, z_6]
        exact ih (a + 6) M2 o2 (by omega) (by omega) h2
      · rw [ej, if_neg (by decide), if_neg (by decide), if_neg (by decide), if_neg (by decide), if_neg (by decide), if_neg (by decide), if_neg (by decide), if_neg (by decide), if_pos (by decide)]
        obtain ⟨M2, o2, e, h2⟩ := c_535 N L hN hL xs (fL_33 N L xs n1) (a := a) (by omega) hI ov
        rw [e, z_6]
        exact ih (a + 6) M2 o2 (by omega) (by omega) h2
      · rw [ej, if_neg (by decide), if_neg (by decide), if_neg (by decide), if_neg (by decide), if_neg (by decide), if_neg (by decide), if_neg (by decide), if_neg (by decide), if_neg (by decide), if_pos (by decide)]
        obtain ⟨M2, o2, e, h2⟩ := c_603 N L hN hL xs (fL_33 N L xs n1) (a := a) (by omega) hI ov
        rw [e, z_6]
        exact ih (a + 6) M2 o2 (by omega) (by omega) h2
      · rw [ej, if_neg (by decide), if_neg (by decide), if_neg (by decide), if_neg (by decide), if_neg (by decide), if_neg (by decide), if_neg (by decide), if_neg (by decide), if_neg (by decide), if_neg (by decide), if_pos (by decide)]
        obtain ⟨M2, o2, e, h2⟩ := c_647 N L hN hL xs (fL_33 N L xs n1) (a := a) (by omega) hI ov
        rw [e, z_6]
        exact ih (a + 6) M2 o2 (by omega) (by omega) h2
      · rw [ej, if_neg (by decide), if_neg (by decide), if_neg (by decide), if_neg (by decide), if_neg (by decide), if_neg (by decide), if_neg (by decide), if_neg (by decide), if_neg (by decide), if_neg (by decide), if_neg (by decide), if_pos (by decide)]
        obtain ⟨M2, o2, e, h2⟩ := c_660 N L hN hL xs (fL_33 N L xs n1) (a := a) (by omega) hI ov
        rw [e, z_6]
        exact ih (a + 6) M2 o2 (by omega) (by omega) h2
      · rw [ej, if_neg (by decide), if_neg (by decide), if_neg (by decide), if_neg (by decide), if_neg (by decide), if_neg (by decide), if_neg (by decide), if_neg (by decide), if_neg (by decide), if_neg (by decide), if_neg (by decide), if_neg (by decide), if_pos (by decide)]
        obtain ⟨M2, o2, e, h2⟩ := c_716 N L hN hL xs (fL_33 N L xs n1) (a := a) (by omega) hI ov
        rw [e, z_6]
        exact ih (a + 6) M2 o2 (by omega) (by omega) h2
      · rw [ej, if_neg (by decide), if_neg (by decide), if_neg (by decide), if_neg (by decide), if_neg (by decide), if_neg (by decide), if_neg (by decide), if_neg (by decide), if_neg (by decide), if_neg (by decide), if_neg (by decide), if_neg (by decide), if_neg (by decide), if_pos (by decide)]
        obtain ⟨M2, o2, e, h2⟩ := c_784 N L hN hL xs (fL_33 N L xs n1) (a := a) (by omega) hI ov
        rw [e, z_6]
        exact ih (a + 6) M2 o2 (by omega) (by omega) h2
      · rw [ej, if_neg (by decide), if_neg (by decide), if_neg (by decide), if_neg (by decide), if_neg (by decide), if_neg (by decide), if_neg (by decide), if_neg (by decide), if_neg (by decide), if_neg (by decide), if_neg (by decide), if_neg (by decide), if_neg (by decide), if_neg (by decide), if_pos (by decide)]
        obtain ⟨M2, o2, e, h2⟩ := c_852 N L hN hL xs (fL_33 N L xs n1) (a := a) (by omega) hI ov
        rw [e, z_6]
        exact ih (a + 6) M2 o2 (by omega) (by omega) h2
      · rw [ej, if_neg (by decide), if_neg (by decide), if_neg (by decide), if_neg (by decide), if_neg (by decide), if_neg (by decide), if_neg (by decide), if_neg (by decide), if_neg (by decide), if_neg (by decide), if_neg (by decide), if_neg (by decide), if_neg (by decide), if_neg (by decide), if_neg (by decide), if_pos (by decide)]
        obtain ⟨M2, o2, e, h2⟩ := c_931 N L hN hL xs (fL_33 N L xs n1) (a := a) (by omega) hI ov
        rw [e, z_6]
        exact ih (a + 6) M2 o2 (by omega) (by omega) h2
theorem law_pure (L : Nat) (xs : Nat → Int32) (hL : L ≤ 3073) : ∃ (N : Nat) (M9 : Mem), fL_33 N L xs 600 1 (iM (pc0 L xs)) 0 = some (1, M9) := by
  obtain ⟨M9, h⟩ := law_loop 200000000 L (Nat.le_refl _) hL xs 600 1 (iM (pc0 L xs)) 0 (by omega) (by omega) (Inv.start _)
  exact ⟨200000000, M9, h⟩
