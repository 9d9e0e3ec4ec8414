theorem vq {M : Mem} {c k c' k' : Nat} (h : vv M c k = vv M c' k') : M c k = M c' k' := by rw [vv_z M c k, h, ← vv_z]
theorem Pn.get {M : Mem} (h : Pn M) (h3 : ¬ vv M 16 4 = 0) : M 0 4 = 1 ∧ M 16 4 = 1 ∧ ∃ g : Nat → Nat, ∀ i : Nat, (i : Int) < vv M 16 2 → g i < 96 ∧ M 28 i = zI (g i) ∧ M (5 + i) 9 = zI ((g i % 6 : Nat) : Int) ∧ M (5 + i) 10 = zI ((g i / 6 : Nat) : Int) ∧ ∀ j : Nat, (j : Int) < vv M 16 2 → j ≠ i → ¬ rMeet M i (g i) j (g j) := by
  rcases h.2 with q | ⟨q, g, hg⟩
  · exact absurd q h3
  · refine ⟨by rw [vv_z M 0 4, h.1, q]; rfl, by rw [vv_z M 16 4, q]; rfl, g, fun i hi => ?_⟩
    obtain ⟨g1, g2, g3, g4, g5⟩ := hg i hi
    exact ⟨g1, by rw [vv_z M 28 i, g2], by rw [vv_z M (5 + i) 9, g3], by rw [vv_z M (5 + i) 10, g4], g5⟩
theorem Pn.nn {M : Mem} (h : Pn M) (h3 : vv M 16 4 = 0) : M 0 4 = 0 ∧ M 16 4 = 0 := ⟨by rw [vv_z M 0 4, h.1, h3]; rfl, by rw [vv_z M 16 4, h3]; rfl⟩
theorem Vf.w {M : Mem} (x : Int32) : Vf M (mw M 16 0 x) := fun c k h => vmo _ _ (by omega)
theorem at_34 (N : Nat) (x1 x2 y : Int32) (hy : ¬ y ≤ 0) (M : Mem) : fX4_at_34 N x1 x2 y M = some (0, mw M 16 0 y) := by
  unfold fX4_at_34
  rw [lq_e, mw_i, if_neg hy]
theorem s_at (N : Nat) {M : Mem} (hI : Inv M) (x1 x2 : Int32) : ∃ (q : Nat) (r : Int32) (M1 : Mem) (r' : Int32) (M2 : Mem), fX3_at N x1 x2 M = some ((q, r), M1) ∧ (q = 0 ∨ q = 3 ∨ q = 2) ∧ fX4_at N x1 x2 M1 = some (r', M2) ∧ M2 16 0 = hcL_at q ∧ (q = 0 → r = r') ∧ Inv M2 := by
  obtain ⟨⟨a, b, c, d, t, s', w, fx, o⟩, u, pn⟩ := id hI
  have hb := b.1
  have j2 : (2 : Int32).toInt = 2 := by decide
  by_cases h1 : 0 ≤ x1.toInt ∧ x1.toInt < vv M 16 2
  · by_cases h2 : 0 ≤ x2.toInt ∧ x2.toInt ≤ 2
    · by_cases h3 : vv M 16 4 = 0
      · obtain ⟨e04, e164⟩ := pn.nn h3
        refine ⟨2, 0, M, 0, mw M 16 0 2, ?_, Or.inr (Or.inr rfl), ?_, ?_, fun e => absurd e (by decide), (Zf.w 2).inv hI⟩
        · unfold fX3_at
          rw [bd_e _ (e_isShip3 N _ M), b.2, if_pos h1, if_neg (by decide), bd_e _ (e_wiI N _ t0 j2 M), if_pos h2, if_neg (by decide), e04, if_pos rfl]
        · unfold fX4_at
          rw [bd_e _ (e_isShip4 N _ _), if_pos h1, if_neg (by decide), bd_e _ (e_inI N _ t0 j2 _), if_pos h2, if_neg (by decide), e164, if_pos rfl, at_34 N _ _ _ (by decide)]
        · rw [mw_i]; rfl
      · obtain ⟨e04, e164, g, hg⟩ := pn.get h3
        obtain ⟨s, hs⟩ : ∃ s, s = x1.toInt.toNat := ⟨_, rfl⟩
        have hx := xN h1.1
        rw [← hs] at hx
        subst hx
        have hs4 : s < 4 := by omega
        obtain ⟨g1, g2, g3, g4, -⟩ := hg s (by omega)
        have e24 : M (5 + s) 3 = M 24 s := vq (s' s hs4).2.2.2.2.1
        have e3 : fX3_at N (zI s) x2 M = some ((0, if x2 = 0 then zI ((g s % 6 : Nat) : Int) else if x2 = 1 then zI ((g s / 6 : Nat) : Int) else zI ((g s / 6 : Nat) : Int) - M 24 s), M) := by
          unfold fX3_at
          rw [bd_e _ (e_isShip3 N _ M), b.2, if_pos h1, if_neg (by decide), bd_e _ (e_wiI N _ t0 j2 M), if_pos h2, if_neg (by decide), e04, if_neg (by decide), gd_z _ (by omega) (by omega) (by omega), n_cl (by omega), g3, g4, e24]
          by_cases k0 : x2 = 0
          · rw [if_pos k0, if_pos k0]
          · rw [if_neg k0, if_neg k0]
            by_cases k1 : x2 = 1
            · rw [if_pos k1, if_pos k1]
            · rw [if_neg k1, if_neg k1]
        have e4 : fX4_at N (zI s) x2 M = some (if x2 = 0 then zI ((g s % 6 : Nat) : Int) else if x2 = 1 then zI ((g s / 6 : Nat) : Int) else zI ((g s / 6 : Nat) : Int) - M 24 s, mw M 16 0 0) := by
          unfold fX4_at
          rw [bd_e _ (e_isShip4 N _ _), if_pos h1, if_neg (by decide), bd_e _ (e_inI N _ t0 j2 _), if_pos h2, if_neg (by decide), e164, if_neg (by decide)]
          unfold fX4_at_34
          rw [lq_e, mw_i, if_pos (by decide), mw_n _ (show 28 ≠ 16 by decide), mw_n _ (show 24 ≠ 16 by decide), n_cl (by omega), g2, z_rem (by omega), z_div (by omega)]
          by_cases k0 : x2 = 0
          · rw [if_pos k0, if_pos k0, gd_z _ (by omega) (by omega) (by omega)]
          · rw [if_neg k0, if_neg k0]
            by_cases k1 : x2 = 1
            · rw [if_pos k1, if_pos k1, gd_z _ (by omega) (by omega) (by omega)]
            · rw [if_neg k1, if_neg k1, gd_z _ (by omega) (by omega) (by omega), gd_z _ (by omega) (by omega) (by omega)]
        exact ⟨0, _, M, _, mw M 16 0 0, e3, Or.inl rfl, e4, by rw [mw_i]; rfl, fun _ => rfl, (Zf.w 0).inv hI⟩
    · refine ⟨3, 0, M, 0, mw M 16 0 1, ?_, Or.inr (Or.inl rfl), ?_, ?_, fun e => absurd e (by decide), (Zf.w 1).inv hI⟩
      · unfold fX3_at
        rw [bd_e _ (e_isShip3 N _ M), b.2, if_pos h1, if_neg (by decide), bd_e _ (e_wiI N _ t0 j2 M), if_neg h2, if_pos rfl]
      · unfold fX4_at
        rw [bd_e _ (e_isShip4 N _ _), if_pos h1, if_neg (by decide), bd_e _ (e_inI N _ t0 j2 _), if_neg h2, if_pos rfl, at_34 N _ _ _ (by decide)]
      · rw [mw_i]; rfl
  · refine ⟨3, 0, M, 0, mw M 16 0 1, ?_, Or.inr (Or.inl rfl), ?_, ?_, fun e => absurd e (by decide), (Zf.w 1).inv hI⟩
    · unfold fX3_at
      rw [bd_e _ (e_isShip3 N _ M), b.2, if_neg h1, if_pos rfl]
    · unfold fX4_at
      rw [bd_e _ (e_isShip4 N _ _), if_neg h1, if_pos rfl, at_34 N _ _ _ (by decide)]
    · rw [mw_i]; rfl
theorem lat3 (N : Nat) {M : Mem} (hI : Inv M) {n : Nat} (hn : vv M 16 2 = n) {g : Nat → Nat} (hg : ∀ i, i < n → M (5 + i) 10 = zI ((g i / 6 : Nat) : Int)) : ∀ (m k n1 : Nat), k + m = n → m < n1 → fX3_lateness_21 N n1 (zI (pl_tot (rCost M) g k)) (zI k) M = some ((0, zI (pl_tot (rCost M) g n)), M) := by
  obtain ⟨⟨a, b, c, d, t, s', w, fx, o⟩, u, pn⟩ := id hI
  have hb := b.1
  have m03 : M 0 3 = zI n := by rw [vv_z M 0 3, b.2, hn]
  intro m
  induction m with
  | zero =>
    intro k n1 hk hn1
    obtain ⟨n1, rfl⟩ : ∃ q, n1 = q + 1 := ⟨n1 - 1, by omega⟩
    rw [fX3_lateness_21_s, m03, if_pos ((z_le (by omega) (by omega) (by omega) (by omega)).mpr (by omega)), show k = n by omega]
  | succ m ih =>
    intro k n1 hk hn1
    obtain ⟨n1, rfl⟩ : ∃ q, n1 = q + 1 := ⟨n1 - 1, by omega⟩
    have hS := s' k (by omega)
    have el : fX2_latenessIf N (5 + k) (zI ((g k / 6 : Nat) : Int)) M = some (zI (rCost M k (g k)), M) := by
      unfold fX2_latenessIf
      rw [vv_z M (5 + k) 4, vv_z M (5 + k) 3, hS.2.2.2.2.1, hS.2.2.2.2.2, z_sub, z_mul]
      rfl
    rw [fX3_lateness_21_s, m03, if_neg (fun q => by have := (z_le (by omega) (by omega) (by omega) (by omega)).mp q; omega), gd_z _ (by omega) (by omega) (by omega), gd_z _ (by omega) (by omega) (by omega), n_cl (by omega), hg k (by omega), bd_e _ el, lq_e, lq_e, z_1, z_add]
    exact ih (k + 1) n1 (by omega) (by omega)
theorem lat4 (N : Nat) {M : Mem} (hM : Mw M) {n : Nat} (hn : vv M 16 2 = n) {g : Nat → Nat} (hg : ∀ i, i < n → M 28 i = zI (g i) ∧ g i < 96) : ∀ (m k n1 : Nat), k + m = n → m < n1 → fX4_lateness_29 N n1 (zI (pl_tot (rCost M) g k)) (zI k) M = some (zI (pl_tot (rCost M) g n), M) := by
  have hb := hM.2.1
  have m162 : M 16 2 = zI n := by rw [vv_z M 16 2, hn]
  intro m
  induction m with
  | zero =>
    intro k n1 hk hn1
    obtain ⟨n1, rfl⟩ : ∃ q, n1 = q + 1 := ⟨n1 - 1, by omega⟩
    rw [fX4_lateness_29_s, m162, if_pos ((z_le (by omega) (by omega) (by omega) (by omega)).mpr (by omega)), show k = n by omega]
  | succ m ih =>
    intro k n1 hk hn1
    obtain ⟨n1, rfl⟩ : ∃ q, n1 = q + 1 := ⟨n1 - 1, by omega⟩
    have hgk := hg k (by omega)
    rw [fX4_lateness_29_s, m162, if_neg (fun q => by have := (z_le (by omega) (by omega) (by omega) (by omega)).mp q; omega), gd_z _ (by omega) (by omega) (by omega), n_cl (by omega), hgk.1, bd_e _ (e_cost N hM (by omega) hgk.2), lq_e, lq_e, z_1, z_add]
    exact ih (k + 1) n1 (by omega) (by omega)
theorem s_lateness (N : Nat) (hN : 100 ≤ N) {M : Mem} (hI : Inv M) : ∃ (q : Nat) (r : Int32) (M1 : Mem) (r' : Int32) (M2 : Mem), fX3_lateness N M = some ((q, r), M1) ∧ (q = 0 ∨ q = 2) ∧ fX4_lateness N M1 = some (r', M2) ∧ M2 16 0 = hcL_lateness q ∧ (q = 0 → r = r') ∧ Inv M2 := by
  have pn := hI.2.2
  have hb := hI.1.2.1.1
  unfold fX3_lateness
  by_cases h3 : vv M 16 4 = 0
  · obtain ⟨e04, e164⟩ := pn.nn h3
    rw [e04, if_pos rfl]
    refine ⟨2, 0, M, 0, mw M 16 0 1, rfl, Or.inr rfl, ?_, ?_, fun e => absurd e (by decide), (Zf.w 1).inv hI⟩
    · unfold fX4_lateness
      rw [e164, if_pos rfl]
      unfold fX4_lateness_13
      rw [lq_e, mw_i, if_neg (by decide)]
    · rw [mw_i]; rfl
  · obtain ⟨e04, e164, g, hg⟩ := pn.get h3
    obtain ⟨n, hn⟩ : ∃ n : Nat, vv M 16 2 = n := ⟨(vv M 16 2).toNat, by omega⟩
    have l3 := lat3 N hI hn (g := g) (fun i hi => (hg i (by omega)).2.2.2.1) n 0 N (by omega) (by omega)
    have hV : Vf M (mw M 16 0 0) := Vf.w 0
    have l4 := lat4 N (hV.mW hI.1.re.1) (n := n) (by rw [hV _ _ (by omega)]; exact hn) (g := g) (fun i hi => by rw [mw_n _ (by decide)]; exact ⟨(hg i (by omega)).2.1, (hg i (by omega)).1⟩) n 0 N (by omega) (by omega)
    rw [hV.cost] at l4
    have ez : zI (pl_tot (rCost M) g 0) = 0 := rfl
    rw [ez, z0n] at l3 l4
    rw [e04, if_neg (by decide), l3]
    refine ⟨0, _, M, _, mw M 16 0 0, rfl, Or.inl rfl, ?_, by rw [mw_i]; rfl, fun _ => rfl, (Zf.w 0).inv hI⟩
    unfold fX4_lateness
    rw [e164, if_neg (by decide)]
    unfold fX4_lateness_13
    rw [lq_e, mw_i, if_pos (by decide), l4]
/-- the ship lies at the place at the hour -/
def cnt (M : Mem) (g : Nat → Nat) (x y : Int) (j : Nat) : Prop := (((g j % 6 : Nat) : Int) ≤ x ∧ x < ((g j % 6 : Nat) : Int) + vv M 21 j) ∧ ((g j / 6 : Nat) : Int) ≤ y ∧ y < ((g j / 6 : Nat) : Int) + vv M 23 j
theorem cnt_one {M : Mem} {g : Nat → Nat} {x y : Int} {i j : Nat} (hi : cnt M g x y i) (hj : cnt M g x y j) (h : j ≠ i → ¬ rMeet M i (g i) j (g j)) : i = j := by
  by_cases e : j = i
  · exact e.symm
  · refine absurd ?_ (h e)
    unfold cnt at hi hj
    unfold rMeet
    omega
theorem e_spanAt (N : Nat) {a l : Int} (ha : 0 ≤ a ∧ a < 1000) (hl : 0 ≤ l ∧ l < 1000) (x : Int32) (M : Mem) : fX3_isSpanAt N (zI a) (zI l) x M = some (if a ≤ x.toInt ∧ x.toInt < a + l then 1 else 0, M) := by
  unfold fX3_isSpanAt
  have e1 : (zI a).toInt = a := z_t (by omega) (by omega)
  have e2 : (zI (a + l)).toInt = a + l := z_t (by omega) (by omega)
  rw [z_add]
  simp only [i_lt, i_le, e1, e2]
  by_cases h1 : x.toInt < a
  · rw [if_pos h1, if_neg (by omega)]
  · rw [if_neg h1]
    by_cases h2 : a + l ≤ x.toInt
    · rw [if_pos h2, if_neg (by omega)]
    · rw [if_neg h2, if_pos (by omega)]
theorem lies3 (N : Nat) {M : Mem} (hI : Inv M) {n : Nat} (hn : vv M 16 2 = n) {g : Nat → Nat} (hg : ∀ i, i < n → g i < 96 ∧ M (5 + i) 9 = zI ((g i % 6 : Nat) : Int) ∧ M (5 + i) 10 = zI ((g i / 6 : Nat) : Int)) (x1 x2 : Int32) : ∀ (m k n1 : Nat), k + m = n → m < n1 → ∃ r : Int32, fX3_lies_19 N n1 x1 x2 (zI k) M = some ((0, r), M) ∧ ((∃ j, k ≤ j ∧ j < n ∧ cnt M g x1.toInt x2.toInt j ∧ r = zI j) ∨ (r = -1 ∧ ∀ j, k ≤ j → j < n → ¬ cnt M g x1.toInt x2.toInt j)) := by
  obtain ⟨⟨a, b, c, d, t, s', w, fx, o⟩, u, pn⟩ := id hI
  have hb := b.1
  have m03 : M 0 3 = zI n := by rw [vv_z M 0 3, b.2, hn]
  intro m
  induction m with
  | zero =>
    intro k n1 hk hn1
    obtain ⟨n1, rfl⟩ : ∃ q, n1 = q + 1 := ⟨n1 - 1, by omega⟩
    rw [fX3_lies_19_s, m03, if_pos ((z_le (by omega) (by omega) (by omega) (by omega)).mpr (by omega))]
    exact ⟨-1, rfl, Or.inr ⟨rfl, fun j h1 h2 => by omega⟩⟩
  | succ m ih =>
    intro k n1 hk hn1
    obtain ⟨n1, rfl⟩ : ∃ q, n1 = q + 1 := ⟨n1 - 1, by omega⟩
    have hS := s' k (by omega)
    have hgk := hg k (by omega)
    obtain ⟨r, r1, r2⟩ := ih (k + 1) n1 (by omega) (by omega)
    have skip : ¬ cnt M g x1.toInt x2.toInt k → ((∃ j, k ≤ j ∧ j < n ∧ cnt M g x1.toInt x2.toInt j ∧ r = zI j) ∨ (r = -1 ∧ ∀ j, k ≤ j → j < n → ¬ cnt M g x1.toInt x2.toInt j)) := fun hno => by
      rcases r2 with ⟨j, j1, j2⟩ | ⟨j1, j2⟩
      · exact Or.inl ⟨j, by omega, j2⟩
      · refine Or.inr ⟨j1, fun j k1 k2 => ?_⟩
        rcases Nat.lt_or_ge k j with q | q
        · exact j2 j q k2
        · rw [show j = k by omega]; exact hno
    rw [fX3_lies_19_s, m03, if_neg (fun q => by have := (z_le (by omega) (by omega) (by omega) (by omega)).mp q; omega), gd_z _ (by omega) (by omega) (by omega), n_cl (by omega), hgk.2.1, vv_z M (5 + k) 0, bd_e _ (e_spanAt N (by omega) (by omega) x1 M), hS.2.1]
    by_cases h1 : ((g k % 6 : Nat) : Int) ≤ x1.toInt ∧ x1.toInt < ((g k % 6 : Nat) : Int) + vv M 21 k
    · rw [if_pos h1, if_neg (by decide), vv_z M (5 + k) 2, hgk.2.2, bd_e _ (e_spanAt N (by omega) (by omega) x2 M), hS.2.2.2.1]
      by_cases h2 : ((g k / 6 : Nat) : Int) ≤ x2.toInt ∧ x2.toInt < ((g k / 6 : Nat) : Int) + vv M 23 k
      · rw [if_pos h2, if_neg (by decide)]
        exact ⟨zI k, rfl, Or.inl ⟨k, Nat.le_refl _, by omega, ⟨h1, h2⟩, rfl⟩⟩
      · rw [if_neg h2, if_pos rfl, lq_e, z_1]
        exact ⟨r, r1, skip (fun q => h2 q.2)⟩
    · rw [if_neg h1, if_pos rfl, lq_e, z_1]
      exact ⟨r, r1, skip (fun q => h1 q.1)⟩
theorem lies4 (N : Nat) {M : Mem} (hM : Mw M) {n : Nat} (hn : vv M 16 2 = n) (h164 : M 16 4 = 1) (h160 : M 16 0 = 0) {g : Nat → Nat} (hg : ∀ i, i < n → M 28 i = zI (g i) ∧ g i < 96) (x1 x2 : Int32) : ∀ (m k n1 : Nat) (x3 : Int32), k + m = n → m < n1 → ∃ r : Int32, fX4_lies_21 N n1 x1 x2 x3 (zI k) M = some (r, M) ∧ ((∃ j, k ≤ j ∧ j < n ∧ cnt M g x1.toInt x2.toInt j ∧ r = zI j) ∨ (r = x3 ∧ ∀ j, k ≤ j → j < n → ¬ cnt M g x1.toInt x2.toInt j)) := by
  have hb := hM.2.1
  have m162 : M 16 2 = zI n := by rw [vv_z M 16 2, hn]
  intro m
  induction m with
  | zero =>
    intro k n1 x3 hk hn1
    obtain ⟨n1, rfl⟩ : ∃ q, n1 = q + 1 := ⟨n1 - 1, by omega⟩
    rw [fX4_lies_21_s, m162, if_pos ((z_le (by omega) (by omega) (by omega) (by omega)).mpr (by omega)), h160, if_pos (by decide)]
    exact ⟨x3, rfl, Or.inr ⟨rfl, fun j h1 h2 => by omega⟩⟩
  | succ m ih =>
    intro k n1 x3 hk hn1
    obtain ⟨n1, rfl⟩ : ∃ q, n1 = q + 1 := ⟨n1 - 1, by omega⟩
    have hS := hM.2.2.2.2.2 k (by omega)
    have hgk := hg k (by omega)
    have e0 : ¬ cnt M g x1.toInt x2.toInt k → ∃ r : Int32, fX4_lies_114 N (fX4_lies_21 N n1) x1 x2 x3 (zI k) 0 M = some (r, M) ∧ ((∃ j, k ≤ j ∧ j < n ∧ cnt M g x1.toInt x2.toInt j ∧ r = zI j) ∨ (r = x3 ∧ ∀ j, k ≤ j → j < n → ¬ cnt M g x1.toInt x2.toInt j)) := fun hno => by
      obtain ⟨r, r1, r2⟩ := ih (k + 1) n1 x3 (by omega) (by omega)
      unfold fX4_lies_114
      rw [if_pos rfl, lq_e, z_1]
      refine ⟨r, r1, ?_⟩
      rcases r2 with ⟨j, j1, j2⟩ | ⟨j1, j2⟩
      · exact Or.inl ⟨j, by omega, j2⟩
      · refine Or.inr ⟨j1, fun j k1 k2 => ?_⟩
        rcases Nat.lt_or_ge k j with q | q
        · exact j2 j q k2
        · rw [show j = k by omega]; exact hno
    have e1 : cnt M g x1.toInt x2.toInt k → ∃ r : Int32, fX4_lies_114 N (fX4_lies_21 N n1) x1 x2 x3 (zI k) 1 M = some (r, M) ∧ ((∃ j, k ≤ j ∧ j < n ∧ cnt M g x1.toInt x2.toInt j ∧ r = zI j) ∨ (r = x3 ∧ ∀ j, k ≤ j → j < n → ¬ cnt M g x1.toInt x2.toInt j)) := fun hyes => by
      obtain ⟨r, r1, r2⟩ := ih (k + 1) n1 (zI k) (by omega) (by omega)
      unfold fX4_lies_114
      rw [if_neg (by decide), lq_e, z_1]
      refine ⟨r, r1, Or.inl ?_⟩
      rcases r2 with ⟨j, j1, j2⟩ | ⟨j1, j2⟩
      · exact ⟨j, by omega, j2⟩
      · exact ⟨k, Nat.le_refl _, by omega, hyes, j1⟩
    have w1 : (zI ((g k % 6 : Nat) : Int)).toInt = ((g k % 6 : Nat) : Int) := z_t (by omega) (by omega)
    have w2 : (zI ((g k / 6 : Nat) : Int)).toInt = ((g k / 6 : Nat) : Int) := z_t (by omega) (by omega)
    have w3 : (zI (((g k % 6 : Nat) : Int) + vv M 21 k)).toInt = ((g k % 6 : Nat) : Int) + vv M 21 k := z_t (by omega) (by omega)
    have w4 : (zI (((g k / 6 : Nat) : Int) + vv M 23 k)).toInt = ((g k / 6 : Nat) : Int) + vv M 23 k := z_t (by omega) (by omega)
    rw [fX4_lies_21_s, m162, if_neg (fun q => by have := (z_le (by omega) (by omega) (by omega) (by omega)).mp q; omega), h164, if_neg (by decide), gd_z _ (by omega) (by omega) (by omega), n_cl (by omega), hgk.1, z_rem (by omega), z_div (by omega), vv_z M 21 k, vv_z M 23 k, z_add, z_add]
    by_cases h1 : x1 < zI ((g k % 6 : Nat) : Int)
    · rw [if_pos h1]
      exact e0 (fun q => by rw [i_lt, w1] at h1; have := q.1.1; omega)
    · rw [if_neg h1, gd_z _ (by omega) (by omega) (by omega), gd_z _ (by omega) (by omega) (by omega)]
      by_cases h2 : zI (((g k % 6 : Nat) : Int) + vv M 21 k) ≤ x1
      · rw [if_pos h2]
        exact e0 (fun q => by rw [i_le, w3] at h2; have := q.1.2; omega)
      · rw [if_neg h2, gd_z _ (by omega) (by omega) (by omega)]
        by_cases h3 : x2 < zI ((g k / 6 : Nat) : Int)
        · rw [if_pos h3]
          exact e0 (fun q => by rw [i_lt, w2] at h3; have := q.2.1; omega)
        · rw [if_neg h3, gd_z _ (by omega) (by omega) (by omega), gd_z _ (by omega) (by omega) (by omega)]
          by_cases h4 : zI (((g k / 6 : Nat) : Int) + vv M 23 k) ≤ x2
          · rw [if_pos h4]
            exact e0 (fun q => by rw [i_le, w4] at h4; have := q.2.2; omega)
          · rw [if_neg h4]
            rw [i_lt, w1] at h1
            rw [i_le, w3] at h2
            rw [i_lt, w2] at h3
            rw [i_le, w4] at h4
            exact e1 ⟨⟨by omega, by omega⟩, by omega, by omega⟩
theorem s_lies (N : Nat) (hN : 100 ≤ N) {M : Mem} (hI : Inv M) (x1 x2 : Int32) : ∃ (q : Nat) (r : Int32) (M1 : Mem) (r' : Int32) (M2 : Mem), fX3_lies N x1 x2 M = some ((q, r), M1) ∧ (q = 0 ∨ q = 2) ∧ fX4_lies N x1 x2 M1 = some (r', M2) ∧ M2 16 0 = hcL_lies q ∧ (q = 0 → r = r') ∧ Inv M2 := by
  have pn := hI.2.2
  have hb := hI.1.2.1.1
  unfold fX3_lies
  by_cases h3 : vv M 16 4 = 0
  · obtain ⟨e04, e164⟩ := pn.nn h3
    rw [e04, if_pos rfl]
    refine ⟨2, 0, M, 0, mw M 16 0 1, rfl, Or.inr rfl, ?_, ?_, fun e => absurd e (by decide), (Zf.w 1).inv hI⟩
    · unfold fX4_lies
      obtain ⟨N', rfl⟩ : ∃ q, N = q + 1 := ⟨N - 1, by omega⟩
      rw [e164, if_pos rfl, lq_e, fX4_lies_21_s, mw_o _ _ (show ¬ ((16 : Nat) = 16 ∧ (4 : Nat) = 0) by decide), e164, mw_i, if_neg (show ¬ ((1 : Int32) ≤ 0) by decide), if_pos (show (0 : Int32) = 0 from rfl)]
      split <;> rfl
    · rw [mw_i]; rfl
  · obtain ⟨e04, e164, g, hg⟩ := pn.get h3
    obtain ⟨n, hn⟩ : ∃ n : Nat, vv M 16 2 = n := ⟨(vv M 16 2).toNat, by omega⟩
    obtain ⟨r, a1, a2⟩ := lies3 N hI hn (g := g) (fun i hi => ⟨(hg i (by omega)).1, (hg i (by omega)).2.2.1, (hg i (by omega)).2.2.2.1⟩) x1 x2 n 0 N (by omega) (by omega)
    have hV : Vf M (mw M 16 0 0) := Vf.w 0
    obtain ⟨r', b1, b2⟩ := lies4 N (hV.mW hI.1.re.1) (n := n) (by rw [hV _ _ (by omega)]; exact hn) (by rw [mw_o _ _ (by decide)]; exact e164) (mw_i ..) (g := g) (fun i hi => by rw [mw_n _ (by decide)]; exact ⟨(hg i (by omega)).2.1, (hg i (by omega)).1⟩) x1 x2 n 0 N (-1) (by omega) (by omega)
    have ec : ∀ j, cnt (mw M 16 0 0) g x1.toInt x2.toInt j ↔ cnt M g x1.toInt x2.toInt j := fun j => by
      unfold cnt
      rw [hV 21 j (by omega), hV 23 j (by omega)]
    have hrr : r = r' := by
      rcases a2 with ⟨i, i1, i2, i3, i4⟩ | ⟨i1, i2⟩
      · rcases b2 with ⟨j, j1, j2, j3, j4⟩ | ⟨j1, j2⟩
        · have e := cnt_one i3 ((ec j).mp j3) (fun q => (hg i (by omega)).2.2.2.2 j (by omega) q)
          rw [i4, j4, e]
        · exact absurd ((ec i).mpr i3) (j2 i i1 i2)
      · rcases b2 with ⟨j, j1, j2, j3, j4⟩ | ⟨j1, j2⟩
        · exact absurd ((ec j).mp j3) (i2 j j1 j2)
        · rw [i1, j1]
    rw [z0n] at a1 b1
    rw [e04, if_neg (by decide), a1]
    refine ⟨0, r, M, r', mw M 16 0 0, rfl, Or.inl rfl, ?_, by rw [mw_i]; rfl, fun _ => hrr, (Zf.w 0).inv hI⟩
    unfold fX4_lies
    rw [e164, if_neg (by decide), lq_e]
    exact b1
