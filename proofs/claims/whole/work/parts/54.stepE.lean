theorem ship53_0 (N : Nat) (x1 x2 x3 x4 x5 x6 y0 : Int32) (h : x6 = 0 ∨ y0 = 0) (M : Mem) : fX3_ship_53 N x1 x2 x3 x4 x5 x6 y0 M = some ((1, 0), M) := by
  unfold fX3_ship_53
  by_cases h6 : x6 = 0
  · rw [if_pos h6]
  · rcases h with h | h
    · exact absurd h h6
    · rw [if_neg h6, if_pos h]
def okS (x1 x2 x3 x4 x5 : Int32) : Prop := (1 ≤ x1.toInt ∧ x1.toInt ≤ 6) ∧ (0 ≤ x2.toInt ∧ x2.toInt ≤ 100) ∧ (1 ≤ x3.toInt ∧ x3.toInt ≤ 24) ∧ (0 ≤ x4.toInt ∧ x4.toInt ≤ 15) ∧ (1 ≤ x5.toInt ∧ x5.toInt ≤ 100)
theorem j6 : (6 : Int32).toInt = 6 := by decide
theorem j15 : (15 : Int32).toInt = 15 := by decide
theorem j24 : (24 : Int32).toInt = 24 := by decide
theorem j100 : (100 : Int32).toInt = 100 := by decide
theorem ship3_no (N : Nat) {x1 x2 x3 x4 x5 : Int32} (h : ¬ okS x1 x2 x3 x4 x5) (M : Mem) : fX3_ship N x1 x2 x3 x4 x5 M = some ((1, 0), M) := by
  have k0 : fX3_ship_25 N x1 x2 x3 x4 x5 0 M = some ((1, 0), M) := by
    unfold fX3_ship_25
    rw [bd_e _ (e_wiI N x3 t1 j24 M)]
    by_cases h3 : 1 ≤ x3.toInt ∧ x3.toInt ≤ 24
    · rw [if_pos h3, if_neg (by decide), bd_e _ (e_wiI N x4 t0 j15 M)]
      by_cases h4 : 0 ≤ x4.toInt ∧ x4.toInt ≤ 15
      · rw [if_pos h4, if_neg (by decide), ship53_0 _ _ _ _ _ _ _ _ (Or.inl rfl)]
      · rw [if_neg h4, if_pos rfl, ship53_0 _ _ _ _ _ _ _ _ (Or.inl rfl)]
    · rw [if_neg h3, if_pos rfl, ship53_0 _ _ _ _ _ _ _ _ (Or.inl rfl)]
  unfold fX3_ship
  rw [bd_e _ (e_wiI N x1 t1 j6 M)]
  by_cases h1 : 1 ≤ x1.toInt ∧ x1.toInt ≤ 6
  · rw [if_pos h1, if_neg (by decide), bd_e _ (e_wiI N x2 t0 j100 M)]
    by_cases h2 : 0 ≤ x2.toInt ∧ x2.toInt ≤ 100
    · rw [if_pos h2, if_neg (by decide)]
      unfold fX3_ship_25
      rw [bd_e _ (e_wiI N x3 t1 j24 M)]
      by_cases h3 : 1 ≤ x3.toInt ∧ x3.toInt ≤ 24
      · rw [if_pos h3, if_neg (by decide), bd_e _ (e_wiI N x4 t0 j15 M)]
        by_cases h4 : 0 ≤ x4.toInt ∧ x4.toInt ≤ 15
        · have h5 : ¬ (1 ≤ x5.toInt ∧ x5.toInt ≤ 100) := fun q => h ⟨h1, h2, h3, h4, q⟩
          rw [if_pos h4, if_neg (by decide)]
          unfold fX3_ship_53
          rw [if_neg (by decide), if_neg (by decide), bd_e _ (e_wiI N x5 t1 j100 M), if_neg h5, if_pos rfl]
        · rw [if_neg h4, if_pos rfl, ship53_0 _ _ _ _ _ _ _ _ (Or.inr rfl)]
      · rw [if_neg h3, if_pos rfl, ship53_0 _ _ _ _ _ _ _ _ (Or.inr rfl)]
    · rw [if_neg h2, if_pos rfl, k0]
  · rw [if_neg h1, if_pos rfl, k0]
theorem ship3_ok (N : Nat) {x1 x2 x3 x4 x5 : Int32} (h : okS x1 x2 x3 x4 x5) {M : Mem} {n : Nat} (hn : M 0 3 = zI n) (hn4 : n ≤ 4) : fX3_ship N x1 x2 x3 x4 x5 M = if n < 4 then some ((0, zI n), mw (mw (mw (mw (mw (mw (mw M (5 + n) 0 x1) (5 + n) 1 x2) (5 + n) 2 x3) (5 + n) 3 x4) (5 + n) 4 x5) 0 4 0) 0 3 (zI ((n + 1 : Nat) : Int))) else some ((2, 0), M) := by
  obtain ⟨h1, h2, h3, h4, h5⟩ := h
  unfold fX3_ship
  rw [bd_e _ (e_wiI N x1 t1 j6 M), if_pos h1, if_neg (by decide), bd_e _ (e_wiI N x2 t0 j100 M), if_pos h2, if_neg (by decide)]
  unfold fX3_ship_25
  rw [bd_e _ (e_wiI N x3 t1 j24 M), if_pos h3, if_neg (by decide), bd_e _ (e_wiI N x4 t0 j15 M), if_pos h4, if_neg (by decide)]
  unfold fX3_ship_53
  have e4 : (4 : Int32) = zI 4 := by decide
  rw [if_neg (by decide), if_neg (by decide), bd_e _ (e_wiI N x5 t1 j100 M), if_pos h5, if_neg (by decide), hn, e4]
  by_cases hlt : n < 4
  · rw [if_pos ((z_lt (by omega) (by omega) (by omega) (by omega)).mpr (by omega)), gd_z _ (by omega) (by omega) (by omega), n_cl (by omega), if_pos hlt, lq_e, lq_e, lq_e, lq_e, lq_e, lq_e, lq_e, mw_o _ _ (show ¬ ((0 : Nat) = 0 ∧ (3 : Nat) = 4) by decide), mw_n _ (show 0 ≠ 5 + n by omega), mw_n _ (show 0 ≠ 5 + n by omega), mw_n _ (show 0 ≠ 5 + n by omega), mw_n _ (show 0 ≠ 5 + n by omega), mw_n _ (show 0 ≠ 5 + n by omega), hn, z_1]
  · rw [if_neg (fun q => by have := (z_lt (by omega) (by omega) (by omega) (by omega)).mp q; omega), if_neg hlt]
theorem ship82_0 (N : Nat) (x1 x2 x3 x4 x5 : Int32) {M1 : Mem} {n : Nat} (hn : n < 4) (h : M1 16 2 = zI n) : fX4_ship_82 N x1 x2 x3 x4 x5 0 M1 = some (zI n, mw (mw (mw (mw (mw (mw (mw (mw M1 16 0 0) 21 n x1) 22 n x2) 23 n x3) 24 n x4) 25 n x5) 16 2 (zI ((n + 1 : Nat) : Int))) 16 4 0) := by
  unfold fX4_ship_82
  have h' : (mw M1 16 0 0) 16 2 = zI n := by rw [mw_o _ _ (by decide), h]
  rw [lq_e, mw_i, if_pos (by decide)]
  generalize mw M1 16 0 0 = M' at h' ⊢
  rw [h', gd_z _ (by omega) (by omega) (by omega), lq_e, n_cl (by omega), mw_n _ (show 16 ≠ 21 by decide), h', gd_z _ (by omega) (by omega) (by omega), lq_e, n_cl (by omega), mw_n _ (show 16 ≠ 22 by decide), mw_n _ (show 16 ≠ 21 by decide), h', gd_z _ (by omega) (by omega) (by omega), lq_e, n_cl (by omega), mw_n _ (show 16 ≠ 23 by decide), mw_n _ (show 16 ≠ 22 by decide), mw_n _ (show 16 ≠ 21 by decide), h', gd_z _ (by omega) (by omega) (by omega), lq_e, n_cl (by omega), mw_n _ (show 16 ≠ 24 by decide), mw_n _ (show 16 ≠ 23 by decide), mw_n _ (show 16 ≠ 22 by decide), mw_n _ (show 16 ≠ 21 by decide), h', gd_z _ (by omega) (by omega) (by omega), lq_e, n_cl (by omega), lq_e, lq_e, mw_n _ (show 16 ≠ 25 by decide), mw_n _ (show 16 ≠ 24 by decide), mw_n _ (show 16 ≠ 23 by decide), mw_n _ (show 16 ≠ 22 by decide), mw_n _ (show 16 ≠ 21 by decide), h', mw_o _ _ (show ¬ ((16 : Nat) = 16 ∧ (2 : Nat) = 4) by decide), mw_i, z_1, z_m1]
theorem ship4_1 (N : Nat) {x1 x2 x3 x4 x5 : Int32} (M : Mem) : fX4_ship_57 N x1 x2 x3 x4 x5 0 M = some (0, mw M 16 0 1) := by
  unfold fX4_ship_57 fX4_ship_82
  rw [if_pos rfl, lq_e, mw_i, if_neg (by decide)]
theorem ship4_no (N : Nat) {x1 x2 x3 x4 x5 : Int32} (h : ¬ okS x1 x2 x3 x4 x5) (M : Mem) : fX4_ship N x1 x2 x3 x4 x5 M = some (0, mw M 16 0 1) := by
  unfold fX4_ship
  rw [bd_e _ (e_inI N x1 t1 j6 M)]
  by_cases h1 : 1 ≤ x1.toInt ∧ x1.toInt ≤ 6
  · rw [if_pos h1, if_neg (by decide), bd_e _ (e_inI N x2 t0 j100 M)]
    by_cases h2 : 0 ≤ x2.toInt ∧ x2.toInt ≤ 100
    · rw [if_pos h2, if_neg (by decide), bd_e _ (e_inI N x3 t1 j24 M)]
      by_cases h3 : 1 ≤ x3.toInt ∧ x3.toInt ≤ 24
      · rw [if_pos h3, if_neg (by decide), bd_e _ (e_inI N x4 t0 j15 M)]
        by_cases h4 : 0 ≤ x4.toInt ∧ x4.toInt ≤ 15
        · have h5 : ¬ (1 ≤ x5.toInt ∧ x5.toInt ≤ 100) := fun q => h ⟨h1, h2, h3, h4, q⟩
          rw [if_pos h4, if_neg (by decide), bd_e _ (e_inI N x5 t1 j100 M), if_neg h5, if_pos rfl, ship4_1]
        · rw [if_neg h4, if_pos rfl, ship4_1]
      · rw [if_neg h3, if_pos rfl, ship4_1]
    · rw [if_neg h2, if_pos rfl, ship4_1]
  · rw [if_neg h1, if_pos rfl, ship4_1]
theorem ship4_ok (N : Nat) {x1 x2 x3 x4 x5 : Int32} (h : okS x1 x2 x3 x4 x5) (M : Mem) : fX4_ship N x1 x2 x3 x4 x5 M = fX4_ship_57 N x1 x2 x3 x4 x5 1 M := by
  obtain ⟨h1, h2, h3, h4, h5⟩ := h
  unfold fX4_ship
  rw [bd_e _ (e_inI N x1 t1 j6 M), if_pos h1, if_neg (by decide), bd_e _ (e_inI N x2 t0 j100 M), if_pos h2, if_neg (by decide), bd_e _ (e_inI N x3 t1 j24 M), if_pos h3, if_neg (by decide), bd_e _ (e_inI N x4 t0 j15 M), if_pos h4, if_neg (by decide), bd_e _ (e_inI N x5 t1 j100 M), if_pos h5, if_neg (by decide)]
theorem s_ship (N : Nat) {M : Mem} (hI : Inv M) (x1 x2 x3 x4 x5 : Int32) : ∃ (q : Nat) (r : Int32) (M1 : Mem) (r' : Int32) (M2 : Mem), fX3_ship N x1 x2 x3 x4 x5 M = some ((q, r), M1) ∧ (q = 0 ∨ q = 1 ∨ q = 2) ∧ fX4_ship N x1 x2 x3 x4 x5 M1 = some (r', M2) ∧ M2 16 0 = hcL_ship q ∧ (q = 0 → r = r') ∧ Inv M2 := by
  obtain ⟨⟨a, b, c, d, t, s, w, f, o⟩, u, -⟩ := id hI
  have hb := b.1
  by_cases hok : okS x1 x2 x3 x4 x5
  · obtain ⟨n, hn⟩ : ∃ n : Nat, vv M 16 2 = n := ⟨(vv M 16 2).toNat, by omega⟩
    have m03 : M 0 3 = zI n := by rw [vv_z M 0 3, b.2, hn]
    have m162 : M 16 2 = zI n := by rw [vv_z M 16 2, hn]
    rw [ship3_ok N hok m03 (by omega)]
    by_cases hlt : n < 4
    · rw [if_pos hlt]
      obtain ⟨p1, p2, p3, p4, p5⟩ := id hok
      have hfr1 : ∀ c k, ¬ ((c = 5 + n ∧ k < 5) ∨ (c = 0 ∧ (k = 3 ∨ k = 4))) → mw (mw (mw (mw (mw (mw (mw M (5 + n) 0 x1) (5 + n) 1 x2) (5 + n) 2 x3) (5 + n) 3 x4) (5 + n) 4 x5) 0 4 0) 0 3 (zI ((n + 1 : Nat) : Int)) c k = M c k := fun c k h => by
        rw [mw_o _ _ (by omega), mw_o _ _ (by omega), mw_o _ _ (by omega), mw_o _ _ (by omega), mw_o _ _ (by omega), mw_o _ _ (by omega), mw_o _ _ (by omega)]
      have g0 : vv (mw (mw (mw (mw (mw (mw (mw M (5 + n) 0 x1) (5 + n) 1 x2) (5 + n) 2 x3) (5 + n) 3 x4) (5 + n) 4 x5) 0 4 0) 0 3 (zI ((n + 1 : Nat) : Int))) (5 + n) 0 = x1.toInt := by
        rw [vmo _ _ (by omega), vmo _ _ (by omega), vmo _ _ (by omega), vmo _ _ (by omega), vmo _ _ (by omega), vmo _ _ (by omega), vmi]
      have g1 : vv (mw (mw (mw (mw (mw (mw (mw M (5 + n) 0 x1) (5 + n) 1 x2) (5 + n) 2 x3) (5 + n) 3 x4) (5 + n) 4 x5) 0 4 0) 0 3 (zI ((n + 1 : Nat) : Int))) (5 + n) 1 = x2.toInt := by
        rw [vmo _ _ (by omega), vmo _ _ (by omega), vmo _ _ (by omega), vmo _ _ (by omega), vmo _ _ (by omega), vmi]
      have g2 : vv (mw (mw (mw (mw (mw (mw (mw M (5 + n) 0 x1) (5 + n) 1 x2) (5 + n) 2 x3) (5 + n) 3 x4) (5 + n) 4 x5) 0 4 0) 0 3 (zI ((n + 1 : Nat) : Int))) (5 + n) 2 = x3.toInt := by
        rw [vmo _ _ (by omega), vmo _ _ (by omega), vmo _ _ (by omega), vmo _ _ (by omega), vmi]
      have g3 : vv (mw (mw (mw (mw (mw (mw (mw M (5 + n) 0 x1) (5 + n) 1 x2) (5 + n) 2 x3) (5 + n) 3 x4) (5 + n) 4 x5) 0 4 0) 0 3 (zI ((n + 1 : Nat) : Int))) (5 + n) 3 = x4.toInt := by
        rw [vmo _ _ (by omega), vmo _ _ (by omega), vmo _ _ (by omega), vmi]
      have g4 : vv (mw (mw (mw (mw (mw (mw (mw M (5 + n) 0 x1) (5 + n) 1 x2) (5 + n) 2 x3) (5 + n) 3 x4) (5 + n) 4 x5) 0 4 0) 0 3 (zI ((n + 1 : Nat) : Int))) (5 + n) 4 = x5.toInt := by
        rw [vmo _ _ (by omega), vmo _ _ (by omega), vmi]
      have g5 : vv (mw (mw (mw (mw (mw (mw (mw M (5 + n) 0 x1) (5 + n) 1 x2) (5 + n) 2 x3) (5 + n) 3 x4) (5 + n) 4 x5) 0 4 0) 0 3 (zI ((n + 1 : Nat) : Int))) 0 4 = 0 := by
        rw [vmo _ _ (by omega), vmi, t0]
      have g6 : vv (mw (mw (mw (mw (mw (mw (mw M (5 + n) 0 x1) (5 + n) 1 x2) (5 + n) 2 x3) (5 + n) 3 x4) (5 + n) 4 x5) 0 4 0) 0 3 (zI ((n + 1 : Nat) : Int))) 0 3 = (n : Int) + 1 := by
        rw [vmi, z_t (by omega) (by omega)]
        omega
      generalize mw (mw (mw (mw (mw (mw (mw M (5 + n) 0 x1) (5 + n) 1 x2) (5 + n) 2 x3) (5 + n) 3 x4) (5 + n) 4 x5) 0 4 0) 0 3 (zI ((n + 1 : Nat) : Int)) = M1 at hfr1 g0 g1 g2 g3 g4 g5 g6
      have n162 : M1 16 2 = zI n := by rw [hfr1 _ _ (by omega), m162]
      have e4 : (4 : Int32) = zI 4 := by decide
      refine ⟨0, zI n, M1, zI n, mw (mw (mw (mw (mw (mw (mw (mw M1 16 0 0) 21 n x1) 22 n x2) 23 n x3) 24 n x4) 25 n x5) 16 2 (zI ((n + 1 : Nat) : Int))) 16 4 0, rfl, Or.inl rfl, ?_, ?_, fun _ => rfl, ?_⟩
      · rw [ship4_ok N hok]
        unfold fX4_ship_57
        rw [if_neg (by decide), n162, e4, if_neg (fun e => by have := (z_eq (by omega) (by omega) (by omega) (by omega)).mp e; omega)]
        exact ship82_0 N x1 x2 x3 x4 x5 hlt n162
      · rw [mw_o _ _ (by decide), mw_o _ _ (by decide), mw_o _ _ (by omega), mw_o _ _ (by omega), mw_o _ _ (by omega), mw_o _ _ (by omega), mw_o _ _ (by omega), mw_i]
        rfl
      · generalize hMM : mw (mw (mw (mw (mw (mw (mw (mw M1 16 0 0) 21 n x1) 22 n x2) 23 n x3) 24 n x4) 25 n x5) 16 2 (zI ((n + 1 : Nat) : Int))) 16 4 0 = M2
        have hsm : ∀ c k, c < 16 → vv M2 c k = vv M1 c k := fun c k h => by
          rw [← hMM, vmo _ _ (by omega), vmo _ _ (by omega), vmo _ _ (by omega), vmo _ _ (by omega), vmo _ _ (by omega), vmo _ _ (by omega), vmo _ _ (by omega), vmo _ _ (by omega)]
        have hfr : ∀ c k, ¬ ((c = 5 + n ∧ k < 5) ∨ (c = 0 ∧ (k = 3 ∨ k = 4)) ∨ (c = 16 ∧ (k = 0 ∨ k = 2 ∨ k = 4)) ∨ (21 ≤ c ∧ c ≤ 25 ∧ k = n)) → vv M2 c k = vv M c k := fun c k h => by
          rw [← hMM, vmo _ _ (by omega), vmo _ _ (by omega), vmo _ _ (by omega), vmo _ _ (by omega), vmo _ _ (by omega), vmo _ _ (by omega), vmo _ _ (by omega), vmo _ _ (by omega)]
          unfold vv
          rw [hfr1 c k (by omega)]
        have w162 : vv M2 16 2 = (n : Int) + 1 := by
          rw [← hMM, vmo _ _ (by omega), vmi, z_t (by omega) (by omega)]
          omega
        have w03 : vv M2 0 3 = (n : Int) + 1 := by rw [hsm _ _ (by omega)]; exact g6
        have hp1 : vv M2 0 4 = 0 := by rw [hsm _ _ (by omega)]; exact g5
        have hp2 : vv M2 16 4 = 0 := by rw [← hMM, vmi, t0]
        have w25 : vv M2 25 n = x5.toInt := by
          rw [← hMM, vmo _ _ (by omega), vmo _ _ (by omega), vmi]
        have w24 : vv M2 24 n = x4.toInt := by
          rw [← hMM, vmo _ _ (by omega), vmo _ _ (by omega), vmo _ _ (by omega), vmi]
        have w23 : vv M2 23 n = x3.toInt := by
          rw [← hMM, vmo _ _ (by omega), vmo _ _ (by omega), vmo _ _ (by omega), vmo _ _ (by omega), vmi]
        have w22 : vv M2 22 n = x2.toInt := by
          rw [← hMM, vmo _ _ (by omega), vmo _ _ (by omega), vmo _ _ (by omega), vmo _ _ (by omega), vmo _ _ (by omega), vmi]
        have w21 : vv M2 21 n = x1.toInt := by
          rw [← hMM, vmo _ _ (by omega), vmo _ _ (by omega), vmo _ _ (by omega), vmo _ _ (by omega), vmo _ _ (by omega), vmo _ _ (by omega), vmi]
        have hB : RB M2 := ⟨by rw [w162]; omega, by rw [w03, w162]⟩
        have hS : RS M2 := fun i hi => by
          by_cases hin : i = n
          · subst hin
            rw [hsm (5 + i) 0 (by omega), hsm (5 + i) 1 (by omega), hsm (5 + i) 2 (by omega), hsm (5 + i) 3 (by omega), hsm (5 + i) 4 (by omega), g0, g1, g2, g3, g4, w21, w22, w23, w24, w25]
            exact ⟨⟨⟨by omega, p1.2⟩, p2, ⟨by omega, p3.2⟩, p4, ⟨by omega, p5.2⟩⟩, rfl, rfl, rfl, rfl, rfl⟩
          · rw [hfr 21 i (by omega), hfr 22 i (by omega), hfr 23 i (by omega), hfr 24 i (by omega), hfr 25 i (by omega), hfr (5 + i) 0 (by omega), hfr (5 + i) 1 (by omega), hfr (5 + i) 2 (by omega), hfr (5 + i) 3 (by omega), hfr (5 + i) 4 (by omega)]
            exact s i hi
        have hF : RFx M2 := fun i hi => by
          by_cases hin : i = n
          · subst hin
            have h1 := u i hi (by omega)
            have h2 := f i hi
            rw [hfr 27 i (by omega), hfr (5 + i) 6 (by omega)]
            rcases h2 with h2 | ⟨h2, h3, h4, h5, h6, h7, h8⟩
            · exact Or.inl h2
            · omega
          · rw [hfr 27 i (by omega), hfr (5 + i) 6 (by omega), hfr (5 + i) 7 (by omega), hfr (5 + i) 8 (by omega), hfr 21 i (by omega), hfr 16 1 (by omega)]
            exact f i hi
        have hO : RO M2 := fun i hi => by
          rw [w162] at hi
          by_cases hin : i = n
          · subst hin
            rw [w21, w23, w25]
            exact ⟨p1.1, p3.1, p5.1⟩
          · rw [hfr 21 i (by omega), hfr 23 i (by omega), hfr 25 i (by omega)]
            exact o i (by omega)
        have hU : Un M2 := fun i hi h => by
          rw [w162] at h
          rw [hfr 27 i (by omega)]
          exact u i hi (by omega)
        refine ⟨⟨a.t ?_ ?_, hB, c.t (fun j hj => ⟨?_, ?_⟩), d.t (fun j hj => ⟨?_, ?_⟩), t.t ?_ ?_ ?_ (fun k => ⟨?_, ?_⟩), hS, w.t (fun i hi => ⟨?_, ?_⟩), hF, hO⟩, hU, Pn.no hp1 hp2⟩ <;> exact hfr _ _ (by omega)
    · rw [if_neg hlt]
      have e4 : M 16 2 = 4 := by
        rw [m162, show n = 4 by omega]
        decide
      refine ⟨2, 0, M, 0, mw M 16 0 2, rfl, Or.inr (Or.inr rfl), ?_, ?_, fun e => absurd e (by decide), (Zf.w 2).inv hI⟩
      · rw [ship4_ok N hok]
        unfold fX4_ship_57 fX4_ship_82
        rw [if_neg (by decide), if_pos e4, lq_e, mw_i, if_neg (by decide)]
      · rw [mw_i]
        rfl
  · refine ⟨1, 0, M, 0, mw M 16 0 1, ship3_no N hok M, Or.inr (Or.inl rfl), ship4_no N hok M, ?_, fun e => absurd e (by decide), (Zf.w 1).inv hI⟩
    rw [mw_i]
    rfl
