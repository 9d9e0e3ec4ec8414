theorem z_p0 (c : Nat) : zI (c : Int) + 0 = zI (c : Int) := by rw [i0, z_add, Int.add_zero]
theorem shr_loop (N : Nat) {M : Mem} (hI : Inv M) (x1 x2 x3 : Int32) : ∀ (m k n1 n2 c : Nat), (k : Int) + m = vv M 16 1 → m < n1 → m < n2 → ∃ z : Nat, z ≤ c + m ∧ fX0_placesOf_4 N n1 x3 (zI c) (zI k) M = some (zI z, M) ∧ fX4_share_6 N n2 x1 x2 x3 (zI c) (zI k) M = bd (fX4_in N x1 0 1000000 M) (fun r2 M3 => if (r2 = 0 : Prop) then (fX4_share_77 N x1 x2 (zI z) 1 M3) else (bd (fX4_in N x2 0 1000000 M3) (fun r5 M6 => if (r5 = 0 : Prop) then (fX4_share_77 N x1 x2 (zI z) 1 M6) else (if (zI (z : Int) = 0 : Prop) then (fX4_share_77 N x1 x2 (zI z) 2 M6) else (fX4_share_77 N x1 x2 (zI z) 0 M6))))) := by
  have ha := hI.1.1.1
  have e10 := hI.1.1.2
  intro m
  induction m with
  | zero =>
    intro k n1 n2 c hk hn1 hn2
    obtain ⟨n1, rfl⟩ : ∃ q, n1 = q + 1 := ⟨n1 - 1, by omega⟩
    obtain ⟨n2, rfl⟩ : ∃ q, n2 = q + 1 := ⟨n2 - 1, by omega⟩
    have hle : zI (vv M 16 1) ≤ zI (k : Int) := (z_le (by omega) (by omega) (by omega) (by omega)).mpr (by omega)
    refine ⟨c, by omega, ?_, ?_⟩
    · rw [fX0_placesOf_4_s, vv_z M 1 0, e10, if_pos hle]
    · rw [fX4_share_6_s, vv_z M 16 1, if_pos hle]
  | succ m ih =>
    intro k n1 n2 c hk hn1 hn2
    obtain ⟨n1, rfl⟩ : ∃ q, n1 = q + 1 := ⟨n1 - 1, by omega⟩
    obtain ⟨n2, rfl⟩ : ∃ q, n2 = q + 1 := ⟨n2 - 1, by omega⟩
    have hle : ¬ zI (vv M 16 1) ≤ zI (k : Int) := fun q => by have := (z_le (by omega) (by omega) (by omega) (by omega)).mp q; omega
    have e17 : M 2 k = M 17 k := vq (hI.1.2.2.1 k (by omega)).2.2
    rw [fX0_placesOf_4_s, vv_z M 1 0, e10, if_neg hle, gd_z _ (by omega) (by omega) (by omega), n_cl (by omega), fX4_share_6_s, vv_z M 16 1, if_neg hle, gd_z _ (by omega) (by omega) (by omega), n_cl (by omega), e17]
    by_cases h : M 17 k < x3
    · obtain ⟨z, z1, z2, z3⟩ := ih (k + 1) n1 n2 c (by omega) (by omega) (by omega)
      rw [if_pos h, if_pos h, lq_e, lq_e, lq_e, z_1, z_p0]
      exact ⟨z, by omega, z2, z3⟩
    · obtain ⟨z, z1, z2, z3⟩ := ih (k + 1) n1 n2 (c + 1) (by omega) (by omega) (by omega)
      rw [if_neg h, if_neg h, lq_e, lq_e, lq_e, lq_e, z_1, z_1]
      exact ⟨z, by omega, z2, z3⟩
theorem shr_77 (N : Nat) (x1 x2 x4 y : Int32) (hy : ¬ y ≤ 0) (M : Mem) : fX4_share_77 N x1 x2 x4 y M = some (0, mw M 16 0 y) := by
  unfold fX4_share_77
  rw [lq_e, mw_i, if_neg hy]
theorem s_share (N : Nat) (hN : 100 ≤ N) {M : Mem} (hI : Inv M) (x1 x2 x3 : Int32) : ∃ (q : Nat) (r : Int64) (M1 : Mem) (r' : Int64) (M2 : Mem), fX3_share N x1 x2 x3 M = some ((q, r), M1) ∧ (q = 0 ∨ q = 1 ∨ q = 4) ∧ fX4_share N x1 x2 x3 M1 = some (r', M2) ∧ M2 16 0 = hcL_share q ∧ (q = 0 → r = r') ∧ Inv M2 := by
  have ha := hI.1.1.1
  have jm : (1000000 : Int32).toInt = 1000000 := by decide
  obtain ⟨z, z1, z2, z3⟩ := shr_loop N hI x1 x2 x3 (vv M 16 1).toNat 0 N N 0 (by omega) (by omega) (by omega)
  rw [z0n] at z2 z3
  have e4 : fX4_share N x1 x2 x3 M = bd (fX4_in N x1 0 1000000 M) (fun r2 M3 => if (r2 = 0 : Prop) then (fX4_share_77 N x1 x2 (zI z) 1 M3) else (bd (fX4_in N x2 0 1000000 M3) (fun r5 M6 => if (r5 = 0 : Prop) then (fX4_share_77 N x1 x2 (zI z) 1 M6) else (if (zI (z : Int) = 0 : Prop) then (fX4_share_77 N x1 x2 (zI z) 2 M6) else (fX4_share_77 N x1 x2 (zI z) 0 M6))))) := z3
  have e3 : fX0_placesOf N x3 M = some (zI z, M) := z2
  unfold fX3_share
  rw [bd_e _ (e_wiI N x1 t0 jm M)]
  by_cases h1 : 0 ≤ x1.toInt ∧ x1.toInt ≤ 1000000
  · rw [if_pos h1, if_neg (by decide), bd_e _ (e_wiI N x2 t0 jm M)]
    by_cases h2 : 0 ≤ x2.toInt ∧ x2.toInt ≤ 1000000
    · rw [if_pos h2, if_neg (by decide), bd_e _ e3]
      rw [bd_e _ (e_inI N x1 t0 jm M), if_pos h1, if_neg (by decide), bd_e _ (e_inI N x2 t0 jm M), if_pos h2, if_neg (by decide)] at e4
      by_cases hz : zI (z : Int) = 0
      · rw [if_pos hz] at e4 ⊢
        rw [shr_77 N _ _ _ _ (by decide)] at e4
        exact ⟨4, 0, M, 0, _, rfl, Or.inr (Or.inr rfl), e4, by rw [mw_i]; rfl, fun e => absurd e (by decide), (Zf.w 2).inv hI⟩
      · have hzn : z ≠ 0 := fun e => hz (by rw [e]; decide)
        have hg : ¬ (zI (z : Int)).toInt64 = 0 := by
          rw [L_i (by omega), show (0 : Int64) = zL 0 by decide]
          exact fun q => hzn ((L_eq (by omega) (by omega)).mp q)
        rw [if_neg hz] at e4 ⊢
        unfold fX4_share_77 at e4
        rw [lq_e, mw_i, if_pos (by decide), gp_t _ hg] at e4
        rw [gp_t _ hg]
        exact ⟨0, _, M, _, _, rfl, Or.inl rfl, e4, by rw [mw_i]; rfl, fun _ => rfl, (Zf.w 0).inv hI⟩
    · rw [if_neg h2, if_pos rfl]
      rw [bd_e _ (e_inI N x1 t0 jm M), if_pos h1, if_neg (by decide), bd_e _ (e_inI N x2 t0 jm M), if_neg h2, if_pos rfl, shr_77 N _ _ _ _ (by decide)] at e4
      exact ⟨1, 0, M, 0, _, rfl, Or.inr (Or.inl rfl), e4, by rw [mw_i]; rfl, fun e => absurd e (by decide), (Zf.w 1).inv hI⟩
  · rw [if_neg h1, if_pos rfl]
    rw [bd_e _ (e_inI N x1 t0 jm M), if_neg h1, if_pos rfl, shr_77 N _ _ _ _ (by decide)] at e4
    exact ⟨1, 0, M, 0, _, rfl, Or.inr (Or.inl rfl), e4, by rw [mw_i]; rfl, fun e => absurd e (by decide), (Zf.w 1).inv hI⟩
theorem cn_loop (N : Nat) {M : Mem} (hI : Inv M) {M' : Mem} (hV : Vf M M') (x1 : Int32) : ∀ (m k n1 n2 c : Nat), (k : Int) + m = vv M 16 2 → m < n1 → m < n2 → ∃ z : Nat, fX3_fixedShips_4 N n1 (zI c) (zI k) M = some (zI z, M) ∧ fX4_count_64 N n2 x1 (zI c) (zI k) M' = if (x1 = 0 : Prop) then (some (M' 16 1, M')) else (if (x1 = 1 : Prop) then (some (M' 16 2, M')) else (if (x1 = 2 : Prop) then (some (M' 16 3, M')) else (if (x1 = 3 : Prop) then (if ((M' 16 4) = 0 : Prop) then (some (0, M')) else (some (1, M'))) else (if (x1 = 4 : Prop) then (some (zI (z : Int), M')) else (some ((-1), M')))))) := by
  have hb := hI.1.2.1.1
  have e03 := hI.1.2.1.2
  have hF := hI.1.2.2.2.2.2.2.2.1
  have v2 : vv M' 16 2 = vv M 16 2 := hV _ _ (by omega)
  have m162 : M' 16 2 = zI (vv M 16 2) := by rw [vv_z M' 16 2, v2]
  intro m
  induction m with
  | zero =>
    intro k n1 n2 c hk hn1 hn2
    obtain ⟨n1, rfl⟩ : ∃ q, n1 = q + 1 := ⟨n1 - 1, by omega⟩
    obtain ⟨n2, rfl⟩ : ∃ q, n2 = q + 1 := ⟨n2 - 1, by omega⟩
    have hle : zI (vv M 16 2) ≤ zI (k : Int) := (z_le (by omega) (by omega) (by omega) (by omega)).mpr (by omega)
    refine ⟨c, ?_, ?_⟩
    · rw [fX3_fixedShips_4_s, vv_z M 0 3, e03, if_pos hle]
    · rw [fX4_count_64_s, m162, if_pos hle]
  | succ m ih =>
    intro k n1 n2 c hk hn1 hn2
    obtain ⟨n1, rfl⟩ : ∃ q, n1 = q + 1 := ⟨n1 - 1, by omega⟩
    obtain ⟨n2, rfl⟩ : ∃ q, n2 = q + 1 := ⟨n2 - 1, by omega⟩
    have hle : ¬ zI (vv M 16 2) ≤ zI (k : Int) := fun q => by have := (z_le (by omega) (by omega) (by omega) (by omega)).mp q; omega
    have hf := hF k (by omega)
    have m27 : M' 27 k = zI (vv M 27 k) := by rw [vv_z M' 27 k, hV 27 k (by omega)]
    have s2 : fX4_count_64 N (n2 + 1) x1 (zI c) (zI k) M' = if zI (vv M 27 k) < 0 then fX4_count_64 N n2 x1 (zI c) (zI ((k + 1 : Nat) : Int)) M' else fX4_count_64 N n2 x1 (zI ((c + 1 : Nat) : Int)) (zI ((k + 1 : Nat) : Int)) M' := by
      rw [fX4_count_64_s, m162, if_neg hle, gd_z _ (by omega) (by omega) (by omega), n_cl (by omega), m27, lq_e, lq_e, lq_e, lq_e, z_1, z_1, z_p0]
    rw [s2, fX3_fixedShips_4_s, vv_z M 0 3, e03, if_neg hle, gd_z _ (by omega) (by omega) (by omega), n_cl (by omega), vv_z M (5 + k) 6]
    rcases hf with ⟨x1', x2⟩ | ⟨x1', x2, x3, x4, x5, x6, x7⟩
    · obtain ⟨z, z2, z3⟩ := ih (k + 1) n1 n2 c (by omega) (by omega) (by omega)
      rw [x1', x2, ← i0, if_pos rfl, lq_e, z_1, if_pos (by decide)]
      exact ⟨z, z2, z3⟩
    · obtain ⟨z, z2, z3⟩ := ih (k + 1) n1 n2 (c + 1) (by omega) (by omega) (by omega)
      rw [x1', if_neg (by decide), lq_e, lq_e, z_1, z_1, i0, if_neg (fun q => by have := (z_lt (by omega) (by omega) (by omega) (by omega)).mp q; omega)]
      exact ⟨z, z2, z3⟩
theorem s_count (N : Nat) (hN : 100 ≤ N) {M : Mem} (hI : Inv M) (x1 : Int32) : ∃ (r : Int32) (M1 M2 : Mem), fX3_count N x1 M = some (r, M1) ∧ fX4_count N x1 M1 = some (r, M2) ∧ Inv M2 := by
  have ha := hI.1.1.1
  have e10 := hI.1.1.2
  have hb := hI.1.2.1.1
  have hV : Vf M (mw M 16 0 0) := Vf.w 0
  obtain ⟨P, hP⟩ : ∃ P : Nat, vv M 16 1 = P := ⟨(vv M 16 1).toNat, by omega⟩
  have m10 : M 1 0 = zI P := by rw [vv_z M 1 0, e10, hP]
  have k10 : (10 : Int32) = zI 10 := by decide
  have k20 : (20 : Int32) = zI 20 := by decide
  have j10 : (10 : Int32).toInt = 10 := by decide
  have j20 : (20 : Int32).toInt = 20 := by decide
  have j29 : (29 : Int32).toInt = 29 := by decide
  have u10 : ((10 : Int32) + M 1 0 - 1).toInt = 9 + P := by
    rw [m10, k10, i1, z_add, z_sub, z_t (by omega) (by omega)]
    omega
  have u20 : ((20 : Int32) + M 1 0 - 1).toInt = 19 + P := by
    rw [m10, k20, i1, z_add, z_sub, z_t (by omega) (by omega)]
    omega
  have ep : fX3_countOfPlace N x1 M = if 10 ≤ x1.toInt ∧ x1.toInt ≤ 9 + P then gd (x1 - (10 : Int32)) 6 (some (M 2 (x1 - (10 : Int32) : Int32).toNatClampNeg, M)) else if 20 ≤ x1.toInt ∧ x1.toInt ≤ 19 + P then gd (x1 - (20 : Int32)) 6 (some (M 3 (x1 - (20 : Int32) : Int32).toNatClampNeg, M)) else some ((-1), M) := by
    unfold fX3_countOfPlace
    rw [bd_e _ (e_wiI N x1 j10 u10 M)]
    by_cases q1 : 10 ≤ x1.toInt ∧ x1.toInt ≤ 9 + P
    · rw [if_pos q1, if_neg (by decide), if_pos q1]
    · rw [if_neg q1, if_pos rfl, if_neg q1, bd_e _ (e_wiI N x1 j20 u20 M)]
      by_cases q2 : 20 ≤ x1.toInt ∧ x1.toInt ≤ 19 + P
      · rw [if_pos q2, if_neg (by decide), if_pos q2]
      · rw [if_neg q2, if_pos rfl, if_neg q2]
  by_cases hlt : x1 < 10
  · obtain ⟨z, z1, z2⟩ := cn_loop N hI hV x1 (vv M 16 2).toNat 0 N N 0 (by omega) (by omega) (by omega)
    rw [z0n] at z1 z2
    have e4 : fX4_count N x1 M = if (x1 = 0 : Prop) then (some ((mw M 16 0 0) 16 1, mw M 16 0 0)) else (if (x1 = 1 : Prop) then (some ((mw M 16 0 0) 16 2, mw M 16 0 0)) else (if (x1 = 2 : Prop) then (some ((mw M 16 0 0) 16 3, mw M 16 0 0)) else (if (x1 = 3 : Prop) then (if (((mw M 16 0 0) 16 4) = 0 : Prop) then (some (0, mw M 16 0 0)) else (some (1, mw M 16 0 0))) else (if (x1 = 4 : Prop) then (some (zI (z : Int), mw M 16 0 0)) else (some ((-1), mw M 16 0 0)))))) := by
      unfold fX4_count
      rw [lq_e, if_pos hlt]
      exact z2
    have fs : fX3_fixedShips N M = some (zI z, M) := z1
    rw [mw_o _ _ (show ¬ ((16 : Nat) = 16 ∧ (1 : Nat) = 0) by decide), mw_o _ _ (show ¬ ((16 : Nat) = 16 ∧ (2 : Nat) = 0) by decide), mw_o _ _ (show ¬ ((16 : Nat) = 16 ∧ (3 : Nat) = 0) by decide), mw_o _ _ (show ¬ ((16 : Nat) = 16 ∧ (4 : Nat) = 0) by decide)] at e4
    unfold fX3_count
    have hz := (Zf.w (M := M) 0).inv hI
    rw [i_lt, j10] at hlt
    by_cases h0 : x1 = 0
    · rw [if_pos h0] at e4 ⊢
      exact ⟨_, M, _, rfl, e4.trans (by rw [vq (M := M) (c := 16) (k := 1) (c' := 1) (k' := 0) e10.symm]), hz⟩
    · rw [if_neg h0] at e4 ⊢
      by_cases h1 : x1 = 1
      · rw [if_pos h1] at e4 ⊢
        exact ⟨_, M, _, rfl, e4.trans (by rw [vq (M := M) (c := 16) (k := 2) (c' := 0) (k' := 3) hI.1.2.1.2.symm]), hz⟩
      · rw [if_neg h1] at e4 ⊢
        by_cases h2 : x1 = 2
        · rw [if_pos h2] at e4 ⊢
          exact ⟨_, M, _, rfl, e4.trans (by rw [vq (M := M) (c := 16) (k := 3) (c' := 1) (k' := 4) hI.1.2.2.2.2.1.1.2.symm]), hz⟩
        · rw [if_neg h2] at e4 ⊢
          by_cases h3 : x1 = 3
          · rw [if_pos h3] at e4 ⊢
            have e16 : M 16 4 = M 0 4 := vq hI.2.2.1.symm
            rw [e16] at e4
            by_cases h5 : M 0 4 = 0
            · rw [if_pos h5] at e4 ⊢
              exact ⟨_, M, _, rfl, e4, hz⟩
            · rw [if_neg h5] at e4 ⊢
              exact ⟨_, M, _, rfl, e4, hz⟩
          · rw [if_neg h3] at e4 ⊢
            by_cases h4 : x1 = 4
            · rw [if_pos h4] at e4 ⊢
              rw [bd_e _ fs]
              exact ⟨_, M, _, rfl, e4, hz⟩
            · rw [if_neg h4] at e4 ⊢
              have en : fX3_countOfPlace N x1 M = some ((-1), M) := by
                rw [ep, if_neg (by omega), if_neg (by omega)]
              rw [bd_e _ en]
              exact ⟨_, M, _, rfl, e4, hz⟩
  · have hge : 10 ≤ x1.toInt := by
      rw [i_lt, j10] at hlt
      omega
    obtain ⟨v, hv⟩ : ∃ v, v = x1.toInt.toNat := ⟨_, rfl⟩
    have hx := xN (x := x1) (by omega)
    rw [← hv] at hx
    have hrg := i_rng x1
    have hv2 : v < 2147483648 := by omega
    have hxv : x1.toInt = v := by omega
    have hrem : x1 - x1 / (10 : Int32) * (10 : Int32) = zI ((v % 10 : Nat) : Int) := by
      rw [hx, z_n, z_n, show (10 : Int32) = nI 10 by decide]
      exact pk_rem (by omega) (by omega) (by omega)
    have s10 : x1 - (10 : Int32) = zI ((v : Int) - 10) := by rw [hx, k10, z_sub]
    have s20 : x1 - (20 : Int32) = zI ((v : Int) - 20) := by rw [hx, k20, z_sub]
    have hz := (Zf.w (M := M) 0).inv hI
    have ne : ∀ (y : Int32), y.toInt < 10 → ¬ x1 = y := fun y hy e => by rw [e] at hge; omega
    have e3 : fX3_count N x1 M = fX3_countOfPlace N x1 M := by
      unfold fX3_count
      rw [if_neg (ne 0 (by decide)), if_neg (ne 1 (by decide)), if_neg (ne 2 (by decide)), if_neg (ne 3 (by decide)), if_neg (ne 4 (by decide))]
      cases h : fX3_countOfPlace N x1 M with
      | none => rfl
      | some x => rfl
    have wv : (zI ((v % 10 : Nat) : Int)).toInt = ((v % 10 : Nat) : Int) := z_t (by omega) (by omega)
    have hv1 : vv (mw M 16 0 0) 16 1 = P := by rw [hV _ _ (by omega)]; exact hP
    have e4 : fX4_count N x1 M = if v % 10 < P then (if v ≤ 29 then (if 20 ≤ v then gd (x1 - (20 : Int32)) 6 (some (M 18 (x1 - (20 : Int32) : Int32).toNatClampNeg, mw M 16 0 0)) else gd (x1 - (10 : Int32)) 6 (some (M 17 (x1 - (10 : Int32) : Int32).toNatClampNeg, mw M 16 0 0))) else some ((-1), mw M 16 0 0)) else some ((-1), mw M 16 0 0) := by
      unfold fX4_count
      rw [lq_e, if_neg hlt, hrem, bd_e _ (e_isPlace4 N _ _), wv, hv1, mw_n _ (show 18 ≠ 16 by decide), mw_n _ (show 17 ≠ 16 by decide)]
      by_cases q : v % 10 < P
      · rw [if_pos (show 0 ≤ ((v % 10 : Nat) : Int) ∧ ((v % 10 : Nat) : Int) < P by omega), if_neg (by decide), if_pos q]
        by_cases q2 : v ≤ 29
        · rw [if_pos (show x1 ≤ 29 by rw [i_le, j29]; omega), if_pos q2]
          by_cases q3 : 20 ≤ v
          · rw [if_pos (show (20 : Int32) ≤ x1 by rw [i_le, j20]; omega), if_pos q3]
          · rw [if_neg (show ¬ (20 : Int32) ≤ x1 by rw [i_le, j20]; omega), if_neg q3]
        · rw [if_neg (show ¬ x1 ≤ 29 by rw [i_le, j29]; omega), if_neg q2]
      · rw [if_neg (show ¬ (0 ≤ ((v % 10 : Nat) : Int) ∧ ((v % 10 : Nat) : Int) < P) by omega), if_pos rfl, if_neg q]
    rw [e3, ep]
    by_cases A : 10 ≤ x1.toInt ∧ x1.toInt ≤ 9 + P
    · rw [if_pos A, s10, gd_z _ (by omega) (by omega) (by omega), z_cl (by omega) (by omega)]
      rw [if_pos (by omega), if_pos (by omega), if_neg (by omega), s10, gd_z _ (by omega) (by omega) (by omega), z_cl (by omega) (by omega)] at e4
      exact ⟨_, M, _, rfl, e4.trans (by rw [vq (M := M) (c := 17) (c' := 2) (hI.1.2.2.1 ((v : Int) - 10).toNat (by omega)).2.2.symm]), hz⟩
    · rw [if_neg A]
      by_cases B : 20 ≤ x1.toInt ∧ x1.toInt ≤ 19 + P
      · rw [if_pos B, s20, gd_z _ (by omega) (by omega) (by omega), z_cl (by omega) (by omega)]
        rw [if_pos (by omega), if_pos (by omega), if_pos (by omega), s20, gd_z _ (by omega) (by omega) (by omega), z_cl (by omega) (by omega)] at e4
        exact ⟨_, M, _, rfl, e4.trans (by rw [vq (M := M) (c := 18) (c' := 3) (hI.1.2.2.2.1 ((v : Int) - 20).toNat (by omega)).2.2.symm]), hz⟩
      · rw [if_neg B]
        refine ⟨_, M, mw M 16 0 0, rfl, ?_, hz⟩
        rw [e4]
        by_cases q : v % 10 < P
        · rw [if_pos q, if_neg (by omega)]
        · rw [if_neg q]
