theorem dep3 (N : Nat) {b : Nat} (hb : b < 6) (x3 : Int32) : ∀ (m k n1 : Nat) (M' : Mem), k + m = b + 1 → m < n1 → ∃ M'', fX3_depth_42 N n1 (zI b) x3 (zI k) M' = some (1, M'') ∧ (∀ c j, ¬ ((c = 2 ∧ k ≤ j ∧ j ≤ b) ∨ (c = 0 ∧ j = 4)) → M'' c j = M' c j) ∧ M'' 0 4 = 0 ∧ ∀ j, k ≤ j → j ≤ b → M'' 2 j = x3 := by
  intro m
  induction m with
  | zero =>
    intro k n1 M' hk hn1
    obtain ⟨n1, rfl⟩ : ∃ q, n1 = q + 1 := ⟨n1 - 1, by omega⟩
    rw [fX3_depth_42_s, if_pos ((z_lt (by omega) (by omega) (by omega) (by omega)).mpr (by omega)), lq_e]
    exact ⟨_, rfl, fun c j h => mw_o _ _ (by omega), mw_i .., fun j h1 h2 => by omega⟩
  | succ m ih =>
    intro k n1 M' hk hn1
    obtain ⟨n1, rfl⟩ : ∃ q, n1 = q + 1 := ⟨n1 - 1, by omega⟩
    rw [fX3_depth_42_s, if_neg (fun q => by have := (z_lt (by omega) (by omega) (by omega) (by omega)).mp q; omega), gd_z _ (by omega) (by omega) (by omega), lq_e, lq_e, n_cl (by omega), z_1]
    obtain ⟨M'', a1, a2, a3, a4⟩ := ih (k + 1) n1 (mw M' 2 k x3) (by omega) (by omega)
    refine ⟨M'', a1, fun c j h => by rw [a2 c j (by omega), mw_o _ _ (by omega)], a3, fun j h1 h2 => ?_⟩
    rcases Nat.lt_or_ge k j with q | q
    · exact a4 j q h2
    · rw [show j = k by omega, a2 _ _ (by omega), mw_i]
theorem dep4 (N : Nat) {b : Nat} (hb : b < 6) (x3 : Int32) : ∀ (m k n1 : Nat) (M' : Mem), k + m = b + 1 → m < n1 → ∃ M'', fX4_depth_41 N n1 (zI b) x3 (zI k) M' = some (1, M'') ∧ (∀ c j, ¬ ((c = 17 ∧ k ≤ j ∧ j ≤ b) ∨ (c = 16 ∧ j = 4)) → M'' c j = M' c j) ∧ M'' 16 4 = 0 ∧ ∀ j, k ≤ j → j ≤ b → M'' 17 j = x3 := by
  intro m
  induction m with
  | zero =>
    intro k n1 M' hk hn1
    obtain ⟨n1, rfl⟩ : ∃ q, n1 = q + 1 := ⟨n1 - 1, by omega⟩
    rw [fX4_depth_41_s, if_pos ((z_lt (by omega) (by omega) (by omega) (by omega)).mpr (by omega)), lq_e]
    exact ⟨_, rfl, fun c j h => mw_o _ _ (by omega), mw_i .., fun j h1 h2 => by omega⟩
  | succ m ih =>
    intro k n1 M' hk hn1
    obtain ⟨n1, rfl⟩ : ∃ q, n1 = q + 1 := ⟨n1 - 1, by omega⟩
    rw [fX4_depth_41_s, if_neg (fun q => by have := (z_lt (by omega) (by omega) (by omega) (by omega)).mp q; omega), gd_z _ (by omega) (by omega) (by omega), lq_e, lq_e, n_cl (by omega), z_1]
    obtain ⟨M'', a1, a2, a3, a4⟩ := ih (k + 1) n1 (mw M' 17 k x3) (by omega) (by omega)
    refine ⟨M'', a1, fun c j h => by rw [a2 c j (by omega), mw_o _ _ (by omega)], a3, fun j h1 h2 => ?_⟩
    rcases Nat.lt_or_ge k j with q | q
    · exact a4 j q h2
    · rw [show j = k by omega, a2 _ _ (by omega), mw_i]
theorem s_depth (N : Nat) (hN : 100 ≤ N) {M : Mem} (hI : Inv M) (p q x : Int32) : ∃ (r : Int32) (M1 M2 : Mem), fX3_depth N p q x M = some (r, M1) ∧ fX4_depth N p q x M1 = some (r, M2) ∧ Inv M2 := by
  obtain ⟨⟨a, b, c, d, t, s, w, f, o⟩, u, -⟩ := id hI
  have hz : Inv (mw M 16 0 0) := (Zf.w 0).inv hI
  have e100 : (100 : Int32).toInt = 100 := by decide
  have ha := a.1
  unfold fX3_depth fX4_depth
  rw [bd_e _ (e_isPlace0 N p M), a.2]
  by_cases h1 : 0 ≤ p.toInt ∧ p.toInt < vv M 16 1
  · rw [if_pos h1, if_neg (by decide), bd_e _ (e_isPlace0 N q M), a.2]
    by_cases h2 : 0 ≤ q.toInt ∧ q.toInt < vv M 16 1
    · rw [if_pos h2, if_neg (by decide)]
      by_cases h3 : q < p
      · rw [if_pos h3]
        refine ⟨0, M, mw M 16 0 0, rfl, ?_, hz⟩
        rw [lq_e, bd_e _ (e_isPlace4 N _ _), vmo _ _ (by decide), if_pos h1, if_neg (by decide), bd_e _ (e_isPlace4 N _ _), vmo _ _ (by decide), if_pos h2, if_neg (by decide), if_pos h3]
      · rw [if_neg h3, bd_e _ (e_wiI N x t0 e100 M)]
        by_cases h4 : 0 ≤ x.toInt ∧ x.toInt ≤ 100
        · rw [if_pos h4, if_neg (by decide)]
          obtain ⟨i, hi⟩ : ∃ i, i = p.toInt.toNat := ⟨_, rfl⟩
          obtain ⟨j, hj⟩ : ∃ j, j = q.toInt.toNat := ⟨_, rfl⟩
          have hp := xN h1.1
          have hq := xN h2.1
          rw [← hi] at hp
          rw [← hj] at hq
          subst hp
          subst hq
          rw [i_lt] at h3
          have h3' : ¬ zI (j : Int) < zI (i : Int) := by rw [i_lt]; exact h3
          obtain ⟨M1, a1, a2, a3, a4⟩ := dep3 N (b := j) (by omega) x (j + 1 - i) i N M (by omega) (by omega)
          obtain ⟨M2, b1, b2, b3, b4⟩ := dep4 N (b := j) (by omega) x (j + 1 - i) i N (mw M1 16 0 0) (by omega) (by omega)
          have e16 : vv M1 16 1 = vv M 16 1 := by unfold vv; rw [a2 16 1 (by omega)]
          refine ⟨1, M1, M2, a1, ?_, ?_⟩
          · rw [lq_e, bd_e _ (e_isPlace4 N _ _), vmo _ _ (by decide), e16, if_pos h1, if_neg (by decide), bd_e _ (e_isPlace4 N _ _), vmo _ _ (by decide), e16, if_pos h2, if_neg (by decide), if_neg h3', bd_e _ (e_inI N _ t0 e100 _), if_pos h4, if_neg (by decide)]
            exact b1
          · have hfr : ∀ c k, ¬ ((c = 2 ∧ i ≤ k ∧ k ≤ j) ∨ (c = 17 ∧ i ≤ k ∧ k ≤ j) ∨ (c = 0 ∧ k = 4) ∨ (c = 16 ∧ (k = 0 ∨ k = 4))) → vv M2 c k = vv M c k := fun c k h => by
              unfold vv
              rw [b2 c k (by omega), mw_o _ _ (by omega), a2 c k (by omega)]
            have hp1 : vv M2 0 4 = 0 := by
              unfold vv
              rw [b2 0 4 (by omega), mw_n _ (by decide), a3, t0]
            have hp2 : vv M2 16 4 = 0 := by unfold vv; rw [b3, t0]
            have hC : RC M2 := fun k hk => by
              by_cases hik : i ≤ k ∧ k ≤ j
              · have v1 : vv M2 17 k = x.toInt := by unfold vv; rw [b4 k hik.1 hik.2]
                have v2 : vv M2 2 k = x.toInt := by unfold vv; rw [b2 2 k (by omega), mw_n _ (by decide), a4 k hik.1 hik.2]
                rw [v1, v2]; omega
              · rw [hfr 17 k (by omega), hfr 2 k (by omega)]
                exact c k hk
            refine ⟨⟨a.t ?_ ?_, b.t ?_ ?_, hC, d.t (fun j hj => ⟨?_, ?_⟩), t.t ?_ ?_ ?_ (fun k => ⟨?_, ?_⟩), s.t (fun i hi => ⟨?_, ?_, ?_, ?_, ?_, ?_, ?_, ?_, ?_, ?_⟩), w.t (fun i hi => ⟨?_, ?_⟩), f.t ?_ (fun i hi => ⟨?_, ?_, ?_, ?_, ?_⟩), o.t ?_ (fun i => ⟨?_, ?_, ?_⟩)⟩, u.t ?_ (fun i hi => ?_), Pn.no hp1 hp2⟩ <;> exact hfr _ _ (by omega)
        · rw [if_neg h4, if_pos rfl]
          refine ⟨0, M, mw M 16 0 0, rfl, ?_, hz⟩
          rw [lq_e, bd_e _ (e_isPlace4 N _ _), vmo _ _ (by decide), if_pos h1, if_neg (by decide), bd_e _ (e_isPlace4 N _ _), vmo _ _ (by decide), if_pos h2, if_neg (by decide), if_neg h3, bd_e _ (e_inI N _ t0 e100 _), if_neg h4, if_pos rfl]
    · rw [if_neg h2, if_pos rfl]
      refine ⟨0, M, mw M 16 0 0, rfl, ?_, hz⟩
      rw [lq_e, bd_e _ (e_isPlace4 N _ _), vmo _ _ (by decide), if_pos h1, if_neg (by decide), bd_e _ (e_isPlace4 N _ _), vmo _ _ (by decide), if_neg h2, if_pos rfl]
  · rw [if_neg h1, if_pos rfl]
    refine ⟨0, M, mw M 16 0 0, rfl, ?_, hz⟩
    rw [lq_e, bd_e _ (e_isPlace4 N _ _), vmo _ _ (by decide), if_neg h1, if_pos rfl]
theorem s_free (N : Nat) {M : Mem} (hI : Inv M) (p : Int32) : ∃ (r : Int32) (M1 M2 : Mem), fX3_free N p M = some (r, M1) ∧ fX4_free N p M1 = some (r, M2) ∧ Inv M2 := by
  obtain ⟨⟨a, b, c, d, t, s, w, f, o⟩, u, -⟩ := id hI
  have hz : Inv (mw M 16 0 0) := (Zf.w 0).inv hI
  unfold fX3_free fX4_free
  rw [bd_e _ (e_isShip3 N p M), b.2]
  by_cases h1 : 0 ≤ p.toInt ∧ p.toInt < vv M 16 2
  · obtain ⟨q, hq⟩ : ∃ q, q = p.toInt.toNat := ⟨_, rfl⟩
    have hp := xN h1.1
    rw [← hq] at hp
    subst hp
    have hb := b.1
    have hq4 : q < 4 := by omega
    rw [if_pos h1, if_neg (by decide), gd_z _ (by omega) (by omega) (by omega), n_cl (by omega), vv_z M (5 + q) 6, i0]
    rcases f q hq4 with ⟨x1, x2⟩ | ⟨x1, x2, x3, x4, x5, x6, x7⟩
    · rw [if_pos ((z_eq (by omega) (by omega) (by omega) (by omega)).mpr x1), ← i0]
      refine ⟨0, M, mw M 16 0 0, rfl, ?_, hz⟩
      rw [lq_e, bd_e _ (e_isShip4 N _ _), vmo _ _ (by decide), if_pos h1, if_neg (by decide), gd_z _ (by omega) (by omega) (by omega), mw_n _ (by decide), vv_z M 27 q, x2, if_neg (by decide)]
    · rw [if_neg (fun e => by have := (z_eq (by omega) (by omega) (by omega) (by omega)).mp e; omega), ← i0, gd_z _ (by omega) (by omega) (by omega), lq_e, lq_e]
      refine ⟨1, _, mw (mw (mw (mw (mw M (5 + q) 6 0) 0 4 0) 16 0 0) 27 q (-1)) 16 4 0, rfl, ?_, ?_⟩
      · rw [lq_e, bd_e _ (e_isShip4 N _ _), vmo _ _ (by decide), vmo _ _ (by omega), vmo _ _ (by omega), if_pos h1, if_neg (by decide), gd_z _ (by omega) (by omega) (by omega), mw_n _ (by decide), mw_n _ (by decide), mw_n _ (by omega), vv_z M 27 q, if_pos (by rw [i0]; exact (z_le (by omega) (by omega) (by omega) (by omega)).mpr (by omega)), gd_z _ (by omega) (by omega) (by omega), lq_e, lq_e]
      · have hfr : ∀ c k, ¬ ((c = 5 + q ∧ k = 6) ∨ (c = 0 ∧ k = 4) ∨ (c = 16 ∧ k = 0) ∨ (c = 27 ∧ k = q) ∨ (c = 16 ∧ k = 4)) → vv (mw (mw (mw (mw (mw M (5 + q) 6 0) 0 4 0) 16 0 0) 27 q (-1)) 16 4 0) c k = vv M c k := fun c k h => by
          rw [vmo _ _ (by omega), vmo _ _ (by omega), vmo _ _ (by omega), vmo _ _ (by omega), vmo _ _ (by omega)]
        have hp1 : vv (mw (mw (mw (mw (mw M (5 + q) 6 0) 0 4 0) 16 0 0) 27 q (-1)) 16 4 0) 0 4 = 0 := by
          rw [vmo _ _ (by omega), vmo _ _ (by omega), vmo _ _ (by omega), vmi, t0]
        have hp2 : vv (mw (mw (mw (mw (mw M (5 + q) 6 0) 0 4 0) 16 0 0) 27 q (-1)) 16 4 0) 16 4 = 0 := by rw [vmi, t0]
        have n1 : (-1 : Int32).toInt = -1 := by decide
        have v27 : vv (mw (mw (mw (mw (mw M (5 + q) 6 0) 0 4 0) 16 0 0) 27 q (-1)) 16 4 0) 27 q = -1 := by
          rw [vmo _ _ (by omega), vmi, n1]
        have hF : RFx (mw (mw (mw (mw (mw M (5 + q) 6 0) 0 4 0) 16 0 0) 27 q (-1)) 16 4 0) := fun j hj => by
          by_cases hjq : j = q
          · subst hjq
            refine Or.inl ⟨?_, v27⟩
            rw [vmo _ _ (by omega), vmo _ _ (by omega), vmo _ _ (by omega), vmo _ _ (by omega), vmi, t0]
          · rw [hfr 27 j (by omega), hfr (5 + j) 6 (by omega), hfr (5 + j) 7 (by omega), hfr (5 + j) 8 (by omega), hfr 21 j (by omega), hfr 16 1 (by omega)]
            exact f j hj
        have hU : Un (mw (mw (mw (mw (mw M (5 + q) 6 0) 0 4 0) 16 0 0) 27 q (-1)) 16 4 0) := fun j hj h => by
          by_cases hjq : j = q
          · subst hjq; exact v27
          · rw [hfr 16 2 (by omega)] at h
            rw [hfr 27 j (by omega)]
            exact u j hj h
        refine ⟨⟨a.t ?_ ?_, b.t ?_ ?_, c.t (fun j hj => ⟨?_, ?_⟩), d.t (fun j hj => ⟨?_, ?_⟩), t.t ?_ ?_ ?_ (fun k => ⟨?_, ?_⟩), s.t (fun i hi => ⟨?_, ?_, ?_, ?_, ?_, ?_, ?_, ?_, ?_, ?_⟩), w.t (fun i hi => ⟨?_, ?_⟩), hF, o.t ?_ (fun i => ⟨?_, ?_, ?_⟩)⟩, hU, Pn.no hp1 hp2⟩ <;> exact hfr _ _ (by omega)
  · rw [if_neg h1, if_pos rfl]
    refine ⟨0, M, mw M 16 0 0, rfl, ?_, hz⟩
    rw [lq_e, bd_e _ (e_isShip4 N _ _), vmo _ _ (by decide), if_neg h1, if_pos rfl]
theorem tide25_0 (N : Nat) (x1 x2 : Int32) (M : Mem) : fX3_tide_25 N x1 x2 0 M = some (0, M) := by unfold fX3_tide_25; rw [if_pos rfl]
theorem s_tide (N : Nat) {M : Mem} (hI : Inv M) (p q : Int32) : ∃ (r : Int32) (M1 M2 : Mem), fX3_tide N p q M = some (r, M1) ∧ fX4_tide N p q M1 = some (r, M2) ∧ Inv M2 := by
  obtain ⟨⟨a, b, c, d, t, s, w, f, o⟩, u, -⟩ := id hI
  have hz : Inv (mw M 16 0 0) := (Zf.w 0).inv hI
  have e39 : (39 : Int32).toInt = 39 := by decide
  unfold fX3_tide fX4_tide
  rw [bd_e _ (e_wiI N p t0 e39 M)]
  by_cases h1 : 0 ≤ p.toInt ∧ p.toInt ≤ 39
  · rw [if_pos h1, if_neg (by decide), bd_e _ (e_wiI N q t0 e39 M)]
    have r1 : ∀ (k : Int32 → Mem → Option (Int32 × Mem)) (M1 : Mem), bd (fX4_in N p 0 39 M1) k = k 1 M1 := fun k M1 => by rw [bd_e _ (e_inI N _ t0 e39 _), if_pos h1]
    by_cases h2 : p.toInt ≤ q.toInt ∧ q.toInt ≤ 39
    · have h2' : 0 ≤ q.toInt ∧ q.toInt ≤ 39 := by omega
      have r2 : ∀ (k : Int32 → Mem → Option (Int32 × Mem)) (M1 : Mem), bd (fX4_in N q p 39 M1) k = k 1 M1 := fun k M1 => by rw [bd_e _ (e_inI N _ rfl e39 _), if_pos h2]
      obtain ⟨⟨⟨t1a, t1b⟩, t2⟩, t3, t4, t5, t6⟩ := id t
      rw [if_pos h2', if_neg (by decide)]
      unfold fX3_tide_25
      have e8 : (8 : Int32) = zI 8 := by decide
      rw [if_neg (by decide), if_neg (by rw [i_lt]; omega), vv_z M 1 4, t2, e8]
      by_cases h3 : vv M 16 3 < 8
      · obtain ⟨n, hn⟩ : ∃ n : Nat, vv M 16 3 = n := ⟨(vv M 16 3).toNat, by omega⟩
        have hbb : fX3_beginsBetween N p q M = some (nI (hmask p.toInt q.toInt), M) := by
          have := e_bb N (a := p.toInt) (b := q.toInt) (by omega) (by omega) (by omega) (by omega) M
          rw [z_i, z_i] at this
          exact this
        rw [if_pos ((z_lt (by omega) (by omega) (by omega) (by omega)).mpr h3), bd_e _ hbb, lq_e, lq_e, lq_e, vv_n (M := M) (c := 1) (k := 3) t4, n_or, mw_o _ _ (by decide), vv_z M 1 4, t2, hn, z_1, ← e8]
        have m163 : M 16 3 = zI (n : Int) := by rw [vv_z M 16 3, hn]
        refine ⟨1, _, mw (mw (mw (mw (mw (mw (mw (mw M 1 3 (nI ((vv M 1 3).toNat ||| hmask p.toInt q.toInt))) 1 4 (zI ((n + 1 : Nat) : Int))) 0 4 0) 16 0 0) 19 n p) 20 n q) 16 3 (zI ((n + 1 : Nat) : Int))) 16 4 0, rfl, ?_, ?_⟩
        · rw [lq_e, r1, if_neg (by decide), r2, if_neg (by decide), mw_o _ _ (by decide), mw_n _ (by decide), mw_n _ (by decide), mw_n _ (by decide), m163, if_neg (by rw [e8]; exact fun e => by have := (z_eq (by omega) (by omega) (by omega) (by omega)).mp e; omega), gd_z _ (by omega) (by omega) (by omega), lq_e, n_cl (by omega), mw_n _ (by decide), mw_o _ _ (by decide), mw_n _ (by decide), mw_n _ (by decide), mw_n _ (by decide), m163, gd_z _ (by omega) (by omega) (by omega), lq_e, n_cl (by omega), lq_e, lq_e, mw_n _ (by decide), mw_n _ (by decide), mw_o _ _ (by decide), mw_n _ (by decide), mw_n _ (by decide), mw_n _ (by decide), m163, z_1]
        · generalize hMM : mw (mw (mw (mw (mw (mw (mw (mw M 1 3 (nI ((vv M 1 3).toNat ||| hmask p.toInt q.toInt))) 1 4 (zI ((n + 1 : Nat) : Int))) 0 4 0) 16 0 0) 19 n p) 20 n q) 16 3 (zI ((n + 1 : Nat) : Int))) 16 4 0 = M2
          have hfr : ∀ c k, ¬ ((c = 1 ∧ (k = 3 ∨ k = 4)) ∨ (c = 0 ∧ k = 4) ∨ (c = 16 ∧ (k = 0 ∨ k = 3 ∨ k = 4)) ∨ (c = 19 ∧ k = n) ∨ (c = 20 ∧ k = n)) → vv M2 c k = vv M c k := fun c k h => by
            rw [← hMM, vmo _ _ (by omega), vmo _ _ (by omega), vmo _ _ (by omega), vmo _ _ (by omega), vmo _ _ (by omega), vmo _ _ (by omega), vmo _ _ (by omega), vmo _ _ (by omega)]
          have hp1 : vv M2 0 4 = 0 := by
            rw [← hMM, vmo _ _ (by omega), vmo _ _ (by omega), vmo _ _ (by omega), vmo _ _ (by omega), vmo _ _ (by omega), vmi, t0]
          have hp2 : vv M2 16 4 = 0 := by rw [← hMM, vmi, t0]
          have hlt : (vv M 1 3).toNat ||| hmask p.toInt q.toInt < 65536 := Nat.or_lt_two_pow (n := 16) (by omega) (hmask_lt _ _)
          have w163 : vv M2 16 3 = (n : Int) + 1 := by rw [← hMM, vmo _ _ (by omega), vmi, z_t (by omega) (by omega)]; omega
          have w14 : vv M2 1 4 = (n : Int) + 1 := by rw [← hMM, vmo _ _ (by omega), vmo _ _ (by omega), vmo _ _ (by omega), vmo _ _ (by omega), vmo _ _ (by omega), vmo _ _ (by omega), vmi, z_t (by omega) (by omega)]; omega
          have w13 : vv M2 1 3 = (((vv M 1 3).toNat ||| hmask p.toInt q.toInt : Nat) : Int) := by rw [← hMM, vmo _ _ (by omega), vmo _ _ (by omega), vmo _ _ (by omega), vmo _ _ (by omega), vmo _ _ (by omega), vmo _ _ (by omega), vmo _ _ (by omega), vmi, vn (by omega)]
          have w19 : vv M2 19 n = p.toInt := by rw [← hMM, vmo _ _ (by omega), vmo _ _ (by omega), vmo _ _ (by omega), vmi]
          have w20 : vv M2 20 n = q.toInt := by rw [← hMM, vmo _ _ (by omega), vmo _ _ (by omega), vmi]
          have hT : RT M2 := by
            refine ⟨⟨⟨by omega, by omega⟩, by omega⟩, fun k hk => ?_, by omega, by omega, fun h hh => ?_⟩
            · by_cases hkn : k = n
              · subst hkn
                rw [w19, w20]; omega
              · rw [hfr 19 k (by omega), hfr 20 k (by omega)]
                exact t3 k hk
            · rw [w13, Int.toNat_natCast, Nat.testBit_or, Bool.or_eq_true, t6 h hh, hmask_b _ _ hh, decide_eq_true_iff, w163, hn]
              constructor
              · rintro (⟨k, k1, k2, k3⟩ | hq)
                · exact ⟨k, by omega, by rw [hfr 19 k (by omega)]; exact k2, by rw [hfr 20 k (by omega)]; exact k3⟩
                · exact ⟨n, by omega, by rw [w19]; exact hq.1, by rw [w20]; exact hq.2⟩
              · rintro ⟨k, k1, k2, k3⟩
                by_cases hkn : k = n
                · subst hkn
                  rw [w19] at k2
                  rw [w20] at k3
                  exact Or.inr ⟨k2, k3⟩
                · rw [hfr 19 k (by omega)] at k2
                  rw [hfr 20 k (by omega)] at k3
                  exact Or.inl ⟨k, by omega, k2, k3⟩
          refine ⟨⟨a.t ?_ ?_, b.t ?_ ?_, c.t (fun j hj => ⟨?_, ?_⟩), d.t (fun j hj => ⟨?_, ?_⟩), hT, s.t (fun i hi => ⟨?_, ?_, ?_, ?_, ?_, ?_, ?_, ?_, ?_, ?_⟩), w.t (fun i hi => ⟨?_, ?_⟩), f.t ?_ (fun i hi => ⟨?_, ?_, ?_, ?_, ?_⟩), o.t ?_ (fun i => ⟨?_, ?_, ?_⟩)⟩, u.t ?_ (fun i hi => ?_), Pn.no hp1 hp2⟩ <;> exact hfr _ _ (by omega)
      · rw [if_neg (fun e => h3 ((z_lt (by omega) (by omega) (by omega) (by omega)).mp e)), ← e8]
        refine ⟨0, M, mw M 16 0 0, rfl, ?_, hz⟩
        have m163 : M 16 3 = 8 := by rw [vv_z M 16 3, e8]; congr 1; omega
        rw [lq_e, r1, if_neg (by decide), r2, if_neg (by decide), mw_o _ _ (by decide), m163, if_pos rfl]
    · have hc : ∃ M1, (if (if 0 ≤ q.toInt ∧ q.toInt ≤ 39 then (1 : Int32) else 0) = 0 then fX3_tide_25 N p q 0 M else fX3_tide_25 N p q 1 M) = some (0, M1) ∧ M1 = M := by
        by_cases h3 : 0 ≤ q.toInt ∧ q.toInt ≤ 39
        · rw [if_pos h3, if_neg (by decide)]
          unfold fX3_tide_25
          rw [if_neg (by decide), if_pos (by rw [i_lt]; omega)]
          exact ⟨M, rfl, rfl⟩
        · rw [if_neg h3, if_pos rfl, tide25_0]
          exact ⟨M, rfl, rfl⟩
      obtain ⟨M1, hc1, rfl⟩ := hc
      refine ⟨0, M1, mw M1 16 0 0, hc1, ?_, hz⟩
      rw [lq_e, r1, if_neg (by decide), bd_e _ (e_inI N _ rfl e39 _), if_neg h2, if_pos rfl]
  · rw [if_neg h1, if_pos rfl, tide25_0]
    refine ⟨0, M, mw M 16 0 0, rfl, ?_, hz⟩
    rw [lq_e, bd_e _ (e_inI N _ t0 e39 _), if_neg h1, if_pos rfl]
