theorem lst17 (N : Nat) (hN : 100 ≤ N) {M : Mem} (hM : Mw M) {n : Nat} (hn4 : n ≤ 4) : ∀ (k n1 : Nat) (M' : Mem) (Lr : Nat → Int), k ≤ n → k < n1 → Ag M M' → (∀ t, k ≤ t → t ≤ n → M' 30 t = zI (Lr t)) → Lr n = 0 → (∀ t, k ≤ t → t < n → ∃ y : Int, -1500 ≤ y ∧ y ≤ 1500 ∧ (∀ a, a < 96 → rMay M t a → y ≤ rCost M t a) ∧ Lr t = Lr (t + 1) + y) →
    (∃ M'' : Mem, fX4_search_17 N n1 (zI ((k : Int) - 1)) M' = some (0, M'') ∧ Ag M M'' ∧ ∃ s, s < n ∧ ∀ a, a < 96 → ¬ rMay M s a) ∨ (∃ (M'' : Mem) (Lr' : Nat → Int), fX4_search_17 N n1 (zI ((k : Int) - 1)) M' = fX4_search_71 N N 1000000000 0 (mw M'' 29 0 (zI (-1))) ∧ Ag M M'' ∧ rLr M n Lr' ∧ ∀ t, t ≤ n → M'' 30 t = zI (Lr' t)) := by
  intro k
  induction k with
  | zero =>
    intro n1 M' Lr hk hn1 hA h30 hL0 hL
    obtain ⟨n1, rfl⟩ : ∃ z, n1 = z + 1 := ⟨n1 - 1, by omega⟩
    refine Or.inr ⟨M', Lr, ?_, hA, ⟨hL0, fun s hs => hL s (by omega) hs⟩, fun t ht => h30 t (by omega) ht⟩
    have c0 : (0 : Int32).toNatClampNeg = 0 := by decide
    have g0 : ∀ k : Option (Int32 × Mem), gd (0 : Int32) 4 k = k := fun k => by rw [i0]; exact gd_z k (by omega) (by omega) (by omega)
    rw [fX4_search_17_s, if_pos (by rw [i0]; exact (z_lt (by omega) (by omega) (by omega) (by omega)).mpr (by omega)), g0, lq_e, c0, iN1]
  | succ k ih =>
    intro n1 M' Lr hk hn1 hA h30 hL0 hL
    obtain ⟨n1, rfl⟩ : ∃ z, n1 = z + 1 := ⟨n1 - 1, by omega⟩
    have hM2 := hA.mw hM
    obtain ⟨y, y1, y2⟩ := e_leastOf N hN hM2 (i := k) (by omega)
    have ek : zI (((k + 1 : Nat) : Int) - 1) = zI (k : Int) := by congr 1; omega
    rw [ek, fX4_search_17_s, if_neg (fun q => by rw [i0] at q; have := (z_lt (by omega) (by omega) (by omega) (by omega)).mp q; omega), bd_e _ y1, iFar]
    rcases y2 with ⟨h1, h2⟩ | ⟨h1, h2, h3, h4⟩
    · rw [h1, if_pos rfl]
      exact Or.inl ⟨M', rfl, hA, k, by omega, fun a ha hm => h2 a ha ((hA.may k a).mpr hm)⟩
    · rw [if_neg (fun q => by have := (z_eq (by omega) (by omega) (by omega) (by omega)).mp q; omega), z_1, gd_z _ (by omega) (by omega) (by omega), bd_e _ y1, gd_z _ (by omega) (by omega) (by omega), n_cl (by omega), n_cl (by omega), h30 (k + 1) (by omega) (by omega), z_add, lq_e, lq_e, iN1, z_add]
      have ek2 : zI ((k : Int) + -1) = zI ((k : Int) - 1) := by congr 1
      rw [ek2]
      have hup : ∀ t, t ≠ k → va_up Lr k (Lr (k + 1) + y) t = Lr t := fun t ht => va_up_ne Lr _ ht
      have hus : va_up Lr k (Lr (k + 1) + y) k = Lr (k + 1) + y := by simp [va_up]
      refine ih n1 _ (va_up Lr k (Lr (k + 1) + y)) (by omega) (by omega) (hA.w (by decide)) (fun t h5 h6 => ?_) (by rw [hup n (by omega)]; exact hL0) (fun t h5 h6 => ?_)
      · rcases Nat.lt_or_ge k t with q | q
        · rw [mw_o M' _ (by omega), hup t (by omega)]
          exact h30 t (by omega) h6
        · rw [show t = k by omega, mw_i, hus]
      · rcases Nat.lt_or_ge k t with q | q
        · obtain ⟨z, z1, z2, z3, z4⟩ := hL t (by omega) h6
          exact ⟨z, z1, z2, z3, by rw [hup t (by omega), hup (t + 1) (by omega)]; exact z4⟩
        · have : t = k := by omega
          subst this
          exact ⟨y, h1, h2, fun a ha hm => by have := h4 a ha ((hA.may t a).mpr hm); rw [hA.cost] at this; exact this, by rw [hus, hup (t + 1) (by omega)]⟩
theorem e_search (N : Nat) (hN : 200000000 ≤ N) {M : Mem} (hM : Mw M) {n : Nat} (hn : vv M 16 2 = n) (hn4 : n ≤ 4) : ∃ (r : Int32) (M'' : Mem), fX4_search N M = some (r, M'') ∧ Ag M M'' ∧ ((r = 0 ∧ ∀ h, ¬ pl_ok n (mayB M) (clB M) h) ∨ (r = 1 ∧ ∃ g, pl_best n (mayB M) (clB M) (rCost M) g ∧ ∀ j, j < n → M'' 28 j = zI (g j))) := by
  have hA0 : Ag M (mw M 30 n 0) := (Ag.rf M).w (by decide)
  have hv0 : vv (mw M 30 n 0) 16 2 = n := by rw [hA0.v (by decide)]; exact hn
  have e0 : fX4_search N M = fX4_search_17 N N (zI ((n : Int) - 1)) (mw M 30 n 0) := by
    unfold fX4_search
    rw [vv_z M 16 2, hn, gd_z _ (by omega) (by omega) (by omega), n_cl (by omega), lq_e, lq_e, vv_z (mw M 30 n 0) 16 2, hv0, i1, z_sub]
  rw [e0]
  rcases lst17 N (by omega) hM hn4 n N (mw M 30 n 0) (fun _ => 0) (Nat.le_refl _) (by omega) hA0 (fun t h1 h2 => by rw [show t = n by omega, mw_i]; decide) rfl (fun t h1 h2 => by omega) with ⟨M'', h1, h2, s, h3, h4⟩ | ⟨M'', Lr, h1, h2, h3, h4⟩
  · exact ⟨0, M'', h1, h2, Or.inl ⟨rfl, fun h hh => h4 (h s) (hh s h3).1 (mayB_t.mp (hh s h3).2.1)⟩⟩
  · rw [h1]
    have hS : Sm M n Lr (mw M'' 29 0 (zI (-1))) := Sm.w ⟨h2, h4⟩
    rcases Nat.eq_zero_or_pos n with hz | hpos
    · subst hz
      have hT : Tr (mw M'' 29 0 (zI (-1))) 0 (fun _ => 0) := fun j hj => by omega
      have hv2 : vv (mw M'' 29 0 (zI (-1))) 16 2 = (0 : Nat) := by rw [hS.1.v (by decide)]; exact hn
      have ec : fX4_costUpTo N (zI ((0 : Nat) : Int)) (mw M'' 29 0 (zI (-1))) = some (zI 0, mw M'' 29 0 (zI (-1))) := e_costUpTo N (by omega) (hS.1.mw hM) (by omega) hT
      obtain ⟨n1, hn1⟩ : ∃ z, N = z + 1 + 1 := ⟨N - 2, by omega⟩
      obtain ⟨M3, c1, c2, -⟩ := copy_loop N (n := 0) (by omega) (fX4_search_71 N (n1 + 1)) (zI 0) (zI ((0 : Nat) : Int)) 0 0 N (mw M'' 29 0 (zI (-1))) hv2 rfl (by omega)
      have e1 : fX4_search_71 N N 1000000000 0 (mw M'' 29 0 (zI (-1))) = some (1, M3) := by
        rw [show fX4_search_71 N N = fX4_search_71 N (n1 + 1 + 1) by rw [← hn1], fX4_search_71_s, if_neg (by decide), vv_z (mw M'' 29 0 (zI (-1))) 16 2, hv2, if_pos (by decide), bd_e _ ec]
        have e00 : (0 : Int32) = zI ((0 : Nat) : Int) := by decide
        rw [e00, c1, iN1, z_add, fX4_search_71_s, if_pos (by decide), if_neg (by decide)]
      refine ⟨1, M3, e1, fun c hc => (c2 c (by omega)).trans (hS.1 c hc), Or.inr ⟨rfl, fun _ => 0, ⟨fun i hi => by omega, fun h _ => Or.inr ⟨rfl, fun ⟨i, hi, _⟩ => by omega⟩⟩, fun j hj => by omega⟩⟩
    · have hG : Gs M n 0 (fun _ => 0) 0 1000000000 (fun _ => 0) := ⟨Or.inl ⟨rfl, fun h _ hB => by
        rcases hB with ⟨i, hi, _⟩ | ⟨_, q⟩ <;> omega⟩, by omega, by omega⟩
      have hC : ∀ k, k ≤ 3 → 96 * (1 + Cc k) + 1 + 2 ≤ 200000000 := by decide
      obtain ⟨fu, b, g, M3, z1, z2, z3, z4, z5, z6⟩ := lvl N (by omega) hM hn hn4 h3 (n - 1) 0 (by omega) 96 0 (by omega) (fun _ => 0) 1000000000 (fun _ => 0) (mw M'' 29 0 (zI (-1))) N hS (fun j hj => by omega) (fun i hi => by omega) (by rw [mw_i]; rfl) hG (fun h => by omega) (by have := hC (n - 1) (by omega); omega)
      have e2 : fX4_search_71 N N 1000000000 0 (mw M'' 29 0 (zI (-1))) = fX4_search_71 N N (zI 1000000000) (zI ((0 : Nat) : Int)) (mw M'' 29 0 (zI (-1))) := by rw [iFar]; rfl
      obtain ⟨fu, rfl⟩ : ∃ z, fu = z + 1 := ⟨fu - 1, by have := hC (n - 1) (by omega); omega⟩
      rw [e2, z2, fX4_search_71_s, if_pos (by decide), iFar]
      have hall : ∀ h, pl_ok n (mayB M) (clB M) h → pl_B 0 (fun _ => 0) 96 h := fun h hh => Or.inr ⟨fun j hj => by omega, (hh 0 hpos).1⟩
      rcases z5.1 with ⟨w1, w2⟩ | ⟨w1, w2, w3, w4, w5⟩
      · rw [if_pos ((z_le (by omega) (by omega) (by omega) (by omega)).mpr (by omega))]
        exact ⟨0, M3, rfl, z3.1, Or.inl ⟨rfl, fun h hh => w2 h hh (hall h hh)⟩⟩
      · rw [if_neg (fun q => by have := (z_le (by omega) (by omega) (by have := z5.2.1; omega) (by omega)).mp q; omega)]
        exact ⟨1, M3, rfl, z3.1, Or.inr ⟨rfl, g, ⟨w2, fun h hh => by rw [w4]; exact w5 h hh (hall h hh)⟩, z6 w1⟩⟩
