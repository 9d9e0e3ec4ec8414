theorem rest_25 (N : Nat) (hN : 100 ≤ N) {M : Mem} (hR : Re M) {n : Nat} (hn : vv M 16 2 = n) (hn4 : n ≤ 4) {lev left : Nat} {f : Nat → Nat} {last : Int} {kR : Int32 → Int32 → Int32 → Mem → Option (Int32 × Mem)} (hK : Kr M n (lev + 1) kR) (hleft : left < 16) (hln : ∀ i, left.testBit i = true → i < n) (hlv : lev + popc left = n) (hLd : Ld M n left f) (hl1 : -1 ≤ last) (hl2 : last ≤ 100) {i : Nat} (hi : i < n) (hb : left.testBit i = true) (k13 : Int32 → Int32 → Int32 → Int32 → Mem → Option (Int32 × Mem)) : ∀ (m k n1 : Nat) (M' : Mem) (b : Int) (g : Nat → Nat), (k : Int) + m = vv M 16 1 → m < n1 → Sq M n lev left f M' → St M M' n b g →
    ∃ M'', fX1_berthRest_25 N kR k13 n1 (nI left) (zI (laS M left f n)) (zI last) (zI i) (zI k) M' = k13 (nI left) (zI (laS M left f n)) (zI last) (zI ((i + 1 : Nat) : Int)) M'' ∧ Go M n lev left f last b g M' (fun h => k ≤ h i % 6 ∧ ∀ j, j < n → left.testBit j = true → trn i (h i) ≤ trn j (h j)) M'' := by
  have h6 := hR.1.1
  intro m
  induction m with
  | zero =>
    intro k n1 M' b g hk hn1 hS hst
    obtain ⟨n1, rfl⟩ : ∃ q, n1 = q + 1 := ⟨n1 - 1, by omega⟩
    refine ⟨M', ?_, ⟨hS.1, fun _ _ => rfl, fun _ _ _ => ⟨rfl, rfl⟩, fun _ _ => rfl⟩, b, g, hst, fun h hh => hh, fun h hT hE => ?_⟩
    · rw [fX1_berthRest_25_s, vv_z M' 9 7, hS.1.2.2.2, if_pos ((z_le (by omega) (by omega) (by omega) (by omega)).mpr (by omega)), lq_e, z_1]
    · have := (tg_opn hR hn hn4 hT.1 hT.2.2.1 hi hb (hS.2.2 i hi hb)).1
      have := hE.1
      omega
  | succ m ih =>
    intro k n1 M' b g hk hn1 hS hst
    obtain ⟨n1, rfl⟩ : ∃ q, n1 = q + 1 := ⟨n1 - 1, by omega⟩
    have hhb : fX3_hasBit N (nI left) (zI (i : Int)) M' = some (1, M') := by
      rw [z_n, e_hasBit N (by omega) (by omega) M', hb]; rfl
    obtain ⟨M1, a1, a2, b1, g1, a3, a4, a5⟩ := e_try N hN hR hn hn4 hK hleft hln hlv hLd hS hst hl1 hl2 hi hb (p := k) (by omega)
    obtain ⟨M2, c1, c2, b2, g2, c3, c4, c5⟩ := ih (k + 1) n1 M1 b1 g1 (by omega) (by omega) (a2.sq h6.2 hn4 hS) a3
    refine ⟨M2, ?_, a2.tr c2, b2, g2, c3, fun h hh => c4 h (a4 h hh), fun h hT hE => ?_⟩
    · rw [fX1_berthRest_25_s, vv_z M' 9 7, hS.1.2.2.2, if_neg (fun q => by have := (z_le (by omega) (by omega) (by omega) (by omega)).mp q; omega), bd_e _ hhb, if_neg (by decide), bd_e _ a1, lq_e, z_1]
      exact c1
    · rcases Nat.lt_or_ge k (h i % 6) with q | q
      · exact c5 h hT ⟨q, hE.2⟩
      · exact c4 h (a5 h hT ⟨by have := hE.1; omega, hE.2⟩)
theorem rest_13 (N : Nat) (hN : 100 ≤ N) {M : Mem} (hR : Re M) {n : Nat} (hn : vv M 16 2 = n) (hn4 : n ≤ 4) {lev left : Nat} {f : Nat → Nat} {last : Int} {kR : Int32 → Int32 → Int32 → Mem → Option (Int32 × Mem)} (hK : Kr M n (lev + 1) kR) (hleft : left < 16) (hln : ∀ i, left.testBit i = true → i < n) (hlv : lev + popc left = n) (hLd : Ld M n left f) (hl1 : -1 ≤ last) (hl2 : last ≤ 100) : ∀ (m i n1 : Nat) (M' : Mem) (b : Int) (g : Nat → Nat), i + m = n → m < n1 → Sq M n lev left f M' → St M M' n b g →
    ∃ M'', fX1_berthRest_13 N kR n1 (nI left) (zI (laS M left f n)) (zI last) (zI i) M' = some (0, M'') ∧ Go M n lev left f last b g M' (fun h => ∃ k, i ≤ k ∧ left.testBit k = true ∧ ∀ j, j < n → left.testBit j = true → trn k (h k) ≤ trn j (h j)) M'' := by
  have h6 := hR.1.1
  intro m
  induction m with
  | zero =>
    intro i n1 M' b g hi hn1 hS hst
    obtain ⟨n1, rfl⟩ : ∃ q, n1 = q + 1 := ⟨n1 - 1, by omega⟩
    refine ⟨M', ?_, ⟨hS.1, fun _ _ => rfl, fun _ _ _ => ⟨rfl, rfl⟩, fun _ _ => rfl⟩, b, g, hst, fun h hh => hh, fun h hT hE => ?_⟩
    · rw [fX1_berthRest_13_s, vv_z M' 9 6, hS.1.2.2.1, if_pos ((z_le (by omega) (by omega) (by omega) (by omega)).mpr (by omega))]
    · obtain ⟨k, k1, k2, -⟩ := hE
      have := hln k k2
      omega
  | succ m ih =>
    intro i n1 M' b g hi hn1 hS hst
    obtain ⟨n1, rfl⟩ : ∃ q, n1 = q + 1 := ⟨n1 - 1, by omega⟩
    have e00 : fX1_berthRest_25 N kR (fX1_berthRest_13 N kR n1) N (nI left) (zI (laS M left f n)) (zI last) (zI i) 0 M' = fX1_berthRest_25 N kR (fX1_berthRest_13 N kR n1) N (nI left) (zI (laS M left f n)) (zI last) (zI i) (zI ((0 : Nat) : Int)) M' := rfl
    rw [fX1_berthRest_13_s, vv_z M' 9 6, hS.1.2.2.1, if_neg (fun q => by have := (z_le (by omega) (by omega) (by omega) (by omega)).mp q; omega), e00]
    cases hb : left.testBit i
    · have hhb : fX3_hasBit N (nI left) (zI (i : Int)) M' = some (0, M') := by
        rw [z_n, e_hasBit N (by omega) (by omega) M', hb]; rfl
      obtain ⟨n2, hn2⟩ : ∃ q, N = q + 1 := ⟨N - 1, by omega⟩
      have e1 : fX1_berthRest_25 N kR (fX1_berthRest_13 N kR n1) N (nI left) (zI (laS M left f n)) (zI last) (zI i) (zI ((0 : Nat) : Int)) M' = fX1_berthRest_13 N kR n1 (nI left) (zI (laS M left f n)) (zI last) (zI ((i + 1 : Nat) : Int)) M' := by
        rw [show fX1_berthRest_25 N kR (fX1_berthRest_13 N kR n1) N = fX1_berthRest_25 N kR (fX1_berthRest_13 N kR n1) (n2 + 1) by rw [← hn2], fX1_berthRest_25_s, vv_z M' 9 7, hS.1.2.2.2, if_neg (fun q => by have := (z_le (by omega) (by omega) (by omega) (by omega)).mp q; omega), bd_e _ hhb, if_pos rfl, lq_e, z_1]
      rw [e1]
      obtain ⟨M2, c1, c2, b2, g2, c3, c4, c5⟩ := ih (i + 1) n1 M' b g (by omega) (by omega) hS hst
      refine ⟨M2, c1, c2, b2, g2, c3, c4, fun h hT hE => c5 h hT ?_⟩
      obtain ⟨k, k1, k2, k3⟩ := hE
      refine ⟨k, ?_, k2, k3⟩
      rcases Nat.lt_or_ge i k with q | q
      · exact q
      · rw [show k = i by omega, hb] at k2
        cases k2
    · obtain ⟨M1, a1, a2, b1, g1, a3, a4, a5⟩ := rest_25 N hN hR hn hn4 hK hleft hln hlv hLd hl1 hl2 (i := i) (by omega) hb (fX1_berthRest_13 N kR n1) (vv M 16 1).toNat 0 N M' b g (by omega) (by omega) hS hst
      rw [a1]
      obtain ⟨M2, c1, c2, b2, g2, c3, c4, c5⟩ := ih (i + 1) n1 M1 b1 g1 (by omega) (by omega) (a2.sq h6.2 hn4 hS) a3
      refine ⟨M2, c1, a2.tr c2, b2, g2, c3, fun h hh => c4 h (a4 h hh), fun h hT hE => ?_⟩
      obtain ⟨k, k1, k2, k3⟩ := hE
      rcases Nat.lt_or_ge i k with q | q
      · exact c5 h hT ⟨k, q, k2, k3⟩
      · have : k = i := by omega
        subst this
        exact c4 h (a5 h hT ⟨Nat.zero_le _, k3⟩)
theorem least_turn {n left : Nat} {h : Nat → Nat} (hex : ∃ i, i < n ∧ left.testBit i = true) : ∃ k, k < n ∧ left.testBit k = true ∧ ∀ j, j < n → left.testBit j = true → trn k (h k) ≤ trn j (h j) := by
  obtain ⟨t, ⟨k, k1, k2, k3⟩, h2⟩ := pk_least (fun t => ∃ i, i < n ∧ left.testBit i = true ∧ trn i (h i) = t) (by
    obtain ⟨i, i1, i2⟩ := hex
    exact ⟨_, i, i1, i2, rfl⟩)
  refine ⟨k, k1, k2, fun j hj hb => ?_⟩
  rcases Nat.lt_or_ge (trn j (h j)) (trn k (h k)) with q | q
  · exact absurd ⟨j, hj, hb, rfl⟩ (h2 (trn j (h j)) (by omega))
  · exact q
theorem rest_all (N : Nat) (hN : 100 ≤ N) {M : Mem} (hR : Re M) {n : Nat} (hn : vv M 16 2 = n) (hn4 : n ≤ 4) : ∀ (d lev : Nat), n + 1 ≤ lev + d → Kr M n lev (fX1_berthRestD N d) := by
  intro d
  induction d with
  | zero =>
    intro lev hd left f last b g M' hleft hln hlv
    omega
  | succ d ih =>
    intro lev hd left f last b g M' hleft hln hlv hLd hS hst h0 hl1 hl2
    show ∃ M'', fX1_berthRest N (fX1_berthRestD N d) (nI left) (zI (laS M left f n)) (zI last) M' = some (0, M'') ∧ _
    unfold fX1_berthRest
    by_cases hz : left = 0
    · subst hz
      rw [if_pos (by decide), laS_0]
      have hz : ∀ i, (0 : Nat).testBit i = false := fun i => Nat.zero_testBit i
      have hok : pl_ok n (mayB M) (clB M) f := fun i hi => ⟨(hLd i hi (hz i)).2.1, mayB_t.mpr (hLd i hi (hz i)).1, fun j hj => clB_f.mpr (fun q => (hLd i hi (hz i)).2.2 j (by omega) (hz j) (by omega) (rMeet_sym.mp q))⟩
      obtain ⟨M'', b', g', k1, k2, k3, k4, k5, k6, k7, k8⟩ := e_keep N hN hR hn4 hS.1 (f := f) (fun i hi => ⟨(hS.2.1 i hi (hz i)).1, (hS.2.1 i hi (hz i)).2, (hok i hi).1⟩) hok hst (by have := h0 rfl; rw [laS_0] at this; exact this)
      rw [bd_e _ k1]
      exact ⟨M'', rfl, ⟨k2.1, fun x _ => by rw [k3], fun i _ _ => ⟨by rw [k4], by rw [k5]⟩, k2.2⟩, b', g', k6, k7, fun h hT _ => k8 h (fun i hi => hT.2.2.1 i hi (hz i))⟩
    · have e0 : (0 : Int32) = nI 0 := by decide
      rw [if_neg (fun q => hz (by rw [e0] at q; exact (n_eq (by omega) (by omega)).mp q))]
      obtain ⟨M'', a1, a2, b', g', a3, a4, a5⟩ := rest_13 N hN hR hn hn4 (ih (lev + 1) (by omega)) hleft hln hlv hLd hl1 hl2 n 0 N M' b g (by omega) (by omega) hS hst
      refine ⟨M'', a1, a2, b', g', a3, a4, fun h hT _ => a5 h hT ?_⟩
      obtain ⟨t, t1, t2, -⟩ := b_least (n := left) (by omega) hz
      obtain ⟨k, k1, k2, k3⟩ := least_turn (h := h) ⟨t, hln t t2, t2⟩
      exact ⟨k, Nat.zero_le _, k2, k3⟩
/-- in the best plan no ship could come sooner at its place -/
theorem best_can {M : Mem} (hR : Re M) {n : Nat} (hn : vv M 16 2 = n) (hn4 : n ≤ 4) {g : Nat → Nat} (hg : pl_best n (mayB M) (clB M) (rCost M) g) : Can M n g := by
  intro i hi t ht hm
  obtain ⟨hok, hbest⟩ := hg
  have hs := hR.1.2.2.2.2.2 i (by omega)
  have hl := hR.2.2.2.2.2.2.2 i (by omega)
  have h96 := (hok i hi).1
  have ea : va_up g i (6 * t + g i % 6) i = 6 * t + g i % 6 := by simp [va_up]
  by_cases hex : ∃ j, j < n ∧ j ≠ i ∧ rMeet M i (6 * t + g i % 6) j (g j)
  · obtain ⟨j, j1, j2, j3⟩ := hex
    refine ⟨j, j1, ?_, j3⟩
    have hno := ok_nm hok hi j1 (fun e => j2 e.symm)
    have hlj := hR.2.2.2.2.2.2.2 j (by omega)
    unfold rMeet at hno j3
    have e1 : (6 * t + g i % 6) % 6 = g i % 6 := by omega
    have e2 : (6 * t + g i % 6) / 6 = t := by omega
    rw [e1, e2] at j3
    unfold trn
    omega
  · exfalso
    have hok2 : pl_ok n (mayB M) (clB M) (va_up g i (6 * t + g i % 6)) := fun k hk => by
      by_cases hki : k = i
      · subst hki
        rw [ea]
        refine ⟨by omega, mayB_t.mpr hm, fun j hj => ?_⟩
        rw [va_up_ne g _ (by omega)]
        exact clB_f.mpr (fun q => hex ⟨j, by omega, by omega, rMeet_sym.mp q⟩)
      · rw [va_up_ne g _ hki]
        refine ⟨(hok k hk).1, (hok k hk).2.1, fun j hj => ?_⟩
        by_cases hji : j = i
        · subst hji
          rw [ea]
          exact clB_f.mpr (fun q => hex ⟨k, hk, hki, q⟩)
        · rw [va_up_ne g _ hji]
          exact (hok k hk).2.2 j hj
    have hlt : rCost M i (6 * t + g i % 6) < rCost M i (g i) := by
      unfold rCost
      have e2 : (6 * t + g i % 6) / 6 = t := by omega
      rw [e2]
      exact Int.mul_lt_mul_of_pos_left (by omega) (by omega)
    have htot : ∀ k, i < k → pl_tot (rCost M) (va_up g i (6 * t + g i % 6)) k < pl_tot (rCost M) g k := by
      intro k
      induction k with
      | zero => intro h; omega
      | succ k ihk =>
        intro h
        show pl_tot (rCost M) _ k + rCost M k (va_up g i (6 * t + g i % 6) k) < pl_tot (rCost M) g k + rCost M k (g k)
        rcases Nat.lt_or_ge i k with q | q
        · have := ihk q
          rw [va_up_ne g _ (by omega)]
          omega
        · have : k = i := by omega
          subst this
          have e : pl_tot (rCost M) (va_up g k (6 * t + g k % 6)) k = pl_tot (rCost M) g k := pl_tot_c (fun j hj => va_up_ne g _ (by omega))
          rw [e, ea]
          omega
    have h1 := htot n hi
    rcases hbest _ hok2 with q | ⟨q, -⟩ <;> omega
/-- the planner's search finds the best plan, or there is none -/
theorem e_finds (N : Nat) (hN : 100 ≤ N) {M : Mem} (hR : Re M) {n : Nat} (hn : vv M 16 2 = n) (hn4 : n ≤ 4) {M' : Mem} (hE : ∀ c, c < 9 → M' c = M c) : ∃ (r : Int32) (M'' : Mem), fX1_finds N (zI n) M' = some (r, M'') ∧ Sf M' M'' ∧ M'' 9 5 = 1 ∧ ((∀ h, ¬ pl_ok n (mayB M) (clB M) h) → r = 0) ∧ ∀ g, pl_best n (mayB M) (clB M) (rCost M) g → r = 1 ∧ Pr M'' 13 14 n g := by
  obtain ⟨M1, a1, ⟨a2, a2f⟩, a3⟩ := e_openAll N hN hR hn4 hE
  have hC : Cs M n (mw M1 9 8 (zI 100000)) := by
    refine ⟨fun c hc => by rw [mw_n _ (by omega)]; exact a2.1 c hc, ?_, ?_, ?_⟩ <;> (unfold vv; rw [mw_o _ _ (by decide)])
    · exact a2.2.1
    · exact a2.2.2.1
    · exact a2.2.2.2
  obtain ⟨⟨e1, e2⟩, e3⟩ := every_b hn4
  have h6 := hR.1.1
  have hV : ∀ f, ∀ j, j < n → (2 ^ n - 1).testBit j = true → Lv M (mw M1 9 8 (zI 100000)) n 0 (2 ^ n - 1) f j := fun f j hj hb p hp => by
    have g1 := a3 j hj p hp
    unfold gdR opn vv at g1
    unfold opn vv
    rw [mw_n _ (by decide)]
    refine ⟨g1.1, fun h hh => (g1.2 h hh).trans ⟨fun q => ⟨q, fun k hk hkb => ?_⟩, fun q => q.1⟩⟩
    rw [e3 k, decide_eq_true hk] at hkb
    cases hkb
  have hSq : ∀ f, Sq M n 0 (2 ^ n - 1) f (mw M1 9 8 (zI 100000)) := fun f => ⟨hC, fun i hi hb => absurd hb (by rw [e3 i, decide_eq_true hi]; decide), hV f⟩
  have hend : ∀ (b : Int) (g' : Nat → Nat) (M2 : Mem), Cs M n M2 → (∀ c, 14 < c → M2 c = M' c) → St M M2 n b g' → (∀ h, pl_ok n (mayB M) (clB M) h → Can M n h → Cv M n b g' h) → ∃ (r : Int32) (M'' : Mem), fX1_finds_36 N M2 = some (r, M'') ∧ Sf M' M'' ∧ M'' 9 5 = 1 ∧ ((∀ h, ¬ pl_ok n (mayB M) (clB M) h) → r = 0) ∧ ∀ g, pl_best n (mayB M) (clB M) (rCost M) g → r = 1 ∧ Pr M'' 13 14 n g := by
    intro b g' M2 q1 qf q2 q3
    have hSf : Sf M' M2 := fun c hc => by
      rcases hc with h | h
      · rw [q1.1 c h, hE c h]
      · exact qf c h
    have e95 : M2 9 5 = 1 := by rw [vv_z M2 9 5, q1.2.1]; decide
    have e100 : (100000 : Int32) = zI 100000 := by decide
    unfold fX1_finds_36
    rw [q2.1, e100]
    rcases q2.2 with hb | ⟨s1, s2, s3, s4, s5⟩
    · rw [hb, if_pos ((z_le (by omega) (by omega) (by omega) (by omega)).mpr (by omega))]
      refine ⟨0, M2, rfl, hSf, e95, fun _ => rfl, fun g hg => ?_⟩
      have := (q3 g hg.1 (best_can hR hn hn4 hg)).1
      omega
    · rw [if_neg (fun q => by have := (z_le (by omega) (by omega) (by omega) (by omega)).mp q; omega)]
      refine ⟨1, M2, rfl, hSf, e95, fun hno => absurd s3 (hno g'), fun g hg => ⟨rfl, ?_⟩⟩
      have hc := (q3 g hg.1 (best_can hR hn hn4 hg)).2
      rw [← s4] at hc
      have hone := pl_one hg s3 hc
      intro j hj
      rw [hone j hj]
      exact s5 j hj
  have hfr0 : ∀ c, 14 < c → mw M1 9 8 (zI 100000) c = M' c := fun c hc => by rw [mw_n _ (by omega), a2f c (by omega) (by omega)]
  have hst0 : St M (mw M1 9 8 (zI 100000)) n 100000 (fun _ => 0) := ⟨by rw [mw_i], Or.inl rfl⟩
  have e100 : (100000 : Int32) = zI 100000 := by decide
  have eM : (1000000 : Int32) = zI 1000000 := by decide
  unfold fX1_finds
  rw [bd_e _ a1, lq_e, e100, bd_e _ (e_every N hn4 hC)]
  rcases e_leastC N hN hR hn4 hC (lev := 0) (left := 2 ^ n - 1) (by omega) e1 (fun _ k hk hkb q hq => (hV (fun _ => 0) k hk hkb q hq).1) with ⟨d1, j, d2, d3, d4⟩ | ⟨c', d1, d2, d3, d4⟩
  · rw [bd_e _ d1, eM, if_pos ((z_le (by omega) (by omega) (by omega) (by omega)).mpr (by omega))]
    refine hend 100000 (fun _ => 0) _ hC hfr0 hst0 (fun h hok _ => ?_)
    obtain ⟨q1, q2⟩ := tg_opn hR hn hn4 (f := h) hok (fun i _ _ => rfl) d2 d3 (hV h j d2 d3)
    exact absurd q2 (d4 _ _ q1 (by have := (hok j d2).1; omega))
  · rw [bd_e _ d1, eM, if_neg (fun q => by have := (z_le (by omega) (by omega) (by omega) (by omega)).mp q; omega), bd_e _ (e_every N hn4 hC)]
    have hno : ∀ i, i < n → ¬ (2 ^ n - 1).testBit i = false := fun i hi hb => by rw [e3 i, decide_eq_true hi] at hb; cases hb
    have hla0 : ∀ k, k ≤ n → laS M (2 ^ n - 1) (fun _ => 0) k = 0 := by
      intro k
      induction k with
      | zero => intro _; rfl
      | succ k ihk =>
        intro hk
        show laS M (2 ^ n - 1) _ k + (if (2 ^ n - 1).testBit k then 0 else rCost M k 0) = 0
        rw [ihk (by omega), e3 k, decide_eq_true (by omega)]
        rfl
    obtain ⟨M2, k1, k2, b', g', k3, k4, k5⟩ := rest_all N hN hR hn hn4 5 0 (by omega) (2 ^ n - 1) (fun _ => 0) (-1) 100000 (fun _ => 0) _ e1 (fun i hi => by rw [e3 i] at hi; exact of_decide_eq_true hi) (by omega) (fun i hi hb => absurd hb (hno i hi)) (hSq _) hst0 (fun _ => by rw [hla0 n (Nat.le_refl _)]; omega) (by omega) (by omega)
    rw [hla0 n (Nat.le_refl _)] at k1
    have hmono : fX1_berthRestD N 5 (nI (2 ^ n - 1)) 0 (-1) (mw M1 9 8 (zI 100000)) = some (0, M2) := k1
    rw [bd_e _ hmono]
    exact hend b' g' M2 k2.1 (fun c hc => (k2.2.2.2 c hc).trans (hfr0 c hc)) k3 (fun h hok hcan => k5 h ⟨hok, hcan, fun i hi hb => absurd hb (hno i hi), fun i hi hb => by omega⟩ trivial)
