/-- the same in the reference's own cells -/
def Rf (M M' : Mem) : Prop := ∀ c, 16 ≤ c → c < 28 → M' c = M c
theorem Rf.v {M M' : Mem} (h : Rf M M') {c k : Nat} (h1 : 16 ≤ c) (hc : c < 28) : vv M' c k = vv M c k := by unfold vv; rw [h c h1 hc]
theorem Rf.mw {M M' : Mem} (h : Rf M M') (hM : Mw M) : Mw M' := by
  unfold Mw at hM ⊢
  simp only [h.v (show 16 ≤ 16 by decide) (show 16 < 28 by decide), h.v (show 16 ≤ 17 by decide) (show 17 < 28 by decide), h.v (show 16 ≤ 18 by decide) (show 18 < 28 by decide), h.v (show 16 ≤ 19 by decide) (show 19 < 28 by decide), h.v (show 16 ≤ 20 by decide) (show 20 < 28 by decide), h.v (show 16 ≤ 21 by decide) (show 21 < 28 by decide), h.v (show 16 ≤ 22 by decide) (show 22 < 28 by decide), h.v (show 16 ≤ 23 by decide) (show 23 < 28 by decide), h.v (show 16 ≤ 24 by decide) (show 24 < 28 by decide), h.v (show 16 ≤ 25 by decide) (show 25 < 28 by decide), h.v (show 16 ≤ 26 by decide) (show 26 < 28 by decide), h.v (show 16 ≤ 27 by decide) (show 27 < 28 by decide)]
  exact hM
theorem Rf.may {M M' : Mem} (h : Rf M M') (i a : Nat) : rMay M' i a ↔ rMay M i a := by
  unfold rMay rTide rDeep rGear
  simp only [h.v (show 16 ≤ 16 by decide) (show 16 < 28 by decide), h.v (show 16 ≤ 17 by decide) (show 17 < 28 by decide), h.v (show 16 ≤ 18 by decide) (show 18 < 28 by decide), h.v (show 16 ≤ 19 by decide) (show 19 < 28 by decide), h.v (show 16 ≤ 20 by decide) (show 20 < 28 by decide), h.v (show 16 ≤ 21 by decide) (show 21 < 28 by decide), h.v (show 16 ≤ 22 by decide) (show 22 < 28 by decide), h.v (show 16 ≤ 24 by decide) (show 24 < 28 by decide), h.v (show 16 ≤ 26 by decide) (show 26 < 28 by decide), h.v (show 16 ≤ 27 by decide) (show 27 < 28 by decide)]
theorem Rf.cost {M M' : Mem} (h : Rf M M') (i a : Nat) : rCost M' i a = rCost M i a := by
  unfold rCost
  rw [h.v (by decide) (by decide), h.v (by decide) (by decide)]
theorem Rf.meet {M M' : Mem} (h : Rf M M') (s a t b : Nat) : rMeet M' s a t b ↔ rMeet M s a t b := by
  unfold rMeet
  simp only [h.v (show 16 ≤ 21 by decide) (show 21 < 28 by decide), h.v (show 16 ≤ 23 by decide) (show 23 < 28 by decide)]
/-- the same in the planner's cells and the reference's, the searcher's aside -/
def Sf (M M' : Mem) : Prop := ∀ c, (c < 9 ∨ 14 < c) → M' c = M c
theorem Sf.v {M M' : Mem} (h : Sf M M') {c k : Nat} (hc : c < 9 ∨ 14 < c) : vv M' c k = vv M c k := by unfold vv; rw [h c hc]
theorem Sf.rf {M M' : Mem} (h : Sf M M') : Rf M M' := fun c h1 _ => h c (by omega)
/-- the same in what Re speaks of -/
def Rg (M M' : Mem) : Prop := Rf M M' ∧ (∀ c, 1 ≤ c → c < 4 → M' c = M c) ∧ (∀ c k, 5 ≤ c → c < 9 → k < 9 → M' c k = M c k) ∧ M' 0 3 = M 0 3
theorem Rg.re {M M' : Mem} (h : Rg M M') (hR : Re M) : Re M' := by
  obtain ⟨a1, a2, a3, a4, a5, a6, a7, a8⟩ := hR
  obtain ⟨hr, h1, h2, h3⟩ := h
  have v1 : ∀ k, vv M' 1 k = vv M 1 k := fun k => by unfold vv; rw [h1 1 (by decide) (by decide)]
  have v2 : ∀ k, vv M' 2 k = vv M 2 k := fun k => by unfold vv; rw [h1 2 (by decide) (by decide)]
  have v3 : ∀ k, vv M' 3 k = vv M 3 k := fun k => by unfold vv; rw [h1 3 (by decide) (by decide)]
  have v0 : vv M' 0 3 = vv M 0 3 := by unfold vv; rw [h3]
  have r : ∀ c k, 16 ≤ c → c < 28 → vv M' c k = vv M c k := fun c k q1 q2 => hr.v q1 q2
  have v5 : ∀ i k, i < 4 → k < 9 → vv M' (5 + i) k = vv M (5 + i) k := fun i k q1 q2 => by unfold vv; rw [h2 (5 + i) k (by omega) (by omega) q2]
  refine ⟨hr.mw a1, ?_, ?_, ?_, ?_, ?_, ?_, ?_⟩
  · unfold Qw at a2 ⊢
    simp only [v1, v2, v3]; exact a2
  · rw [v0, v1, v1, r 16 _ (by decide) (by decide), r 16 _ (by decide) (by decide), r 16 _ (by decide) (by decide)]; exact a3
  · intro j hj
    rw [v2, v3, r 17 _ (by decide) (by decide), r 18 _ (by decide) (by decide)]; exact a4 j hj
  · intro i hi
    rw [v5 i 0 hi (by decide), v5 i 1 hi (by decide), v5 i 2 hi (by decide), v5 i 3 hi (by decide), v5 i 4 hi (by decide), v5 i 5 hi (by decide), r 21 _ (by decide) (by decide), r 22 _ (by decide) (by decide), r 23 _ (by decide) (by decide), r 24 _ (by decide) (by decide), r 25 _ (by decide) (by decide), r 26 _ (by decide) (by decide)]; exact a5 i hi
  · intro i hi
    rw [v5 i 6 hi (by decide), v5 i 7 hi (by decide), v5 i 8 hi (by decide), r 27 _ (by decide) (by decide), r 21 _ (by decide) (by decide), r 16 _ (by decide) (by decide)]; exact a6 i hi
  · refine ⟨by rw [v1]; exact a7.1, by rw [v1]; exact a7.2.1, fun h hh => ?_⟩
    rw [v1, a7.2.2 h hh]
    simp only [r 16 _ (by decide) (by decide), r 19 _ (by decide) (by decide), r 20 _ (by decide) (by decide)]
  · intro i hi
    rw [r 16 _ (by decide) (by decide)] at hi
    rw [r 21 _ (by decide) (by decide), r 23 _ (by decide) (by decide), r 25 _ (by decide) (by decide)]; exact a8 i hi
theorem Sf.rg {M M' : Mem} (h : Sf M M') : Rg M M' := ⟨h.rf, fun c _ q => h c (by omega), fun c k _ q _ => by rw [h c (by omega)], by rw [h 0 (by omega)]⟩
theorem vn {m : Nat} (h : m < 2147483648) : (nI m).toInt = m := by rw [← z_n, z_t (by omega) (by omega)]
/-- a row of the open berths: a mask of the ship's hours at the place -/
def gdR (M M' : Mem) (i p : Nat) : Prop := (0 ≤ vv M' 10 ((0 * 4 + i) * 6 + p) ∧ vv M' 10 ((0 * 4 + i) * 6 + p) < 65536) ∧ ∀ h, h < 16 → (opn M' 0 i p h ↔ rMay M i (6 * h + p))
theorem open_38 (N : Nat) (hN : 100 ≤ N) {M : Mem} (hR : Re M) {n i : Nat} (hn4 : n ≤ 4) (hi : i < n) (k26 : Int32 → Mem → Option (Int32 × Mem)) : ∀ (m k n1 : Nat) (M' : Mem), (k : Int) + m = vv M 16 1 → m < n1 → Cs M n M' → ∃ M'', fX1_openAll_38 N k26 n1 (zI i) (zI k) M' = k26 (zI ((i + 1 : Nat) : Int)) M'' ∧ (Cs M n M'' ∧ ∀ c, c ≠ 10 → M'' c = M' c) ∧ (∀ x, (x < i * 6 + k ∨ (i * 6 : Nat) + vv M 16 1 ≤ x) → M'' 10 x = M' 10 x) ∧ ∀ p : Nat, k ≤ p → (p : Int) < vv M 16 1 → gdR M M'' i p := by
  have hL := hR.1.1
  intro m
  induction m with
  | zero =>
    intro k n1 M' hk hn1 hC
    obtain ⟨n1, rfl⟩ : ∃ q, n1 = q + 1 := ⟨n1 - 1, by omega⟩
    refine ⟨M', ?_, ⟨hC, fun _ _ => rfl⟩, fun x _ => rfl, fun p h1 h2 => by omega⟩
    rw [fX1_openAll_38_s, vv_z M' 9 7, hC.2.2.2, if_pos ((z_le (by omega) (by omega) (by omega) (by omega)).mpr (by omega)), lq_e, z_1]
  | succ m ih =>
    intro k n1 M' hk hn1 hC
    obtain ⟨n1, rfl⟩ : ∃ q, n1 = q + 1 := ⟨n1 - 1, by omega⟩
    obtain ⟨x, x1, x2, x3⟩ := e_beginsAt N hN hR hC.1 (i := i) (p := k) (by omega) (by omega)
    have h95 : ¬ M' 9 5 = 0 := by rw [vv_z M' 9 5, hC.2.1]; decide
    have ecl : (zI (((0 : Int) * 4 + i) * 6 + k)).toNatClampNeg = (0 * 4 + i) * 6 + k := by
      rw [z_cl (by omega) (by omega)]; omega
    have e0 : fX1_index N 0 (zI i) (zI k) M' = some (zI (((0 : Int) * 4 + i) * 6 + k), M') := by rw [i0]; exact e_index N 0 i k M'
    have hC2 : Cs M n (mw M' 10 ((0 * 4 + i) * 6 + k) (nI x)) := by
      refine ⟨fun c hc => by rw [mw_n M' (by omega)]; exact hC.1 c hc, ?_, ?_, ?_⟩ <;> (unfold vv; rw [mw_n M' (by decide)])
      · exact hC.2.1
      · exact hC.2.2.1
      · exact hC.2.2.2
    obtain ⟨M'', b1, b2, b3, b4⟩ := ih (k + 1) n1 _ (by omega) (by omega) hC2
    refine ⟨M'', ?_, ⟨b2.1, fun c hc => by rw [b2.2 c hc, mw_n M' hc]⟩, fun y hy => ?_, fun p h1 h2 => ?_⟩
    · rw [fX1_openAll_38_s, vv_z M' 9 7, hC.2.2.2, if_neg (fun q => by have := (z_le (by omega) (by omega) (by omega) (by omega)).mp q; omega), bd_e _ e0, gp_t _ h95, gd_z _ (by omega) (by omega) (by omega), n_cl (by omega), bd_e _ x2, gd_z _ (by omega) (by omega) (by omega), lq_e, lq_e, z_1, ecl]
      exact b1
    · rw [b3 y (by omega), mw_o M' _ (by omega)]
    · rcases Nat.lt_or_ge k p with q | q
      · exact b4 p q h2
      · have : p = k := by omega
        subst this
        have e : vv M'' 10 ((0 * 4 + i) * 6 + p) = x := by
          unfold vv
          rw [b3 _ (by omega), mw_i, vn (by omega)]
        refine ⟨by rw [e]; omega, fun h hh => ?_⟩
        unfold opn
        rw [e]
        have : ((x : Int)).toNat = x := by omega
        rw [this, x3 h hh]
theorem open_26 (N : Nat) (hN : 100 ≤ N) {M : Mem} (hR : Re M) {n : Nat} (hn4 : n ≤ 4) : ∀ (m i n1 : Nat) (M' : Mem), i + m = n → m < n1 → Cs M n M' → (∀ j, j < i → ∀ p : Nat, (p : Int) < vv M 16 1 → gdR M M' j p) → ∃ M'', fX1_openAll_26 N n1 (zI i) M' = some (0, M'') ∧ (Cs M n M'' ∧ ∀ c, c ≠ 10 → M'' c = M' c) ∧ ∀ j, j < n → ∀ p : Nat, (p : Int) < vv M 16 1 → gdR M M'' j p := by
  have hL := hR.1.1
  intro m
  induction m with
  | zero =>
    intro i n1 M' hi hn1 hC hG
    obtain ⟨n1, rfl⟩ : ∃ q, n1 = q + 1 := ⟨n1 - 1, by omega⟩
    have : i = n := by omega
    subst this
    refine ⟨M', ?_, ⟨hC, fun _ _ => rfl⟩, hG⟩
    rw [fX1_openAll_26_s, vv_z M' 9 6, hC.2.2.1, if_pos ((z_le (by omega) (by omega) (by omega) (by omega)).mpr (by omega))]
  | succ m ih =>
    intro i n1 M' hi hn1 hC hG
    obtain ⟨n1, rfl⟩ : ∃ q, n1 = q + 1 := ⟨n1 - 1, by omega⟩
    obtain ⟨M1, a1, a2, a3, a4⟩ := open_38 N hN hR hn4 (i := i) (by omega) (fX1_openAll_26 N n1) (vv M 16 1).toNat 0 N M' (by omega) (by omega) hC
    have hG1 : ∀ j, j < i + 1 → ∀ p : Nat, (p : Int) < vv M 16 1 → gdR M M1 j p := fun j hj p hp => by
      rcases Nat.lt_or_ge j i with q | q
      · have g := hG j q p hp
        unfold gdR opn vv at g ⊢
        rw [a3 _ (by omega)]
        exact g
      · rw [show j = i by omega]
        exact a4 p (by omega) hp
    obtain ⟨M2, b1, b2, b3⟩ := ih (i + 1) n1 M1 (by omega) (by omega) a2.1 hG1
    refine ⟨M2, ?_, ⟨b2.1, fun c hc => by rw [b2.2 c hc, a2.2 c hc]⟩, b3⟩
    rw [fX1_openAll_26_s, vv_z M' 9 6, hC.2.2.1, if_neg (fun q => by have := (z_le (by omega) (by omega) (by omega) (by omega)).mp q; omega)]
    have e00 : fX1_openAll_38 N (fX1_openAll_26 N n1) N (zI i) 0 M' = fX1_openAll_38 N (fX1_openAll_26 N n1) N (zI i) (zI ((0 : Nat) : Int)) M' := rfl
    rw [e00, a1]
    exact b1
theorem e_openAll (N : Nat) (hN : 100 ≤ N) {M : Mem} (hR : Re M) {n : Nat} (hn4 : n ≤ 4) {M' : Mem} (hE : ∀ c, c < 9 → M' c = M c) : ∃ M'', fX1_openAll N (zI n) M' = some (0, M'') ∧ (Cs M n M'' ∧ ∀ c, c ≠ 9 → c ≠ 10 → M'' c = M' c) ∧ ∀ j, j < n → ∀ p : Nat, (p : Int) < vv M 16 1 → gdR M M'' j p := by
  unfold fX1_openAll
  have e4 : (4 : Int32) = zI 4 := by decide
  rw [lq_e, lq_e, lq_e, e4, if_neg (fun q => by have := (z_lt (by omega) (by omega) (by omega) (by omega)).mp q; omega)]
  obtain ⟨M'', a1, a2, a3⟩ := open_26 N hN hR hn4 n 0 N (mw (mw (mw M' 9 5 1) 9 6 (zI n)) 9 7 (mw (mw M' 9 5 1) 9 6 (zI n) 1 0)) (by omega) (by omega) (by
    refine ⟨fun c hc => ?_, ?_, ?_, ?_⟩
    · rw [mw_n _ (by omega), mw_n _ (by omega), mw_n _ (by omega)]
      exact hE c hc
    · unfold vv
      rw [mw_o _ _ (by decide), mw_o _ _ (by decide), mw_i]; decide
    · unfold vv
      rw [mw_o _ _ (by decide), mw_i, z_t (by omega) (by omega)]
    · have h := hR.2.2.1.2.1
      unfold vv at h ⊢
      rw [mw_i, mw_n _ (by decide), mw_n _ (by decide), hE 1 (by decide)]
      exact h) (fun j hj => by omega)
  exact ⟨M'', a1, ⟨a2.1, fun c h1 h2 => by rw [a2.2 c h2, mw_n _ h1, mw_n _ h1, mw_n _ h1]⟩, a3⟩
theorem e_every (N : Nat) {M M' : Mem} {n : Nat} (hn4 : n ≤ 4) (hC : Cs M n M') : fX1_everyShip N M' = some (nI (2 ^ n - 1), M') := by
  unfold fX1_everyShip
  rw [vv_z M' 9 6, hC.2.2.1]
  rcases (show n = 0 ∨ n = 1 ∨ n = 2 ∨ n = 3 ∨ n = 4 by omega) with rfl | rfl | rfl | rfl | rfl <;> rfl
theorem every_b {n : Nat} (hn4 : n ≤ 4) : (2 ^ n - 1 < 16 ∧ popc (2 ^ n - 1) = n) ∧ ∀ i, (2 ^ n - 1).testBit i = decide (i < n) := by
  refine ⟨?_, fun i => Nat.testBit_two_pow_sub_one ..⟩
  rcases (show n = 0 ∨ n = 1 ∨ n = 2 ∨ n = 3 ∨ n = 4 by omega) with rfl | rfl | rfl | rfl | rfl <;> decide
/-- no ship left: nothing to add -/
theorem least_0 (N : Nat) {M M' : Mem} {n : Nat} (hn4 : n ≤ 4) (hC : Cs M n M') (y : Int32) : ∀ (m i n1 : Nat), i + m = n → m < n1 → fX1_leastOf_11 N n1 (nI 0) y (zI 0) (zI i) M' = some (zI 0, M') := by
  intro m
  induction m with
  | zero =>
    intro i n1 hi hn1
    obtain ⟨n1, rfl⟩ : ∃ q, n1 = q + 1 := ⟨n1 - 1, by omega⟩
    rw [fX1_leastOf_11_s, vv_z M' 9 6, hC.2.2.1, if_pos ((z_le (by omega) (by omega) (by omega) (by omega)).mpr (by omega))]
  | succ m ih =>
    intro i n1 hi hn1
    obtain ⟨n1, rfl⟩ : ∃ q, n1 = q + 1 := ⟨n1 - 1, by omega⟩
    have hb : fX3_hasBit N (nI 0) (zI (i : Int)) M' = some (0, M') := by
      rw [z_n, e_hasBit N (by omega) (by omega) M', Nat.zero_testBit]; rfl
    rw [fX1_leastOf_11_s, vv_z M' 9 6, hC.2.2.1, if_neg (fun q => by have := (z_le (by omega) (by omega) (by omega) (by omega)).mp q; omega), bd_e _ hb, if_pos rfl, lq_e, z_1]
    exact ih (i + 1) n1 (by omega) (by omega)
theorem sumC_0 (c : Nat → Int) : ∀ n, sumC 0 c n = 0
  | 0 => rfl
  | n + 1 => by
    show sumC 0 c n + (if (0 : Nat).testBit n then c n else 0) = 0
    rw [sumC_0 c n, Nat.zero_testBit]; rfl
theorem e_leastC (N : Nat) (hN : 100 ≤ N) {M : Mem} (hR : Re M) {n : Nat} (hn4 : n ≤ 4) {M' : Mem} (hC : Cs M n M') {lev left : Nat} (hlv : lev + popc left = n) (hleft : left < 16) (hW : left ≠ 0 → Rw M M' n lev left) :
    (fX1_leastOf N (nI left) M' = some (zI 1000000, M') ∧ ∃ j, j < n ∧ left.testBit j = true ∧ ∀ p h : Nat, (p : Int) < vv M 16 1 → h < 16 → ¬ opn M' lev j p h) ∨ (∃ c' : Nat → Int, fX1_leastOf N (nI left) M' = some (zI (sumC left c' n), M') ∧ (∀ j, j < n → left.testBit j = true → mnC M M' lev j (c' j)) ∧ -1500 * (n : Int) ≤ sumC left c' n ∧ sumC left c' n ≤ 1500 * (n : Int)) := by
  have e1 : fX1_leastOf N (nI left) M' = fX1_leastOf_11 N N (nI left) (zI lev) (zI 0) (zI ((0 : Nat) : Int)) M' := by
    unfold fX1_leastOf
    rw [bd_e _ (e_levelOf N hC hleft)]
    have : zI ((n : Int) - popc left) = zI (lev : Int) := by congr 1; omega
    rw [this]; rfl
  rw [e1]
  by_cases h0 : left = 0
  · subst h0
    refine Or.inr ⟨fun _ => 0, ?_, fun j _ hj => absurd hj (by rw [Nat.zero_testBit]; decide), by rw [sumC_0]; omega, by rw [sumC_0]; omega⟩
    rw [sumC_0]
    exact least_0 N hn4 hC _ n 0 N (by omega) (by omega)
  · have hp : 1 ≤ popc left := by
      have : ∀ x, x < 16 → x ≠ 0 → 1 ≤ popc x := by decide
      exact this left hleft h0
    have := least_out N hN hR hn4 hC (lev := lev) (by omega) hleft (hW h0) n 0 N (fun _ => 0) (by omega) (by omega) (fun j hj => by omega) (by show -1500 * 0 ≤ (0 : Int); omega) (by show (0 : Int) ≤ 1500 * 0; omega)
    exact this
