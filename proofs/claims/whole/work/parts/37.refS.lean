/-- the sums of the least costs, from s on -/
def rLr (M : Mem) (n : Nat) (Lr : Nat → Int) : Prop := Lr n = 0 ∧ ∀ s, s < n → ∃ y : Int, -1500 ≤ y ∧ y ≤ 1500 ∧ (∀ a, a < 96 → rMay M s a → y ≤ rCost M s a) ∧ Lr s = Lr (s + 1) + y
theorem rLr_b {M : Mem} {n : Nat} {Lr : Nat → Int} (hn4 : n ≤ 4) (h : rLr M n Lr) : ∀ (k s : Nat), s + k = n → -1500 * (k : Int) ≤ Lr s ∧ Lr s ≤ 1500 * (k : Int)
  | 0, s, hs => by
    have : s = n := by omega
    subst this
    rw [h.1]; omega
  | k + 1, s, hs => by
    obtain ⟨y, y1, y2, -, y4⟩ := h.2 s (by omega)
    have := rLr_b hn4 h k (s + 1) (by omega)
    rw [y4]; omega
theorem rLr_low {M : Mem} {n : Nat} {Lr : Nat → Int} (h : rLr M n Lr) {p : Nat → Nat} (hp : pl_ok n (mayB M) (clB M) p) : ∀ (k s : Nat), s + k = n → pl_tot (rCost M) p s + Lr s ≤ pl_tot (rCost M) p n
  | 0, s, hs => by
    have : s = n := by omega
    subst this
    rw [h.1]; omega
  | k + 1, s, hs => by
    obtain ⟨y, y1, y2, y3, y4⟩ := h.2 s (by omega)
    have h1 := rLr_low h hp k (s + 1) (by omega)
    obtain ⟨h2, h3, -⟩ := hp s (by omega)
    have h4 := y3 (p s) h2 (mayB_t.mp h3)
    have h5 : pl_tot (rCost M) p (s + 1) = pl_tot (rCost M) p s + rCost M s (p s) := rfl
    rw [y4]; omega
def Sm (M : Mem) (n : Nat) (Lr : Nat → Int) (M' : Mem) : Prop := Ag M M' ∧ ∀ s, s ≤ n → M' 30 s = zI (Lr s)
def Gs (M : Mem) (n s : Nat) (f : Nat → Nat) (a : Nat) (b : Int) (g : Nat → Nat) : Prop := pl_G n (mayB M) (clB M) (rCost M) (pl_B s f a) b g ∧ -6000 ≤ b ∧ b ≤ 1000000000
def Pv (M : Mem) (s : Nat) (f : Nat → Nat) : Prop := ∀ i, i < s → rMay M i (f i) ∧ ∀ j, j < i → ¬ rMeet M j (f j) i (f i)
theorem pl_far {M : Mem} (hM : Mw M) {n : Nat} (hn4 : n ≤ 4) : ∀ h, pl_ok n (mayB M) (clB M) h → pl_tot (rCost M) h n < 1000000000 := fun h hh => by
  have := tot_b hM n hn4 (fun j hj => (hh j hj).1)
  omega
theorem scan (N : Nat) (hN : 100 ≤ N) {M : Mem} (hM : Mw M) {n : Nat} (hn4 : n ≤ 4) {Lr : Nat → Int} (hL : rLr M n Lr) {M' : Mem} (hS : Sm M n Lr M') {s : Nat} (hs : s < n) {f : Nat → Nat} (hT : Tr M' s f) (k71 : Int32 → Int32 → Mem → Option (Int32 × Mem)) {b : Int} {g : Nat → Nat} :
    ∀ (m a n1 : Nat), a + m = 96 → m < n1 → Gs M n s f a b g → ∃ a' : Nat, a ≤ a' ∧ a' ≤ 96 ∧ fX4_search_142 N k71 n1 (zI b) (zI s) (zI a) (zI (pl_tot (rCost M) f s)) M' = fX4_search_194 N k71 (zI b) (zI s) (zI a') M' ∧ Gs M n s f a' b g ∧ (a' < 96 → rMay M s a' ∧ pl_tot (rCost M) f s + rCost M s a' + Lr (s + 1) < b ∧ ∀ t, t < s → ¬ rMeet M s a' t (f t)) := by
  obtain ⟨hA, h30⟩ := hS
  have hM2 := hA.mw hM
  have ht := tot_b hM s (by omega) (fun j hj => (hT j hj).2)
  have hl := rLr_b hn4 hL (n - (s + 1)) (s + 1) (by omega)
  intro m
  induction m with
  | zero =>
    intro a n1 ha hn1 hG
    obtain ⟨n1, rfl⟩ : ∃ z, n1 = z + 1 := ⟨n1 - 1, by omega⟩
    have : a = 96 := by omega
    subst this
    refine ⟨96, Nat.le_refl _, Nat.le_refl _, ?_, hG, fun h => by omega⟩
    rw [fX4_search_142_s, i96, if_pos ((z_le (by omega) (by omega) (by omega) (by omega)).mpr (by omega))]
  | succ m ih =>
    intro a n1 ha hn1 hG
    obtain ⟨n1, rfl⟩ : ∃ z, n1 = z + 1 := ⟨n1 - 1, by omega⟩
    have ha96 : a < 96 := by omega
    have hs4 : s < 4 := by omega
    obtain ⟨r, a1, a2, a3⟩ := e_mayBe N hN hM2 (i := s) hs4 ha96
    have hcb := rCost_b hM hs4 ha96
    have hgb := hG.2
    have skip : (∀ h, pl_ok n (mayB M) (clB M) h → (∀ j, j < s → h j = f j) → h s = a → b ≤ pl_tot (rCost M) h n) → Gs M n s f (a + 1) b g := fun h => ⟨pl_skip hs hG.1 (pl_far hM hn4) h, hgb⟩
    have go : Gs M n s f (a + 1) b g → ∃ a' : Nat, a ≤ a' ∧ a' ≤ 96 ∧ fX4_search_142 N k71 n1 (zI b) (zI s) (zI ((a + 1 : Nat) : Int)) (zI (pl_tot (rCost M) f s)) M' = fX4_search_194 N k71 (zI b) (zI s) (zI a') M' ∧ Gs M n s f a' b g ∧ (a' < 96 → rMay M s a' ∧ pl_tot (rCost M) f s + rCost M s a' + Lr (s + 1) < b ∧ ∀ t, t < s → ¬ rMeet M s a' t (f t)) := fun h => by
      obtain ⟨a', q1, q2, q3, q4, q5⟩ := ih (a + 1) n1 (by omega) (by omega) h
      exact ⟨a', by omega, q2, q3, q4, q5⟩
    rw [fX4_search_142_s, i96, if_neg (fun q => by have := (z_le (by omega) (by omega) (by omega) (by omega)).mp q; omega), bd_e _ a1]
    rcases a2 with rfl | rfl
    · rw [if_pos rfl, lq_e, z_1]
      refine go (skip fun h hh hj hsa => ?_)
      have := mayB_t.mp (hh s hs).2.1
      rw [hsa] at this
      exact absurd (a3.mpr ((hA.may s a).mpr this)) (by decide)
    · have hyes : rMay M s a := (hA.may s a).mp (a3.mp rfl)
      have ec : fX4_cost N (zI ↑s) (zI ↑a) M' = some (zI (rCost M s a), M') := by rw [e_cost N hM2 hs4 ha96, hA.cost]
      rw [if_neg (by decide), bd_e _ ec, z_1, gd_z _ (by omega) (by omega) (by omega), n_cl (by omega), h30 (s + 1) (by omega), z_add, z_add]
      by_cases hc : b ≤ pl_tot (rCost M) f s + rCost M s a + Lr (s + 1)
      · rw [if_pos ((z_le (by omega) (by omega) (by omega) (by omega)).mpr hc), lq_e, z_1]
        refine go (skip fun h hh hj hsa => ?_)
        have h1 := rLr_low hL hh (n - (s + 1)) (s + 1) (by omega)
        have h2 : pl_tot (rCost M) h (s + 1) = pl_tot (rCost M) h s + rCost M s (h s) := rfl
        have h3 : pl_tot (rCost M) h s = pl_tot (rCost M) f s := pl_tot_c hj
        rw [hsa] at h2
        omega
      · rw [if_neg (fun q => hc ((z_le (by omega) (by omega) (by omega) (by omega)).mp q))]
        obtain ⟨r, c1, c2, c3⟩ := e_isClear N hN hM2 hs4 ha96 hT
        rw [bd_e _ c1]
        rcases c2 with rfl | rfl
        · rw [if_pos rfl, lq_e, z_1]
          refine go (skip fun h hh hj hsa => ?_)
          exfalso
          have hall : ∀ t, t < s → ¬ rMeet M' s a t (f t) := fun t ht2 q => by
            have := (hh s hs).2.2 t ht2
            rw [hsa, hj t ht2, clB_f] at this
            exact this (rMeet_sym.mp ((hA.meet s a t (f t)).mp q))
          exact absurd (c3.mpr hall) (by decide)
        · rw [if_neg (by decide)]
          exact ⟨a, Nat.le_refl _, by omega, rfl, hG, fun _ => ⟨hyes, by omega, fun t ht2 q => c3.mp rfl t ht2 ((hA.meet s a t (f t)).mpr q)⟩⟩
/-- the plan is copied -/
theorem copy_loop (N : Nat) {n : Nat} (hn4 : n ≤ 4) (k71 : Int32 → Int32 → Mem → Option (Int32 × Mem)) (x1 x2 : Int32) : ∀ (m k n1 : Nat) (M' : Mem), vv M' 16 2 = n → k + m = n → m < n1 → ∃ M'' : Mem, fX4_search_94 N k71 n1 x1 x2 (zI k) M' = k71 x1 (x2 + (-1)) M'' ∧ (∀ c, c ≠ 28 → M'' c = M' c) ∧ ∀ j, M'' 28 j = if k ≤ j ∧ j < n then M' 29 j else M' 28 j := by
  intro m
  induction m with
  | zero =>
    intro k n1 M' hv hk hn1
    obtain ⟨n1, rfl⟩ : ∃ z, n1 = z + 1 := ⟨n1 - 1, by omega⟩
    refine ⟨M', ?_, fun _ _ => rfl, fun j => by rw [if_neg (by omega)]⟩
    rw [fX4_search_94_s, vv_z M' 16 2, hv, if_pos ((z_le (by omega) (by omega) (by omega) (by omega)).mpr (by omega)), lq_e]
  | succ m ih =>
    intro k n1 M' hv hk hn1
    obtain ⟨n1, rfl⟩ : ∃ z, n1 = z + 1 := ⟨n1 - 1, by omega⟩
    have hv2 : vv (mw M' 28 k (M' 29 k)) 16 2 = n := by unfold vv; rw [mw_n M' (by decide)]; exact hv
    obtain ⟨M'', h1, h2, h3⟩ := ih (k + 1) n1 (mw M' 28 k (M' 29 k)) hv2 (by omega) (by omega)
    refine ⟨M'', ?_, fun c hc => (h2 c hc).trans (mw_n M' hc), fun j => ?_⟩
    · rw [fX4_search_94_s, vv_z M' 16 2, hv, if_neg (fun q => by have := (z_le (by omega) (by omega) (by omega) (by omega)).mp q; omega), gd_z _ (by omega) (by omega) (by omega), gd_z _ (by omega) (by omega) (by omega), n_cl (by omega), lq_e, lq_e, z_1, h1]
    · rw [h3 j, mw_n M' (show 29 ≠ 28 by decide), mw_at]
      by_cases q1 : k + 1 ≤ j ∧ j < n
      · rw [if_pos q1, if_pos (by omega)]
      · rw [if_neg q1]
        by_cases q2 : j = k
        · rw [if_pos ⟨rfl, q2⟩, if_pos (by omega), q2]
        · rw [if_neg (fun q => q2 q.2), if_neg (by omega)]
