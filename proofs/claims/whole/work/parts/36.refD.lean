/-- the same below cell 28 -/
def Ag (M M' : Mem) : Prop := ∀ c, c < 28 → M' c = M c
theorem Ag.rf (M : Mem) : Ag M M := fun _ _ => rfl
theorem Ag.v {M M' : Mem} (h : Ag M M') {c k : Nat} (hc : c < 28) : vv M' c k = vv M c k := by unfold vv; rw [h c hc]
theorem Ag.w {M M' : Mem} (h : Ag M M') {c k : Nat} {x : Int32} (hc : 28 ≤ c) : Ag M (mw M' c k x) := fun q hq => by rw [mw_n M' (by omega)]; exact h q hq
theorem Ag.mw {M M' : Mem} (h : Ag M M') (hM : Mw M) : Mw M' := by
  unfold Mw at hM ⊢
  simp only [h.v (show 16 < 28 by decide), h.v (show 17 < 28 by decide), h.v (show 18 < 28 by decide), h.v (show 19 < 28 by decide), h.v (show 20 < 28 by decide), h.v (show 21 < 28 by decide), h.v (show 22 < 28 by decide), h.v (show 23 < 28 by decide), h.v (show 24 < 28 by decide), h.v (show 25 < 28 by decide), h.v (show 26 < 28 by decide), h.v (show 27 < 28 by decide)]
  exact hM
theorem Ag.may {M M' : Mem} (h : Ag M M') (i a : Nat) : rMay M' i a ↔ rMay M i a := by
  unfold rMay rTide rDeep rGear
  simp only [h.v (show 16 < 28 by decide), h.v (show 17 < 28 by decide), h.v (show 18 < 28 by decide), h.v (show 19 < 28 by decide), h.v (show 20 < 28 by decide), h.v (show 21 < 28 by decide), h.v (show 22 < 28 by decide), h.v (show 24 < 28 by decide), h.v (show 26 < 28 by decide), h.v (show 27 < 28 by decide)]
theorem Ag.cost {M M' : Mem} (h : Ag M M') (i a : Nat) : rCost M' i a = rCost M i a := by
  unfold rCost
  rw [h.v (by decide), h.v (by decide)]
theorem Ag.meet {M M' : Mem} (h : Ag M M') (s a t b : Nat) : rMeet M' s a t b ↔ rMeet M s a t b := by
  unfold rMeet
  simp only [h.v (show 21 < 28 by decide), h.v (show 23 < 28 by decide)]
/-- the first s ships lie as f says -/
def Tr (M : Mem) (s : Nat) (f : Nat → Nat) : Prop := ∀ j, j < s → M 29 j = zI (f j) ∧ f j < 96
theorem clear_0 (N : Nat) (x1 x2 : Int32) {M : Mem} {s : Nat} (hs : s ≤ 4) (h1 : x1 = zI s) : ∀ (m k n : Nat), k + m = s → m < n → fX4_isClear_5 N n x1 x2 0 (zI k) M = some (0, M) := by
  subst h1
  intro m
  induction m with
  | zero =>
    intro k n hk hn
    obtain ⟨n, rfl⟩ : ∃ z, n = z + 1 := ⟨n - 1, by omega⟩
    rw [fX4_isClear_5_s, if_pos ((z_le (by omega) (by omega) (by omega) (by omega)).mpr (by omega)), gp_t _ (Or.inl rfl)]
  | succ m ih =>
    intro k n hk hn
    obtain ⟨n, rfl⟩ : ∃ z, n = z + 1 := ⟨n - 1, by omega⟩
    rw [fX4_isClear_5_s, if_neg (fun q => by have := (z_le (by omega) (by omega) (by omega) (by omega)).mp q; omega), if_pos rfl, lq_e, z_1]
    exact ih (k + 1) n (by omega) (by omega)
theorem clear_1 (N : Nat) {M : Mem} (hM : Mw M) {s a : Nat} {f : Nat → Nat} (hs : s < 4) (ha : a < 96) (hT : Tr M s f) : ∀ (m k n : Nat), k + m = s → m < n → ∃ r : Int32, fX4_isClear_5 N n (zI s) (zI a) 1 (zI k) M = some (r, M) ∧ (r = 0 ∨ r = 1) ∧ (r = 1 ↔ ∀ t, k ≤ t → t < s → ¬ rMeet M s a t (f t)) := by
  intro m
  induction m with
  | zero =>
    intro k n hk hn
    obtain ⟨n, rfl⟩ : ∃ z, n = z + 1 := ⟨n - 1, by omega⟩
    rw [fX4_isClear_5_s, if_pos ((z_le (by omega) (by omega) (by omega) (by omega)).mpr (by omega)), gp_t _ (Or.inr rfl)]
    exact ⟨1, rfl, Or.inr rfl, ⟨fun _ t h1 h2 => by omega, fun _ => rfl⟩⟩
  | succ m ih =>
    intro k n hk hn
    obtain ⟨n, rfl⟩ : ∃ z, n = z + 1 := ⟨n - 1, by omega⟩
    obtain ⟨e, hfk⟩ := hT k (by omega)
    obtain ⟨r, a1, a2, a3⟩ := e_meet N hM hs (t := k) (by omega) ha hfk
    rw [fX4_isClear_5_s, if_neg (fun q => by have := (z_le (by omega) (by omega) (by omega) (by omega)).mp q; omega), if_neg (by decide), gd_z _ (by omega) (by omega) (by omega), n_cl (by omega), e, bd_e _ a1, lq_e, lq_e, z_1]
    rcases a2 with rfl | rfl
    · rw [if_pos rfl]
      obtain ⟨r, b1, b2, b3⟩ := ih (k + 1) n (by omega) (by omega)
      refine ⟨r, b1, b2, b3.trans ⟨fun h t h1 h2 => ?_, fun h t h1 h2 => h t (by omega) h2⟩⟩
      rcases Nat.lt_or_ge k t with z | z
      · exact h t z h2
      · rw [show t = k by omega]; exact fun q => absurd (a3.mpr q) (by decide)
    · rw [if_neg (by decide), clear_0 N _ _ (by omega) rfl m (k + 1) n (by omega) (by omega)]
      exact ⟨0, rfl, Or.inl rfl, ⟨fun q => absurd q (by decide), fun q => absurd (a3.mp rfl) (q k (Nat.le_refl _) (by omega))⟩⟩
theorem e_isClear (N : Nat) (hN : 100 ≤ N) {M : Mem} (hM : Mw M) {s a : Nat} {f : Nat → Nat} (hs : s < 4) (ha : a < 96) (hT : Tr M s f) : ∃ r : Int32, fX4_isClear N (zI s) (zI a) M = some (r, M) ∧ (r = 0 ∨ r = 1) ∧ (r = 1 ↔ ∀ t, t < s → ¬ rMeet M s a t (f t)) := by
  unfold fX4_isClear
  have e : (0 : Int32) = zI ((0 : Nat) : Int) := by decide
  obtain ⟨r, b1, b2, b3⟩ := clear_1 N hM hs ha hT s 0 N (by omega) (by omega)
  exact ⟨r, by rw [← b1]; rfl, b2, b3.trans ⟨fun h t h1 => h t (by omega) h1, fun h t _ h2 => h t h2⟩⟩
theorem tot_b {M : Mem} (hM : Mw M) {f : Nat → Nat} : ∀ k, k ≤ 4 → (∀ j, j < k → f j < 96) → -1500 * (k : Int) ≤ pl_tot (rCost M) f k ∧ pl_tot (rCost M) f k ≤ 1500 * (k : Int)
  | 0, _, _ => by show -1500 * 0 ≤ (0 : Int) ∧ (0 : Int) ≤ 1500 * 0; omega
  | k + 1, hk, hf => by
    have h1 := tot_b hM k (by omega) (fun j hj => hf j (by omega))
    have h2 := rCost_b hM (i := k) (a := f k) (by omega) (hf k (by omega))
    show -1500 * ((k + 1 : Nat) : Int) ≤ pl_tot (rCost M) f k + rCost M k (f k) ∧ pl_tot (rCost M) f k + rCost M k (f k) ≤ 1500 * ((k + 1 : Nat) : Int)
    omega
theorem upTo_loop (N : Nat) {M : Mem} (hM : Mw M) {s : Nat} {f : Nat → Nat} (hs : s ≤ 4) (hT : Tr M s f) : ∀ (m k n : Nat), k + m = s → m < n → fX4_costUpTo_4 N n (zI s) (zI (pl_tot (rCost M) f k)) (zI k) M = some (zI (pl_tot (rCost M) f s), M) := by
  intro m
  induction m with
  | zero =>
    intro k n hk hn
    obtain ⟨n, rfl⟩ : ∃ z, n = z + 1 := ⟨n - 1, by omega⟩
    have : k = s := by omega
    subst this
    rw [fX4_costUpTo_4_s, if_pos ((z_le (by omega) (by omega) (by omega) (by omega)).mpr (by omega))]
  | succ m ih =>
    intro k n hk hn
    obtain ⟨n, rfl⟩ : ∃ z, n = z + 1 := ⟨n - 1, by omega⟩
    obtain ⟨e, hfk⟩ := hT k (by omega)
    rw [fX4_costUpTo_4_s, if_neg (fun q => by have := (z_le (by omega) (by omega) (by omega) (by omega)).mp q; omega), gd_z _ (by omega) (by omega) (by omega), n_cl (by omega), e, bd_e _ (e_cost N hM (by omega) hfk), lq_e, lq_e, z_1, z_add]
    exact ih (k + 1) n (by omega) (by omega)
theorem e_costUpTo (N : Nat) (hN : 100 ≤ N) {M : Mem} (hM : Mw M) {s : Nat} {f : Nat → Nat} (hs : s ≤ 4) (hT : Tr M s f) : fX4_costUpTo N (zI s) M = some (zI (pl_tot (rCost M) f s), M) := by
  unfold fX4_costUpTo
  exact upTo_loop N hM hs hT s 0 N (by omega) (by omega)
noncomputable def mayB (M : Mem) : Nat → Nat → Bool := fun i a => @decide (rMay M i a) (Classical.propDecidable _)
noncomputable def clB (M : Mem) : Nat → Nat → Nat → Nat → Bool := fun i a j b => @decide (rMeet M i a j b) (Classical.propDecidable _)
theorem mayB_t {M : Mem} {i a : Nat} : mayB M i a = true ↔ rMay M i a := by unfold mayB; exact @decide_eq_true_iff _ (Classical.propDecidable _)
theorem clB_f {M : Mem} {i a j b : Nat} : clB M i a j b = false ↔ ¬ rMeet M i a j b := by unfold clB; exact @decide_eq_false_iff_not _ (Classical.propDecidable _)
