/-- two rows hold the places and hours of a plan -/
def Pr (M' : Mem) (c d : Nat) (n : Nat) (f : Nat → Nat) : Prop := ∀ i, i < n → M' c i = zI ((f i % 6 : Nat) : Int) ∧ M' d i = zI ((f i / 6 : Nat) : Int) ∧ f i < 96
theorem ahead_loop (N : Nat) {M M' : Mem} {n : Nat} (hn4 : n ≤ 4) (hC : Cs M n M') {f g : Nat → Nat} (hf : Pr M' 11 12 n f) (hg : Pr M' 13 14 n g) : ∀ (m i n1 : Nat), i + m = n → m < n1 → (∀ j, j < i → f j = g j) → ∃ r : Int32, fX1_isTriedAhead_2 N n1 (zI i) M' = some (r, M') ∧ (r = 0 ∨ r = 1) ∧ (r = 1 ↔ pl_lx n f g) := by
  intro m
  induction m with
  | zero =>
    intro i n1 hi hn1 he
    obtain ⟨n1, rfl⟩ : ∃ q, n1 = q + 1 := ⟨n1 - 1, by omega⟩
    have : i = n := by omega
    subst this
    rw [fX1_isTriedAhead_2_s, vv_z M' 9 6, hC.2.2.1, if_pos ((z_le (by omega) (by omega) (by omega) (by omega)).mpr (by omega))]
    exact ⟨0, rfl, Or.inl rfl, ⟨fun q => absurd q (by decide), fun q => absurd q (pl_irr he)⟩⟩
  | succ m ih =>
    intro i n1 hi hn1 he
    obtain ⟨n1, rfl⟩ : ∃ q, n1 = q + 1 := ⟨n1 - 1, by omega⟩
    obtain ⟨f1, f2, f3⟩ := hf i (by omega)
    obtain ⟨g1, g2, g3⟩ := hg i (by omega)
    have hdec : f i ≠ g i → (pl_lx n f g ↔ f i < g i) := fun hne => by
      constructor
      · rintro ⟨k, k1, k2, k3⟩
        rcases Nat.lt_trichotomy k i with q | q | q
        · have := he k q; omega
        · subst q; exact k3
        · exact absurd (k2 i q) hne
      · intro q
        exact ⟨i, by omega, he, q⟩
    rw [fX1_isTriedAhead_2_s, vv_z M' 9 6, hC.2.2.1, if_neg (fun q => by have := (z_le (by omega) (by omega) (by omega) (by omega)).mp q; omega), gd_z _ (by omega) (by omega) (by omega), gd_z _ (by omega) (by omega) (by omega), n_cl (by omega), f1, f2, g1, g2]
    by_cases h1 : f i / 6 = g i / 6
    · rw [if_pos (by rw [h1]), gd_z _ (by omega) (by omega) (by omega), gd_z _ (by omega) (by omega) (by omega)]
      by_cases h2 : f i % 6 = g i % 6
      · rw [if_pos (by rw [h2]), lq_e, z_1]
        exact ih (i + 1) n1 (by omega) (by omega) (fun j hj => by
          rcases Nat.lt_or_ge j i with q | q
          · exact he j q
          · rw [show j = i by omega]; omega)
      · rw [if_neg (fun q => h2 (by have := (z_eq (by omega) (by omega) (by omega) (by omega)).mp q; omega)), gd_z _ (by omega) (by omega) (by omega), gd_z _ (by omega) (by omega) (by omega), hdec (by omega)]
        by_cases h3 : g i % 6 ≤ f i % 6
        · rw [if_pos ((z_le (by omega) (by omega) (by omega) (by omega)).mpr (by omega))]
          exact ⟨0, rfl, Or.inl rfl, ⟨fun q => absurd q (by decide), fun q => by omega⟩⟩
        · rw [if_neg (fun q => h3 (by have := (z_le (by omega) (by omega) (by omega) (by omega)).mp q; omega))]
          exact ⟨1, rfl, Or.inr rfl, ⟨fun _ => by omega, fun _ => rfl⟩⟩
    · rw [if_neg (fun q => h1 (by have := (z_eq (by omega) (by omega) (by omega) (by omega)).mp q; omega)), gd_z _ (by omega) (by omega) (by omega), gd_z _ (by omega) (by omega) (by omega), hdec (fun e => h1 (by rw [e]))]
      by_cases h3 : g i / 6 ≤ f i / 6
      · rw [if_pos ((z_le (by omega) (by omega) (by omega) (by omega)).mpr (by omega))]
        exact ⟨0, rfl, Or.inl rfl, ⟨fun q => absurd q (by decide), fun q => by omega⟩⟩
      · rw [if_neg (fun q => h3 (by have := (z_le (by omega) (by omega) (by omega) (by omega)).mp q; omega))]
        exact ⟨1, rfl, Or.inr rfl, ⟨fun _ => by omega, fun _ => rfl⟩⟩
theorem keep_loop (N : Nat) {n : Nat} (hn4 : n ≤ 4) : ∀ (m i n1 : Nat) (M' : Mem), vv M' 9 6 = n → i + m = n → m < n1 → ∃ M'', fX1_keepIfAhead_23 N n1 (zI i) M' = some (0, M'') ∧ (∀ c, c ≠ 13 → c ≠ 14 → M'' c = M' c) ∧ (∀ j, M'' 13 j = if i ≤ j ∧ j < n then M' 11 j else M' 13 j) ∧ ∀ j, M'' 14 j = if i ≤ j ∧ j < n then M' 12 j else M' 14 j := by
  intro m
  induction m with
  | zero =>
    intro i n1 M' hv hi hn1
    obtain ⟨n1, rfl⟩ : ∃ q, n1 = q + 1 := ⟨n1 - 1, by omega⟩
    refine ⟨M', ?_, fun c _ _ => rfl, fun j => by rw [if_neg (by omega)], fun j => by rw [if_neg (by omega)]⟩
    rw [fX1_keepIfAhead_23_s, vv_z M' 9 6, hv, if_pos ((z_le (by omega) (by omega) (by omega) (by omega)).mpr (by omega))]
  | succ m ih =>
    intro i n1 M' hv hi hn1
    obtain ⟨n1, rfl⟩ : ∃ q, n1 = q + 1 := ⟨n1 - 1, by omega⟩
    rw [fX1_keepIfAhead_23_s, vv_z M' 9 6, hv, if_neg (fun q => by have := (z_le (by omega) (by omega) (by omega) (by omega)).mp q; omega), gd_z _ (by omega) (by omega) (by omega), gd_z _ (by omega) (by omega) (by omega), lq_e, n_cl (by omega), gd_z _ (by omega) (by omega) (by omega), gd_z _ (by omega) (by omega) (by omega), lq_e, lq_e, z_1]
    obtain ⟨M'', a1, a2, a3, a4⟩ := ih (i + 1) n1 (mw (mw M' 13 i (M' 11 i)) 14 i (mw M' 13 i (M' 11 i) 12 i)) (by unfold vv; rw [mw_n _ (by decide), mw_n _ (by decide)]; exact hv) (by omega) (by omega)
    refine ⟨M'', a1, fun c h1 h2 => by rw [a2 c h1 h2, mw_n _ h2, mw_n _ h1], fun j => ?_, fun j => ?_⟩
    · rw [a3 j, mw_n _ (by decide), mw_n _ (by decide), mw_n _ (by decide), mw_at]
      by_cases q1 : j = i
      · subst q1
        rw [if_neg (by omega), if_pos ⟨rfl, rfl⟩, if_pos (by omega)]
      · by_cases q2 : i + 1 ≤ j ∧ j < n
        · rw [if_pos q2, if_pos (by omega)]
        · rw [if_neg q2, if_neg (by omega), if_neg (by omega)]
    · rw [a4 j, mw_n _ (show (12 : Nat) ≠ 14 by decide), mw_n _ (show (12 : Nat) ≠ 13 by decide), mw_at, mw_n _ (show (14 : Nat) ≠ 13 by decide)]
      by_cases q1 : j = i
      · subst q1
        rw [if_neg (by omega), if_pos ⟨rfl, rfl⟩, if_pos (by omega)]
      · by_cases q2 : i + 1 ≤ j ∧ j < n
        · rw [if_pos q2, if_pos (by omega)]
        · rw [if_neg q2, if_neg (by omega), if_neg (by omega)]
/-- what the searcher holds: no plan yet, or a plan and its lateness -/
def St (M M' : Mem) (n : Nat) (b : Int) (g : Nat → Nat) : Prop := M' 9 8 = zI b ∧ (b = 100000 ∨ (-6000 ≤ b ∧ b ≤ 6000 ∧ pl_ok n (mayB M) (clB M) g ∧ pl_tot (rCost M) g n = b ∧ Pr M' 13 14 n g))
def Cv (M : Mem) (n : Nat) (b : Int) (g h : Nat → Nat) : Prop := b < 100000 ∧ pl_cov n (rCost M) b g h
theorem St.c {M M1 M2 : Mem} {n : Nat} {b : Int} {g : Nat → Nat} (h : St M M1 n b g) (h9 : M2 9 8 = M1 9 8) (h13 : M2 13 = M1 13) (h14 : M2 14 = M1 14) : St M M2 n b g := by
  unfold St Pr at h ⊢
  rw [h9, h13, h14]
  exact h
theorem e_keep (N : Nat) (hN : 100 ≤ N) {M : Mem} (hR : Re M) {n : Nat} (hn4 : n ≤ 4) {M' : Mem} (hC : Cs M n M') {f g : Nat → Nat} {b : Int} (hf : Pr M' 11 12 n f) (hok : pl_ok n (mayB M) (clB M) f) (hS : St M M' n b g) (hle : pl_tot (rCost M) f n ≤ b) : ∃ (M'' : Mem) (b' : Int) (g' : Nat → Nat), fX1_keepIfAhead N (zI (pl_tot (rCost M) f n)) M' = some (0, M'') ∧ (Cs M n M'' ∧ ∀ c, 14 < c → M'' c = M' c) ∧ M'' 10 = M' 10 ∧ M'' 11 = M' 11 ∧ M'' 12 = M' 12 ∧ St M M'' n b' g' ∧ (∀ h, Cv M n b g h → Cv M n b' g' h) ∧ ∀ h, (∀ i, i < n → h i = f i) → Cv M n b' g' h := by
  have htb := tot_b hR.1 n hn4 (fun j hj => (hf j hj).2.2)
  have hbb : -6000 ≤ b ∧ b ≤ 100000 := by rcases hS.2 with q | ⟨q1, q2, -⟩ <;> omega
  have htot : ∀ h : Nat → Nat, (∀ i, i < n → h i = f i) → pl_tot (rCost M) h n = pl_tot (rCost M) f n := fun h e => pl_tot_c e
  -- writing the plan down
  have wr : ∀ b2, b2 = pl_tot (rCost M) f n → ∃ M'' : Mem, fX1_keepIfAhead_23 N N 0 (mw M' 9 8 (zI b2)) = some (0, M'') ∧ (Cs M n M'' ∧ ∀ c, 14 < c → M'' c = M' c) ∧ M'' 10 = M' 10 ∧ M'' 11 = M' 11 ∧ M'' 12 = M' 12 ∧ St M M'' n b2 f := by
    intro b2 hb2
    obtain ⟨M'', a1, a2, a3, a4⟩ := keep_loop N hn4 n 0 N (mw M' 9 8 (zI b2)) (by unfold vv; rw [mw_o M' _ (by decide)]; exact hC.2.2.1) (by omega) (by omega)
    have e9 : ∀ k, k ≠ 8 → M'' 9 k = M' 9 k := fun k hk => by rw [a2 9 (by decide) (by decide), mw_o M' _ (by omega)]
    refine ⟨M'', a1, ⟨⟨fun c hc => by rw [a2 c (by omega) (by omega), mw_n M' (by omega)]; exact hC.1 c hc, ?_, ?_, ?_⟩, fun c hc => by rw [a2 c (by omega) (by omega), mw_n M' (by omega)]⟩, by rw [a2 10 (by decide) (by decide), mw_n M' (by decide)], by rw [a2 11 (by decide) (by decide), mw_n M' (by decide)], by rw [a2 12 (by decide) (by decide), mw_n M' (by decide)], ?_, Or.inr ⟨by omega, by omega, hok, hb2.symm, fun j hj => ?_⟩⟩
    · unfold vv; rw [e9 5 (by decide)]; exact hC.2.1
    · unfold vv; rw [e9 6 (by decide)]; exact hC.2.2.1
    · unfold vv; rw [e9 7 (by decide)]; exact hC.2.2.2
    · rw [a2 9 (by decide) (by decide), mw_i]
    · rw [a3 j, a4 j, if_pos (by omega), if_pos (by omega), mw_n M' (by decide), mw_n M' (by decide)]
      exact hf j hj
  unfold fX1_keepIfAhead
  rw [hS.1]
  by_cases hlt : pl_tot (rCost M) f n < b
  · rw [if_pos ((z_lt (by omega) (by omega) (by omega) (by omega)).mpr hlt), lq_e]
    obtain ⟨M'', w1, w2, w3, w4, w5, w6⟩ := wr _ rfl
    refine ⟨M'', _, f, w1, w2, w3, w4, w5, w6, fun h hh => ⟨by omega, ?_⟩, fun h hh => ⟨by omega, Or.inr ⟨(htot h hh).symm, pl_irr hh⟩⟩⟩
    rcases hh.2 with q | ⟨q, -⟩
    · exact Or.inl (by omega)
    · exact Or.inl (by omega)
  · have heq : pl_tot (rCost M) f n = b := by omega
    rw [if_neg (fun q => hlt ((z_lt (by omega) (by omega) (by omega) (by omega)).mp q))]
    rcases hS.2 with q | ⟨s1, s2, s3, s4, s5⟩
    · omega
    · obtain ⟨r, r1, r2, r3⟩ := ahead_loop N hn4 hC hf s5 n 0 N (by omega) (by omega) (fun j hj => by omega)
      have ea : fX1_isTriedAhead N M' = some (r, M') := r1
      rw [bd_e _ ea]
      rcases r2 with rfl | rfl
      · rw [if_pos rfl]
        have hno : ¬ pl_lx n f g := fun q => absurd (r3.mpr q) (by decide)
        exact ⟨M', b, g, rfl, ⟨hC, fun _ _ => rfl⟩, rfl, rfl, rfl, hS, fun h hh => hh, fun h hh => ⟨by omega, Or.inr ⟨by rw [htot h hh]; omega, fun q => hno (pl_eqL (fun i hi => (hh i hi).symm) q)⟩⟩⟩
      · rw [if_neg (by decide), lq_e]
        have hyes : pl_lx n f g := r3.mp rfl
        obtain ⟨M'', w1, w2, w3, w4, w5, w6⟩ := wr _ rfl
        refine ⟨M'', _, f, w1, w2, w3, w4, w5, w6, fun h hh => ⟨by omega, ?_⟩, fun h hh => ⟨by omega, Or.inr ⟨(htot h hh).symm, pl_irr hh⟩⟩⟩
        rcases hh.2 with q | ⟨q, q2⟩
        · exact Or.inl (by omega)
        · exact Or.inr ⟨by omega, fun z => q2 (pl_tr z hyes)⟩
