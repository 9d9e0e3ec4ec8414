def zL (a : Nat) : Int64 := Int64.ofInt (a : Int)
theorem L_div {a : Nat} (h : a < 1000000000000) : zL a / 100 = zL (a / 100) := by
  have e : (100 : Int64) = Int64.ofInt 100 := by decide
  have m1 : Int64.minValue.toInt = -9223372036854775808 := by decide
  have m2 : Int64.maxValue.toInt = 9223372036854775807 := by decide
  unfold zL
  rw [e, ← Int64.ofInt_tdiv (by rw [m1]; omega) (by rw [m2]; omega) (by rw [m1]; omega) (by rw [m2]; omega), Int.tdiv_eq_ediv_of_nonneg (by omega)]
  congr 1
theorem L_rem {a : Nat} (h : a < 1000000000000) : zL a - zL a / 100 * 100 = zL (a % 100) := by
  have e : (100 : Int64) = Int64.ofInt 100 := by decide
  rw [L_div h, e]
  unfold zL
  rw [← Int64.ofInt_mul, ← Int64.ofInt_sub]
  congr 1
  omega
theorem L_i {b : Nat} (h : b < 1000) : (zI (b : Int)).toInt64 = zL b := by
  have m1 : Int32.minValue.toInt = -2147483648 := by decide
  have m2 : Int32.maxValue.toInt = 2147483647 := by decide
  unfold zI zL
  exact Int32.toInt64_ofInt (by rw [m1]; omega) (by rw [m2]; omega)
theorem L_acc (a b : Nat) : (100 : Int64) * zL a + zL b = zL (100 * a + b) := by
  have e : (100 : Int64) = Int64.ofInt 100 := by decide
  rw [e]
  unfold zL
  rw [← Int64.ofInt_mul, ← Int64.ofInt_add]
  congr 1
theorem L_eq {a b : Nat} (ha : a < 1000000000000) (hb : b < 1000000000000) : zL a = zL b ↔ a = b := by
  constructor
  · intro h
    have h2 : (zL a).toInt = (zL b).toInt := by rw [h]
    unfold zL at h2
    rw [Int64.toInt_ofInt_of_le (by omega) (by omega), Int64.toInt_ofInt_of_le (by omega) (by omega)] at h2
    omega
  · intro h
    rw [h]
theorem lg_r (x : Int64) : lg_cmp x x = 0 := by
  unfold lg_cmp
  rw [if_neg (Int64.lt_irrefl), if_pos rfl]
theorem lg_0 (x y : Int64) : lg_cmp x y = 0 ↔ x = y := by
  constructor
  · intro h
    by_cases e : x = y
    · exact e
    · unfold lg_cmp at h
      rw [if_neg e] at h
      by_cases q : x > y
      · rw [if_pos q] at h
        exact absurd h (by decide)
      · rw [if_neg q] at h
        exact absurd h (by decide)
  · intro h
    rw [h, lg_r]
def cod (f : Nat → Nat) : Nat → Nat
  | 0 => 0
  | k + 1 => 100 * cod f k + f k
theorem cod_lt {f : Nat → Nat} : ∀ k, (∀ i, i < k → f i < 96) → cod f k < 100 ^ k
  | 0, _ => by unfold cod; omega
  | k + 1, h => by
    have h1 := cod_lt k (fun i hi => h i (by omega))
    have h2 := h k (by omega)
    unfold cod
    rw [Nat.pow_succ]
    omega
theorem cod_b {f : Nat → Nat} {k : Nat} (hk : k ≤ 4) (h : ∀ i, i < k → f i < 96) : cod f k < 1000000000 := by
  have h1 := cod_lt k h
  have h2 : (100 : Nat) ^ k ≤ 100 ^ 4 := Nat.pow_le_pow_right (by decide) hk
  omega
theorem chg_dn (N : Nat) {n : Nat} (hn4 : n ≤ 4) {f g : Nat → Nat} {M' : Mem} (h28 : ∀ i, i < n → M' 28 i = zI (g i)) (hf : ∀ i, i < n → f i < 96) (hg : ∀ i, i < n → g i < 96) : ∀ (k n1 c : Nat), k ≤ n → k < n1 → fX4_change_121 N n1 (zL (cod f k)) (zI c) (zI ((k : Int) - 1)) M' = some (zI ((c + cdn f g k : Nat) : Int), M') := by
  intro k
  induction k with
  | zero =>
    intro n1 c hk hn1
    obtain ⟨n1, rfl⟩ : ∃ q, n1 = q + 1 := ⟨n1 - 1, by omega⟩
    rw [fX4_change_121_s, i0, if_pos ((z_lt (by omega) (by omega) (by omega) (by omega)).mpr (by omega))]
    rfl
  | succ k ih =>
    intro n1 c hk hn1
    obtain ⟨n1, rfl⟩ : ∃ q, n1 = q + 1 := ⟨n1 - 1, by omega⟩
    have ek : (((k + 1 : Nat) : Int) - 1) = (k : Int) := by omega
    have hb := cod_b (f := f) (k := k + 1) (by omega) (fun i hi => hf i (by omega))
    have hfk := hf k (by omega)
    have hgk := hg k (by omega)
    have hb' : 100 * cod f k + f k < 1000000000 := hb
    have hc : cod f (k + 1) = 100 * cod f k + f k := rfl
    have e1 : (100 * cod f k + f k) % 100 = f k := by omega
    have e2 : (100 * cod f k + f k) / 100 = cod f k := by omega
    have go : ∀ (y : Int32) (c1 : Nat), zI (c : Int) + y = zI (c1 : Int) → c1 + cdn f g k = c + cdn f g (k + 1) → fX4_change_150 N (fX4_change_121 N n1) (zL (100 * cod f k + f k)) (zI k) (zI c) y M' = some (zI ((c + cdn f g (k + 1) : Nat) : Int), M') := fun y c1 h1 h2 => by
      unfold fX4_change_150
      rw [lq_e, lq_e, lq_e, h1, L_div (by omega), e2, iN1, z_add, ← Int.sub_eq_add_neg, ih n1 c1 (by omega) (by omega), h2]
    rw [fX4_change_121_s, ek, hc, i0, if_neg (fun q => by have := (z_lt (by omega) (by omega) (by omega) (by omega)).mp q; omega), gd_z _ (by omega) (by omega) (by omega), n_cl (by omega), h28 k (by omega), L_rem (by omega), e1, L_i (by omega), ← i0]
    by_cases h : f k = g k
    · rw [if_pos ((lg_0 _ _).mpr (by rw [h]))]
      exact go 0 c (by rw [i0, z_add, Int.add_zero]) (by rw [cdn, if_pos h]; rfl)
    · rw [if_neg (fun q => h ((L_eq (by omega) (by omega)).mp ((lg_0 _ _).mp q)))]
      exact go 1 (c + 1) (z_1 c) (by rw [cdn, if_neg h]; omega)
theorem chg_up (N : Nat) {n s : Nat} (hn4 : n ≤ 4) (hs : s < 4) {f : Nat → Nat} {M' : Mem} (h162 : M' 16 2 = zI n) (h28 : ∀ i, i < n → M' 28 i = zI (f i)) (hf : ∀ i, i < n → f i < 96) (x2 : Int32) : ∀ (m k n1 : Nat), k + m = n → m < n1 → fX4_change_56 N n1 (zI s) x2 (zL (cod f k)) (zI k) M' = bd (fX4_search N (mw M' 24 s x2)) (fun r4 M5 => gp (r4 = 0 ∨ r4 = 1) (lq (mw M5 16 4 r4) (fun M7 => if ((M7 16 4) = 0 : Prop) then (some ((-1), M7)) else (lq ((M7 16 2) - (1 : Int32)) (fun z9 => fX4_change_121 N N (zL (cod f n)) 0 z9 M7))))) := by
  intro m
  induction m with
  | zero =>
    intro k n1 hk hn1
    obtain ⟨n1, rfl⟩ : ∃ q, n1 = q + 1 := ⟨n1 - 1, by omega⟩
    have e : k = n := by omega
    subst e
    rw [fX4_change_56_s, h162, if_pos ((z_le (by omega) (by omega) (by omega) (by omega)).mpr (by omega)), gd_z _ (by omega) (by omega) (by omega), lq_e, n_cl (by omega)]
  | succ m ih =>
    intro k n1 hk hn1
    obtain ⟨n1, rfl⟩ : ∃ q, n1 = q + 1 := ⟨n1 - 1, by omega⟩
    have hfk := hf k (by omega)
    rw [fX4_change_56_s, h162, if_neg (fun q => by have := (z_le (by omega) (by omega) (by omega) (by omega)).mp q; omega), gd_z _ (by omega) (by omega) (by omega), n_cl (by omega), h28 k (by omega), L_i (by omega), lq_e, lq_e, z_1, L_acc]
    exact ih (k + 1) n1 (by omega) (by omega)
theorem chg_39 (N : Nat) (x1 x2 y : Int32) (hy : ¬ y ≤ 0) (M : Mem) : fX4_change_39 N x1 x2 y M = some (0, mw M 16 0 y) := by
  unfold fX4_change_39
  rw [lq_e, mw_i, if_neg hy]
theorem chg_4 (N : Nat) (hN : 100 ≤ N) {n s : Nat} (hn4 : n ≤ 4) (hs : s < n) {f : Nat → Nat} {M1 : Mem} (hn : vv M1 16 2 = n) (h164 : M1 16 4 = 1) (h28 : ∀ i, i < n → M1 28 i = zI (f i)) (hf : ∀ i, i < n → f i < 96) {x2 : Int32} (h2 : 0 ≤ x2.toInt ∧ x2.toInt ≤ 15) : fX4_change N (zI s) x2 M1 = bd (fX4_search N (mw (mw M1 16 0 0) 24 s x2)) (fun r4 M5 => gp (r4 = 0 ∨ r4 = 1) (lq (mw M5 16 4 r4) (fun M7 => if ((M7 16 4) = 0 : Prop) then (some ((-1), M7)) else (lq ((M7 16 2) - (1 : Int32)) (fun z9 => fX4_change_121 N N (zL (cod f n)) 0 z9 M7))))) := by
  have w1 : (zI (s : Int)).toInt = s := z_t (by omega) (by omega)
  have k1 : 0 ≤ (zI (s : Int)).toInt ∧ (zI (s : Int)).toInt < vv M1 16 2 := by omega
  unfold fX4_change
  rw [bd_e _ (e_isShip4 N _ _), if_pos k1, if_neg (by decide), bd_e _ (e_inI N _ t0 j15 _), if_pos h2, if_neg (by decide), h164, if_neg (by decide)]
  unfold fX4_change_39
  rw [lq_e, mw_i, if_pos (by decide)]
  have q := chg_up N (n := n) (s := s) hn4 (by omega) (f := f) (M' := mw M1 16 0 0) (by rw [mw_o _ _ (by decide), vv_z M1 16 2, hn]) (fun i hi => by rw [mw_n _ (by decide)]; exact h28 i hi) hf x2 n 0 N (by omega) (by omega)
  rw [z0n] at q
  exact q
theorem s_change (N : Nat) (hN : 200000000 ≤ N) {M : Mem} (hI : Inv M) (x1 x2 : Int32) : ∃ (q : Nat) (r : Int32) (M1 : Mem) (r' : Int32) (M2 : Mem), fX3_change N x1 x2 M = some ((q, r), M1) ∧ (q = 0 ∨ q = 3 ∨ q = 1 ∨ q = 2) ∧ fX4_change N x1 x2 M1 = some (r', M2) ∧ M2 16 0 = hcL_change q ∧ (q = 0 → r = r') ∧ Inv M2 := by
  obtain ⟨⟨a, b, c, d, t, s', w, fx, o⟩, u, pn⟩ := id hI
  have hb := b.1
  by_cases h1 : 0 ≤ x1.toInt ∧ x1.toInt < vv M 16 2
  · by_cases h2 : 0 ≤ x2.toInt ∧ x2.toInt ≤ 15
    · by_cases h3 : vv M 16 4 = 0
      · have e04 : M 0 4 = 0 := by rw [vv_z M 0 4, pn.1, h3]; rfl
        have e164 : M 16 4 = 0 := by rw [vv_z M 16 4, h3]; rfl
        refine ⟨2, 0, M, 0, mw M 16 0 3, ?_, Or.inr (Or.inr (Or.inr rfl)), ?_, ?_, fun e => absurd e (by decide), (Zf.w 3).inv hI⟩
        · unfold fX3_change
          rw [bd_e _ (e_isShip3 N _ M), b.2, if_pos h1, if_neg (by decide), bd_e _ (e_wiI N _ t0 j15 M), if_pos h2, if_neg (by decide), e04, if_pos rfl]
        · unfold fX4_change
          rw [bd_e _ (e_isShip4 N _ _), if_pos h1, if_neg (by decide), bd_e _ (e_inI N _ t0 j15 _), if_pos h2, if_neg (by decide), e164, if_pos rfl, chg_39 N _ _ _ (by decide)]
        · rw [mw_i]; rfl
      · have hpl : vv M 16 4 = 1 ∧ ∃ g : Nat → Nat, ∀ i : Nat, (i : Int) < vv M 16 2 → g i < 96 ∧ vv M 28 i = g i ∧ vv M (5 + i) 9 = ((g i % 6 : Nat) : Int) ∧ vv M (5 + i) 10 = ((g i / 6 : Nat) : Int) ∧ ∀ j : Nat, (j : Int) < vv M 16 2 → j ≠ i → ¬ rMeet M i (g i) j (g j) := by
          rcases pn.2 with q | q
          · exact absurd q h3
          · exact q
        obtain ⟨h164, f, hf⟩ := hpl
        have e164 : M 16 4 = 1 := by rw [vv_z M 16 4, h164]; rfl
        have e04 : M 0 4 = 1 := by rw [vv_z M 0 4, pn.1, h164]; rfl
        obtain ⟨s, hs⟩ : ∃ s, s = x1.toInt.toNat := ⟨_, rfl⟩
        have hx := xN h1.1
        rw [← hs] at hx
        subst hx
        obtain ⟨n, hn⟩ : ∃ n : Nat, vv M 16 2 = n := ⟨(vv M 16 2).toNat, by omega⟩
        have hn4 : n ≤ 4 := by omega
        have hs4 : s < 4 := by omega
        have hsn : s < n := by omega
        have hf96 : ∀ i, i < n → f i < 96 := fun i hi => (hf i (by omega)).1
        have hfr : ∀ c k, ¬ ((c = 5 + s ∧ k = 3) ∨ (c = 24 ∧ k = s)) → vv (mw (mw M (5 + s) 3 x2) 24 s x2) c k = vv M c k := fun c k h => by
          rw [vmo _ _ (by omega), vmo _ _ (by omega)]
        have hS : RS (mw (mw M (5 + s) 3 x2) 24 s x2) := fun i hi => by
          have hq := s' i hi
          by_cases his : i = s
          · subst his
            have v24 : vv (mw (mw M (5 + i) 3 x2) 24 i x2) 24 i = x2.toInt := vmi ..
            have v3 : vv (mw (mw M (5 + i) 3 x2) 24 i x2) (5 + i) 3 = x2.toInt := by rw [vmo _ _ (by omega), vmi]
            rw [v24, v3, hfr 21 i (by omega), hfr 22 i (by omega), hfr 23 i (by omega), hfr 25 i (by omega), hfr (5 + i) 0 (by omega), hfr (5 + i) 1 (by omega), hfr (5 + i) 2 (by omega), hfr (5 + i) 4 (by omega)]
            exact ⟨⟨hq.1.1, hq.1.2.1, hq.1.2.2.1, h2, hq.1.2.2.2.2⟩, hq.2.1, hq.2.2.1, hq.2.2.2.1, rfl, hq.2.2.2.2.2⟩
          · rw [hfr 21 i (by omega), hfr 22 i (by omega), hfr 23 i (by omega), hfr 24 i (by omega), hfr 25 i (by omega), hfr (5 + i) 0 (by omega), hfr (5 + i) 1 (by omega), hfr (5 + i) 2 (by omega), hfr (5 + i) 3 (by omega), hfr (5 + i) 4 (by omega)]
            exact hq
        have hRU : Rn (mw (mw M (5 + s) 3 x2) 24 s x2) ∧ Un (mw (mw M (5 + s) 3 x2) 24 s x2) := by
          refine ⟨⟨a.t ?_ ?_, b.t ?_ ?_, c.t (fun j hj => ⟨?_, ?_⟩), d.t (fun j hj => ⟨?_, ?_⟩), t.t ?_ ?_ ?_ (fun k => ⟨?_, ?_⟩), hS, w.t (fun i hi => ⟨?_, ?_⟩), fx.t ?_ (fun i hi => ⟨?_, ?_, ?_, ?_, ?_⟩), o.t ?_ (fun i => ⟨?_, ?_, ?_⟩)⟩, u.t ?_ (fun i hi => ?_)⟩ <;> exact hfr _ _ (by omega)
        obtain ⟨hRb, hUb⟩ := hRU
        have hnb : vv (mw (mw M (5 + s) 3 x2) 24 s x2) 16 2 = n := by rw [hfr _ _ (by omega)]; exact hn
        have hRe := hRb.re
        obtain ⟨p1, p2⟩ := plan3 ((0 : Nat), (-1 : Int32)) (fun r => ((0 : Nat), r)) N (by omega) hRe hnb hn4 (M' := mw M (5 + s) 3 x2) (fun c hc => (mw_n _ (by omega)).symm)
        obtain ⟨rz, Mz, -, -, hdi⟩ := e_search N hN hRe.1 hnb hn4
        have e3 : fX3_change N (zI s) x2 M = bd (fX1_finds N ((mw M (5 + s) 3 x2) 0 3) (mw M (5 + s) 3 x2)) (fun r10 M11 => gp (r10 = 0 ∨ r10 = 1) (lq (mw M11 0 4 r10) (fun M13 => if (M13 0 4) = 0 then (some (((0 : Nat), (-1 : Int32)), M13)) else (bd (fX3_moveShips N M13) (fun r15 M16 => some (((0 : Nat), r15), M16)))))) := by
          unfold fX3_change
          rw [bd_e _ (e_isShip3 N _ M), b.2, if_pos h1, if_neg (by decide), bd_e _ (e_wiI N _ t0 j15 M), if_pos h2, if_neg (by decide), e04, if_neg (by decide), gd_z _ (by omega) (by omega) (by omega), lq_e, n_cl (by omega)]
        rw [e3]
        rcases hdi with ⟨-, hno⟩ | ⟨-, g, hg, -⟩
        · obtain ⟨M1, q1, q2, q3⟩ := p1 hno
          have c1 : ∀ c k, ¬ (9 ≤ c ∧ c ≤ 14) → ¬ (c = 0 ∧ k = 4) → ¬ (c = 5 + s ∧ k = 3) → M1 c k = M c k := fun c k k1 k2 k3 => by rw [q2 c k k1 k2, mw_o _ _ k3]
          have e4 := chg_4 N (by omega) hn4 hsn (f := f) (M1 := M1) (by unfold vv; rw [c1 _ _ (by omega) (by omega) (by omega)]; exact hn) (by rw [c1 _ _ (by omega) (by omega) (by omega)]; exact e164) (fun i hi => by rw [c1 _ _ (by omega) (by omega) (by omega), vv_z M 28 i, (hf i (by omega)).2.1]) hf96 h2
          have hcell : ∀ c k, ¬ (9 ≤ c ∧ c ≤ 14) → ¬ (c = 0 ∧ k = 4) → ¬ (c = 16 ∧ k = 0) → mw (mw M1 16 0 0) 24 s x2 c k = mw (mw M (5 + s) 3 x2) 24 s x2 c k := fun c k k1 k2 k3 => by
            rw [mw_at, mw_at (mw M (5 + s) 3 x2)]
            split
            · rfl
            · rw [mw_o _ _ k3, q2 c k k1 k2]
          have hV : Vf (mw (mw M (5 + s) 3 x2) 24 s x2) (mw (mw M1 16 0 0) 24 s x2) := fun c k h => by
            unfold vv
            rw [hcell c k (by omega) (by omega) (by omega)]
          obtain ⟨r, M3, s1, s2, s3⟩ := e_search N hN (hV.mW hRe.1) (n := n) (by rw [hV _ _ (by omega)]; exact hnb) hn4
          rw [hV.mB, hV.cB, hV.cost] at s3
          have hr : r = 0 := by
            rcases s3 with ⟨v, -⟩ | ⟨-, g, v, -⟩
            · exact v
            · exact absurd v.1 (hno g)
          subst hr
          rw [bd_e _ s1, gp_t _ (Or.inl rfl), lq_e, mw_i, if_pos rfl] at e4
          refine ⟨0, -1, M1, -1, _, q1, Or.inl rfl, e4, ?_, fun _ => rfl, ?_⟩
          · rw [mw_o _ _ (by decide), s2 16 (by omega), mw_n _ (by decide), mw_i]
            rfl
          · obtain ⟨k1, k2⟩ := hRb.k (M2 := mw M3 16 4 0) hUb (fun c k h => by
              rw [vmo _ _ (by omega)]
              unfold vv
              rw [s2 c (by omega), hcell c k (by omega) (by omega) (by omega)])
            refine ⟨k1, k2, Pn.no ?_ ?_⟩
            · rw [vmo _ _ (by omega)]
              unfold vv
              rw [s2 0 (by omega), mw_n _ (by decide), mw_n _ (by decide), q3, t0]
            · rw [vmi, t0]
        · obtain ⟨dd, M1, q1, q2, q3, q4, q5⟩ := p2 g hg
          have hg96 : ∀ i, i < n → g i < 96 := fun i hi => (hg.1 i hi).1
          have hd : dd = cdn f g n := q5 f (fun i _ hi => by
            have hfi := hf i (by omega)
            rw [mw_o _ _ (by omega), mw_o _ _ (by omega), vv_z M (5 + i) 9, vv_z M (5 + i) 10, hfi.2.2.1, hfi.2.2.2.1]
            exact ⟨hfi.1, rfl, rfl⟩)
          have c1 : ∀ c k, ¬ (9 ≤ c ∧ c ≤ 14) → ¬ (c = 0 ∧ k = 4) → ¬ (5 ≤ c ∧ c < 9) → M1 c k = M c k := fun c k k1 k2 k3 => by rw [q2 c k k1 k2 (by omega), mw_o _ _ (by omega)]
          have e4 := chg_4 N (by omega) hn4 hsn (f := f) (M1 := M1) (by unfold vv; rw [c1 _ _ (by omega) (by omega) (by omega)]; exact hn) (by rw [c1 _ _ (by omega) (by omega) (by omega)]; exact e164) (fun i hi => by rw [c1 _ _ (by omega) (by omega) (by omega), vv_z M 28 i, (hf i (by omega)).2.1]) hf96 h2
          have hcell : ∀ c k, ¬ (9 ≤ c ∧ c ≤ 14) → ¬ (c = 0 ∧ k = 4) → ¬ (c = 16 ∧ k = 0) → ¬ (5 ≤ c ∧ c < 9 ∧ (k = 9 ∨ k = 10)) → mw (mw M1 16 0 0) 24 s x2 c k = mw (mw M (5 + s) 3 x2) 24 s x2 c k := fun c k k1 k2 k3 k4 => by
            rw [mw_at, mw_at (mw M (5 + s) 3 x2)]
            split
            · rfl
            · rw [mw_o _ _ k3, q2 c k k1 k2 k4]
          have hV : Vf (mw (mw M (5 + s) 3 x2) 24 s x2) (mw (mw M1 16 0 0) 24 s x2) := fun c k h => by
            unfold vv
            rw [hcell c k (by omega) (by omega) (by omega) (by omega)]
          have hn3 : vv (mw (mw M1 16 0 0) 24 s x2) 16 2 = n := by rw [hV _ _ (by omega)]; exact hnb
          obtain ⟨r, M3, s1, s2, s3⟩ := e_search N hN (hV.mW hRe.1) (n := n) hn3 hn4
          rw [hV.mB, hV.cB, hV.cost] at s3
          have hr : r = 1 ∧ ∀ j, j < n → M3 28 j = zI (g j) := by
            rcases s3 with ⟨-, v⟩ | ⟨v1, g', v2, v3⟩
            · exact absurd hg.1 (v g)
            · refine ⟨v1, fun j hj => ?_⟩
              rw [v3 j hj, pl_one hg v2.1 (v2.2 g hg.1) j hj]
          obtain ⟨rfl, h28⟩ := hr
          have m162 : mw M3 16 4 1 16 2 = zI n := by
            rw [mw_o _ _ (by decide), s2 16 (by omega), vv_z (mw (mw M1 16 0 0) 24 s x2) 16 2, hn3]
          have edn := chg_dn N hn4 (f := f) (g := g) (M' := mw M3 16 4 1) (fun i hi => by rw [mw_n _ (by decide)]; exact h28 i hi) hf96 hg96 n N 0 (Nat.le_refl _) (by omega)
          rw [z0n, Nat.zero_add] at edn
          rw [bd_e _ s1, gp_t _ (Or.inr rfl), lq_e, mw_i, if_neg (by decide), lq_e, m162, i1, z_sub, ← i1, edn, ← hd] at e4
          refine ⟨0, zI dd, M1, zI dd, _, q1, Or.inl rfl, e4, ?_, fun _ => rfl, ?_⟩
          · rw [mw_o _ _ (by decide), s2 16 (by omega), mw_n _ (by decide), mw_i]
            rfl
          · refine Inv.pl (g := g) hRb hUb hnb (fun c k h => ?_) hg.1 ?_ (mw_i ..) (fun i hi => ?_) (fun i hi => ?_)
            · rw [vmo _ _ (by omega)]
              unfold vv
              rw [s2 c (by omega), hcell c k (by omega) (by omega) (by omega) (by omega)]
            · rw [mw_o _ _ (by omega), s2 0 (by omega), mw_n _ (by decide), mw_n _ (by decide), q3]
            · rw [mw_n _ (by decide)]
              exact h28 i hi
            · rw [mw_n _ (by omega), s2 (5 + i) (by omega), mw_n _ (by omega), mw_n _ (by omega)]
              exact q4 i hi
    · refine ⟨1, 0, M, 0, mw M 16 0 2, ?_, Or.inr (Or.inr (Or.inl rfl)), ?_, ?_, fun e => absurd e (by decide), (Zf.w 2).inv hI⟩
      · unfold fX3_change
        rw [bd_e _ (e_isShip3 N _ M), b.2, if_pos h1, if_neg (by decide), bd_e _ (e_wiI N _ t0 j15 M), if_neg h2, if_pos rfl]
      · unfold fX4_change
        rw [bd_e _ (e_isShip4 N _ _), if_pos h1, if_neg (by decide), bd_e _ (e_inI N _ t0 j15 _), if_neg h2, if_pos rfl, chg_39 N _ _ _ (by decide)]
      · rw [mw_i]; rfl
  · refine ⟨3, 0, M, 0, mw M 16 0 1, ?_, Or.inr (Or.inl rfl), ?_, ?_, fun e => absurd e (by decide), (Zf.w 1).inv hI⟩
    · unfold fX3_change
      rw [bd_e _ (e_isShip3 N _ M), b.2, if_neg h1, if_pos rfl]
    · unfold fX4_change
      rw [bd_e _ (e_isShip4 N _ _), if_neg h1, if_pos rfl, chg_39 N _ _ _ (by decide)]
    · rw [mw_i]; rfl
