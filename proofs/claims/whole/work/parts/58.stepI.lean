theorem Zf.vf {M M' : Mem} (h : Zf M M') : Vf M M' := fun _ _ q => h.v (by omega)
theorem bnd_no (N : Nat) (hN : 100 ≤ N) {M' : Mem} (hM : Mw M') {n : Nat} (hn : vv M' 16 2 = n) : ∀ (m k n1 : Nat) (x : Int32), k + m = n → m < n1 → (∃ j, k ≤ j ∧ j < n ∧ ∀ a, a < 96 → ¬ rMay M' j a) → fX4_bound_9 N n1 x (zI k) M' = some (-1, M') := by
  have hb := hM.2.1
  have m162 : M' 16 2 = zI n := by rw [vv_z M' 16 2, hn]
  intro m
  induction m with
  | zero =>
    intro k n1 x hk hn1 hj
    obtain ⟨j, j1, j2, -⟩ := hj
    omega
  | succ m ih =>
    intro k n1 x hk hn1 hj
    obtain ⟨n1, rfl⟩ : ∃ q, n1 = q + 1 := ⟨n1 - 1, by omega⟩
    obtain ⟨y, y1, y2⟩ := e_leastOf N hN hM (i := k) (by omega)
    rw [fX4_bound_9_s, m162, if_neg (fun q => by have := (z_le (by omega) (by omega) (by omega) (by omega)).mp q; omega), bd_e _ y1]
    rcases y2 with ⟨e, -⟩ | ⟨b1, b2, ⟨a, a1, a2, a3⟩, -⟩
    · rw [e, ← iFar, if_pos rfl]
    · rw [iFar, if_neg (fun q => by have := (z_eq (by omega) (by omega) (by omega) (by omega)).mp q; omega), bd_e _ y1, lq_e, lq_e, z_1]
      refine ih (k + 1) n1 _ (by omega) (by omega) ?_
      obtain ⟨j, j1, j2, j3⟩ := hj
      refine ⟨j, ?_, j2, j3⟩
      rcases Nat.lt_or_ge k j with q | q
      · exact q
      · rw [show j = k by omega] at j3
        exact absurd a2 (j3 a a1)
theorem bnd_ok (N : Nat) (hN : 100 ≤ N) {M' : Mem} (hM : Mw M') {n left : Nat} (hn : vv M' 16 2 = n) (hl : ∀ i, i < n → left.testBit i = true) {c : Nat → Int} (hc : ∀ j, j < n → ∀ y, rLeast M' j y → y = c j ∧ -1500 ≤ y ∧ y ≤ 1500) : ∀ (m k n1 : Nat), k + m = n → m < n1 → fX4_bound_9 N n1 (zI (sumC left c k)) (zI k) M' = some (zI (sumC left c n), M') := by
  have hb := hM.2.1
  have m162 : M' 16 2 = zI n := by rw [vv_z M' 16 2, hn]
  intro m
  induction m with
  | zero =>
    intro k n1 hk hn1
    obtain ⟨n1, rfl⟩ : ∃ q, n1 = q + 1 := ⟨n1 - 1, by omega⟩
    rw [fX4_bound_9_s, m162, if_pos ((z_le (by omega) (by omega) (by omega) (by omega)).mpr (by omega)), show k = n by omega]
  | succ m ih =>
    intro k n1 hk hn1
    obtain ⟨n1, rfl⟩ : ∃ q, n1 = q + 1 := ⟨n1 - 1, by omega⟩
    obtain ⟨y, y1, y2⟩ := e_leastOf N hN hM (i := k) (by omega)
    obtain ⟨e, b1, b2⟩ := hc k (by omega) y y2
    rw [fX4_bound_9_s, m162, if_neg (fun q => by have := (z_le (by omega) (by omega) (by omega) (by omega)).mp q; omega), bd_e _ y1, iFar, if_neg (fun q => by have := (z_eq (by omega) (by omega) (by omega) (by omega)).mp q; omega), bd_e _ y1, lq_e, lq_e, z_1, z_add]
    have es : sumC left c k + y = sumC left c (k + 1) := by
      show _ = sumC left c k + (if left.testBit k then c k else 0)
      rw [hl k (by omega), if_pos rfl, e]
    rw [es]
    exact ih (k + 1) n1 (by omega) (by omega)
theorem s_bound (N : Nat) (hN : 100 ≤ N) {M : Mem} (hI : Inv M) : ∃ (r : Int32) (M1 M2 : Mem), fX3_bound N M = some (r, M1) ∧ fX4_bound N M1 = some (r, M2) ∧ Inv M2 := by
  have hR := hI.1.re
  have hb := hI.1.2.1.1
  obtain ⟨n, hn⟩ : ∃ n : Nat, vv M 16 2 = n := ⟨(vv M 16 2).toNat, by omega⟩
  have hn4 : n ≤ 4 := by omega
  have m03 : M 0 3 = zI n := by rw [vv_z M 0 3, hI.1.2.1.2, hn]
  obtain ⟨M1, o1, ⟨hC, o2⟩, o3⟩ := e_openAll N hN hR hn4 (M' := M) (fun _ _ => rfl)
  have ev := e_every N hn4 hC
  obtain ⟨⟨l16, lpop⟩, lb⟩ := every_b hn4
  have hS : Sf M M1 := fun c hc => o2 c (by omega) (by omega)
  have hZ : Zf M (mw M1 16 0 0) := hS.zf.tr (Zf.w 0)
  have hV := hZ.vf
  have hop : ∀ j, j < n → ∀ a, a < 96 → rMay M j a → ((a % 6 : Nat) : Int) < vv M 16 1 ∧ opn M1 0 j (a % 6) (a / 6) := fun j hj a ha hm => by
    have hp := may_pl hR hn hn4 hj hm
    refine ⟨hp, ((o3 j hj (a % 6) hp).2 (a / 6) (by omega)).mpr ?_⟩
    rw [show 6 * (a / 6) + a % 6 = a by omega]
    exact hm
  have lC := e_leastC N hN hR hn4 hC (lev := 0) (left := 2 ^ n - 1) (by omega) l16 (fun _ i hi _ p hp => (o3 i hi p hp).1)
  have e6 : (1000000 : Int32) = zI 1000000 := by decide
  have hMw := hV.mW hR.1
  have hn' : vv (mw M1 16 0 0) 16 2 = n := by rw [hV _ _ (by omega)]; exact hn
  unfold fX3_bound
  rcases lC with ⟨l1, j, j1, j2, j3⟩ | ⟨c', l1, l2, l3, l4⟩
  · have la : fX1_leastAlone N (M 0 3) M = some (zI 1000000, M1) := by
      unfold fX1_leastAlone
      rw [m03, bd_e _ o1, bd_e _ ev, bd_e _ l1]
    rw [bd_e _ la, e6, if_neg (fun q => by have := (z_lt (by omega) (by omega) (by omega) (by omega)).mp q; omega)]
    refine ⟨-1, M1, mw M1 16 0 0, rfl, ?_, hZ.inv hI⟩
    unfold fX4_bound
    have q := bnd_no N hN hMw hn' n 0 N 0 (by omega) (by omega) ⟨j, Nat.zero_le _, j1, fun a ha hm => by
      obtain ⟨h1, h2⟩ := hop j j1 a ha ((hV.may j a).mp hm)
      exact j3 _ _ h1 (by omega) h2⟩
    rw [z0n] at q
    rw [lq_e, q]
  · have la : fX1_leastAlone N (M 0 3) M = some (zI (sumC (2 ^ n - 1) c' n), M1) := by
      unfold fX1_leastAlone
      rw [m03, bd_e _ o1, bd_e _ ev, bd_e _ l1]
    rw [bd_e _ la, e6, if_pos ((z_lt (by omega) (by omega) (by omega) (by omega)).mpr (by omega))]
    refine ⟨_, M1, mw M1 16 0 0, rfl, ?_, hZ.inv hI⟩
    unfold fX4_bound
    have hl : ∀ i, i < n → (2 ^ n - 1).testBit i = true := fun i hi => by rw [lb i]; exact decide_eq_true hi
    have q := bnd_ok N hN hMw hn' hl (c := c') (fun j hj y hy => by
      obtain ⟨⟨p, h, p1, p2, p3, p4⟩, k2⟩ := l2 j hj (hl j hj)
      have hp6 := hI.1.1.1
      have hm : rMay M j (6 * h + p) := ((o3 j hj p p1).2 h p2).mp p3
      rcases hy with ⟨-, hy⟩ | ⟨b1, b2, ⟨a, a1, a2, a3⟩, b3⟩
      · exact absurd ((hV.may j _).mpr hm) (hy _ (by omega))
      · have g1 := b3 (6 * h + p) (by omega) ((hV.may j _).mpr hm)
        rw [hV.cost] at g1 a3
        obtain ⟨h1, h2⟩ := hop j hj a a1 ((hV.may j a).mp a2)
        have g2 := k2 _ _ h1 (by omega) h2
        rw [show 6 * (a / 6) + a % 6 = a by omega] at g2
        exact ⟨by omega, b1, b2⟩) n 0 N (by omega) (by omega)
    have ez : zI (sumC (2 ^ n - 1) c' 0) = 0 := rfl
    rw [z0n, ez] at q
    rw [lq_e, q]
theorem row_loop (N : Nat) (hN : 100 ≤ N) {M : Mem} (hQ : Qw M) {l nd : Int} {w : Nat} (hl : 0 ≤ l ∧ l ≤ 6) (hnd : 0 ≤ nd ∧ nd ≤ 100) (hw : w < 256) : ∀ (m k n1 : Nat), (k : Int) + m = vv M 1 0 → m < n1 → ∃ r : Int32, fX0_hasRow_3 N n1 (zI l) (zI nd) (nI w) (zI k) M = some (r, M) ∧ (r = 0 ∨ r = 1) ∧ (r = 1 ↔ ∃ p : Nat, k ≤ p ∧ (p : Int) < vv M 1 0 ∧ cSuit M p l nd w) := by
  have hq := hQ.1
  intro m
  induction m with
  | zero =>
    intro k n1 hk hn1
    obtain ⟨n1, rfl⟩ : ∃ q, n1 = q + 1 := ⟨n1 - 1, by omega⟩
    rw [fX0_hasRow_3_s, vv_z M 1 0, if_pos ((z_le (by omega) (by omega) (by omega) (by omega)).mpr (by omega))]
    refine ⟨0, rfl, Or.inl rfl, ⟨fun e => absurd e (by decide), ?_⟩⟩
    rintro ⟨p, h1, h2, -⟩
    omega
  | succ m ih =>
    intro k n1 hk hn1
    obtain ⟨n1, rfl⟩ : ∃ q, n1 = q + 1 := ⟨n1 - 1, by omega⟩
    obtain ⟨v, v1, v2, v3⟩ := e_suits N hN hQ (p := k) (by omega) hl hnd hw
    rw [fX0_hasRow_3_s, vv_z M 1 0, if_neg (fun q => by have := (z_le (by omega) (by omega) (by omega) (by omega)).mp q; omega), bd_e _ v1]
    rcases v2 with v2 | v2
    · obtain ⟨r, r1, r2, r3⟩ := ih (k + 1) n1 (by omega) (by omega)
      rw [if_pos v2, lq_e, z_1]
      refine ⟨r, r1, r2, r3.trans ⟨?_, ?_⟩⟩
      · rintro ⟨p, h1, h2⟩
        exact ⟨p, by omega, h2⟩
      · rintro ⟨p, h1, h2, h3⟩
        refine ⟨p, ?_, h2, h3⟩
        rcases Nat.lt_or_ge k p with q | q
        · exact q
        · rw [show p = k by omega] at h3
          have := v3.mpr h3
          rw [v2] at this
          exact absurd this (by decide)
    · rw [if_neg (by rw [v2]; decide)]
      exact ⟨1, rfl, Or.inr rfl, ⟨fun _ => ⟨k, Nat.le_refl _, by omega, v3.mp v2⟩, fun _ => rfl⟩⟩
theorem e_hasRow (N : Nat) (hN : 100 ≤ N) {M : Mem} (hQ : Qw M) {l nd : Int} {w : Nat} (hl : 0 ≤ l ∧ l ≤ 6) (hnd : 0 ≤ nd ∧ nd ≤ 100) (hw : w < 256) : ∃ r : Int32, fX0_hasRow N (zI l) (zI nd) (nI w) M = some (r, M) ∧ (r = 0 ∨ r = 1) ∧ (r = 1 ↔ ∃ p : Nat, (p : Int) < vv M 1 0 ∧ cSuit M p l nd w) := by
  have hq := hQ.1
  obtain ⟨r, r1, r2, r3⟩ := row_loop N hN hQ hl hnd hw (vv M 1 0).toNat 0 N (by omega) (by omega)
  rw [z0n] at r1
  refine ⟨r, r1, r2, r3.trans ⟨?_, ?_⟩⟩
  · rintro ⟨p, -, h⟩
    exact ⟨p, h⟩
  · rintro ⟨p, h⟩
    exact ⟨p, Nat.zero_le _, h⟩
theorem suit_deep {M : Mem} (hR : Re M) {i p : Nat} (hi : i < 4) : cSuit M p (vv M 21 i) (vv M 22 i) 0 ↔ rDeep M i p := by
  have e10 := hR.2.2.1.2.1
  have e2 := hR.2.2.2.1
  have h6 := hR.1.1
  unfold cSuit rDeep
  rw [e10]
  constructor
  · rintro ⟨h1, h2, -⟩
    refine ⟨h1, fun k k1 k2 => ?_⟩
    rw [← (e2 k (by omega)).1]
    exact h2 k k1 k2
  · rintro ⟨h1, h2⟩
    refine ⟨h1, fun k k1 k2 => ?_, fun b hb => ?_⟩
    · rw [(e2 k (by omega)).1]
      exact h2 k k1 k2
    · rw [Nat.zero_testBit] at hb
      exact absurd hb (by decide)
def fr4 (M : Mem) (s : Nat) (D G : Prop) (r : Int32) : Prop := ((∃ a, a < 96 ∧ rMay M s a) ∧ r = 0) ∨ ((∀ a, a < 96 → ¬ rMay M s a) ∧ ((vv M 16 1 < vv M 21 s ∧ r = 1) ∨ (vv M 21 s ≤ vv M 16 1 ∧ ((¬ D ∧ r = 2) ∨ (D ∧ ¬ G ∧ r = 3) ∨ (D ∧ G ∧ r = 4)))))
theorem why4 (N : Nat) (hN : 100 ≤ N) {M : Mem} (hM : Mw M) {s : Nat} (hs : s < 4) {D G : Prop} : ∀ (m k n1 : Nat) (x2 x3 : Int32), (k : Int) + m = vv M 16 1 → m < n1 → (x2 = 0 ∨ x2 = 1) → (x3 = 0 ∨ x3 = 1) → (D ↔ x2 = 1 ∨ ∃ p : Nat, k ≤ p ∧ (p : Int) < vv M 16 1 ∧ rDeep M s p) → (G ↔ x3 = 1 ∨ ∃ p : Nat, k ≤ p ∧ (p : Int) < vv M 16 1 ∧ rDeep M s p ∧ rGear M s p) → ∃ r : Int32, fX4_why_33 N n1 (zI s) x2 x3 (zI k) M = some (r, M) ∧ fr4 M s D G r := by
  have ha := hM.1
  have h21 := (hM.2.2.2.2.2 s hs).1
  intro m
  induction m with
  | zero =>
    intro k n1 x2 x3 hk hn1 h2 h3 hD hG
    obtain ⟨n1, rfl⟩ : ∃ q, n1 = q + 1 := ⟨n1 - 1, by omega⟩
    obtain ⟨y, y1, y2⟩ := e_leastOf N hN hM (i := s) hs
    have hD' : D ↔ x2 = 1 := hD.trans ⟨fun q => by
      rcases q with q | ⟨p, p1, p2, -⟩
      · exact q
      · omega, Or.inl⟩
    have hG' : G ↔ x3 = 1 := hG.trans ⟨fun q => by
      rcases q with q | ⟨p, p1, p2, -⟩
      · exact q
      · omega, Or.inl⟩
    rw [fX4_why_33_s, vv_z M 16 1, if_pos ((z_le (by omega) (by omega) (by omega) (by omega)).mpr (by omega)), bd_e _ y1, iFar]
    rcases y2 with ⟨e, hno⟩ | ⟨b1, b2, ⟨a, a1, a2, a3⟩, -⟩
    · rw [e, if_pos ((z_le (by omega) (by omega) (by omega) (by omega)).mpr (by omega)), gd_z _ (by omega) (by omega) (by omega), n_cl (by omega), vv_z M 21 s, vv_z M 16 1]
      by_cases hle : vv M 21 s ≤ vv M 16 1
      · rw [if_pos ((z_le (by omega) (by omega) (by omega) (by omega)).mpr hle)]
        rcases h2 with h2 | h2
        · rw [if_pos h2]
          exact ⟨2, rfl, Or.inr ⟨hno, Or.inr ⟨hle, Or.inl ⟨fun q => absurd (hD'.mp q) (by rw [h2]; decide), rfl⟩⟩⟩⟩
        · rw [if_neg (by rw [h2]; decide)]
          rcases h3 with h3 | h3
          · rw [if_pos h3]
            exact ⟨3, rfl, Or.inr ⟨hno, Or.inr ⟨hle, Or.inr (Or.inl ⟨hD'.mpr h2, fun q => absurd (hG'.mp q) (by rw [h3]; decide), rfl⟩)⟩⟩⟩
          · rw [if_neg (by rw [h3]; decide)]
            exact ⟨4, rfl, Or.inr ⟨hno, Or.inr ⟨hle, Or.inr (Or.inr ⟨hD'.mpr h2, hG'.mpr h3, rfl⟩)⟩⟩⟩
      · rw [if_neg (fun q => hle ((z_le (by omega) (by omega) (by omega) (by omega)).mp q))]
        exact ⟨1, rfl, Or.inr ⟨hno, Or.inl ⟨by omega, rfl⟩⟩⟩
    · rw [if_neg (fun q => by have := (z_le (by omega) (by omega) (by omega) (by omega)).mp q; omega)]
      exact ⟨0, rfl, Or.inl ⟨⟨a, a1, a2⟩, rfl⟩⟩
  | succ m ih =>
    intro k n1 x2 x3 hk hn1 h2 h3 hD hG
    obtain ⟨n1, rfl⟩ : ∃ q, n1 = q + 1 := ⟨n1 - 1, by omega⟩
    obtain ⟨v, v1, v2, v3⟩ := e_isDeep N hN hM (i := s) (p := k) hs (by omega)
    obtain ⟨u, u1, u2, u3⟩ := e_hasGear N hN hM (i := s) (p := k) hs (by omega)
    have sp : ∀ (P : Nat → Prop), (∃ p : Nat, k ≤ p ∧ (p : Int) < vv M 16 1 ∧ P p) ↔ P k ∨ ∃ p : Nat, k + 1 ≤ p ∧ (p : Int) < vv M 16 1 ∧ P p := fun P => by
      constructor
      · rintro ⟨p, p1, p2, p3⟩
        rcases Nat.lt_or_ge k p with q | q
        · exact Or.inr ⟨p, q, p2, p3⟩
        · rw [show p = k by omega] at p3
          exact Or.inl p3
      · rintro (q | ⟨p, p1, p2⟩)
        · exact ⟨k, Nat.le_refl _, by omega, q⟩
        · exact ⟨p, by omega, p2⟩
    rw [sp] at hD
    rw [sp (fun p => rDeep M s p ∧ rGear M s p)] at hG
    have e61 : ∀ y2 : Int32, (y2 = 0 ∨ y2 = 1) → (y2 = 1 ↔ x2 = 1 ∨ rDeep M s k) → ∃ r : Int32, fX4_why_61 N (fX4_why_33 N n1) (zI s) x3 (zI k) y2 M = some (r, M) ∧ fr4 M s D G r := fun y2 hy hy' => by
      have hDn : D ↔ y2 = 1 ∨ ∃ p : Nat, k + 1 ≤ p ∧ (p : Int) < vv M 16 1 ∧ rDeep M s p := by
        rw [hD, hy', or_assoc]
      unfold fX4_why_61
      rcases h3 with h3 | h3
      · rw [if_pos h3, bd_e _ v1]
        rcases v2 with v2 | v2
        · rw [if_pos v2, lq_e, z_1]
          refine ih (k + 1) n1 y2 0 (by omega) (by omega) hy (Or.inl rfl) hDn ?_
          rw [hG, h3]
          have hno : ¬ rDeep M s k := fun q => by
            have := v3.mpr q
            rw [v2] at this
            exact absurd this (by decide)
          constructor
          · rintro (q | q | q)
            · exact Or.inl q
            · exact absurd q.1 hno
            · exact Or.inr q
          · rintro (q | q)
            · exact Or.inl q
            · exact Or.inr (Or.inr q)
        · rw [if_neg (by rw [v2]; decide), bd_e _ u1]
          rcases u2 with u2 | u2
          · rw [if_pos u2, lq_e, z_1]
            refine ih (k + 1) n1 y2 0 (by omega) (by omega) hy (Or.inl rfl) hDn ?_
            rw [hG, h3]
            have hno : ¬ rGear M s k := fun q => by
              have := u3.mpr q
              rw [u2] at this
              exact absurd this (by decide)
            constructor
            · rintro (q | q | q)
              · exact Or.inl q
              · exact absurd q.2 hno
              · exact Or.inr q
            · rintro (q | q)
              · exact Or.inl q
              · exact Or.inr (Or.inr q)
          · rw [if_neg (by rw [u2]; decide), lq_e, z_1]
            refine ih (k + 1) n1 y2 1 (by omega) (by omega) hy (Or.inr rfl) hDn ?_
            rw [hG]
            exact ⟨fun _ => Or.inl rfl, fun _ => Or.inr (Or.inl ⟨v3.mp v2, u3.mp u2⟩)⟩
      · rw [if_neg (by rw [h3]; decide), lq_e, z_1]
        refine ih (k + 1) n1 y2 1 (by omega) (by omega) hy (Or.inr rfl) hDn ?_
        rw [hG, h3]
        exact ⟨fun _ => Or.inl rfl, fun _ => Or.inl rfl⟩
    rw [fX4_why_33_s, vv_z M 16 1, if_neg (fun q => by have := (z_le (by omega) (by omega) (by omega) (by omega)).mp q; omega)]
    rcases h2 with h2 | h2
    · rw [if_pos h2, bd_e _ v1]
      rcases v2 with v2 | v2
      · rw [if_pos v2]
        refine e61 0 (Or.inl rfl) ⟨fun q => absurd q (by decide), ?_⟩
        rintro (q | q)
        · rw [h2] at q
          exact absurd q (by decide)
        · have := v3.mpr q
          rw [v2] at this
          exact absurd this (by decide)
      · rw [if_neg (by rw [v2]; decide)]
        exact e61 1 (Or.inr rfl) ⟨fun _ => Or.inr (v3.mp v2), fun _ => rfl⟩
    · rw [if_neg (by rw [h2]; decide)]
      exact e61 1 (Or.inr rfl) ⟨fun _ => Or.inl h2, fun _ => rfl⟩
