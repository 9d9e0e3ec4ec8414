theorem Vf.deep {M M' : Mem} (h : Vf M M') (i p : Nat) : rDeep M' i p ↔ rDeep M i p := by
  have v : ∀ c k, 17 ≤ c → c < 28 → vv M' c k = vv M c k := fun c k q1 q2 => h c k (by omega)
  have v1 : vv M' 16 1 = vv M 16 1 := h _ _ (by omega)
  unfold rDeep
  simp only [v1, v 17 _ (by decide) (by decide), v 21 _ (by decide) (by decide), v 22 _ (by decide) (by decide)]
theorem Vf.gear {M M' : Mem} (h : Vf M M') (i p : Nat) : rGear M' i p ↔ rGear M i p := by
  have v : ∀ c k, 17 ≤ c → c < 28 → vv M' c k = vv M c k := fun c k q1 q2 => h c k (by omega)
  have v1 : vv M' 16 1 = vv M 16 1 := h _ _ (by omega)
  unfold rGear
  simp only [v1, v 18 _ (by decide) (by decide), v 21 _ (by decide) (by decide), v 26 _ (by decide) (by decide)]
theorem Vf.f4 {M M' : Mem} (h : Vf M M') {s : Nat} {D G : Prop} {r : Int32} : fr4 M' s D G r ↔ fr4 M s D G r := by
  unfold fr4
  rw [h 16 1 (by omega), h 21 s (by omega)]
  simp only [h.may]
theorem fr4_one {M : Mem} {s : Nat} {D G : Prop} {r r' : Int32} (h : fr4 M s D G r) (h' : fr4 M s D G r') : r = r' := by
  rcases h with ⟨⟨a, a1, a2⟩, a3⟩ | ⟨n1, n2⟩
  · rcases h' with ⟨-, b3⟩ | ⟨m1, -⟩
    · rw [a3, b3]
    · exact absurd a2 (m1 a a1)
  · rcases h' with ⟨⟨a, a1, a2⟩, -⟩ | ⟨-, m2⟩
    · exact absurd a2 (n1 a a1)
    · rcases n2 with ⟨k1, k2⟩ | ⟨k1, k2⟩
      · rcases m2 with ⟨l1, l2⟩ | ⟨l1, l2⟩
        · rw [k2, l2]
        · omega
      · rcases m2 with ⟨l1, l2⟩ | ⟨l1, l2⟩
        · omega
        · rcases k2 with ⟨p1, p2⟩ | ⟨p1, p2, p3⟩ | ⟨p1, p2, p3⟩
          · rcases l2 with ⟨q1, q2⟩ | ⟨q1, q2, q3⟩ | ⟨q1, q2, q3⟩
            · rw [p2, q2]
            · exact absurd q1 p1
            · exact absurd q1 p1
          · rcases l2 with ⟨q1, q2⟩ | ⟨q1, q2, q3⟩ | ⟨q1, q2, q3⟩
            · exact absurd p1 q1
            · rw [p3, q3]
            · exact absurd q2 p2
          · rcases l2 with ⟨q1, q2⟩ | ⟨q1, q2, q3⟩ | ⟨q1, q2, q3⟩
            · exact absurd p1 q1
            · exact absurd p2 q2
            · rw [p3, q3]
theorem why3 (N : Nat) (hN : 100 ≤ N) {M : Mem} (hI : Inv M) {s : Nat} (hs : (s : Int) < vv M 16 2) : ∃ r : Int32, fX3_why N (zI s) M = some ((0, r), M) ∧ fr4 M s (∃ p : Nat, (p : Int) < vv M 16 1 ∧ rDeep M s p) (∃ p : Nat, (p : Int) < vv M 16 1 ∧ rDeep M s p ∧ rGear M s p) r := by
  obtain ⟨⟨a, b, c, d, t, s', w, fx, o⟩, u, pn⟩ := id hI
  have hR := hI.1.re
  have hb := b.1
  have ha := a.1
  have hs4 : s < 4 := by omega
  have hS := s' s hs4
  have hW := w s hs4
  have w1 : (zI (s : Int)).toInt = s := z_t (by omega) (by omega)
  have h1 : 0 ≤ (zI (s : Int)).toInt ∧ (zI (s : Int)).toInt < vv M 16 2 := by omega
  unfold fX3_why
  rw [bd_e _ (e_isShip3 N _ M), b.2, if_pos h1, if_neg (by decide), gd_z _ (by omega) (by omega) (by omega), n_cl (by omega), vv_z M (5 + s) 6]
  rcases id (fx s hs4) with ⟨x1, x2⟩ | ⟨x1, x2, x3, x4, x5, x6, x7⟩
  · have hmay : ∀ q, rMay M s q ↔ ((q % 6 : Nat) : Int) < vv M 16 1 ∧ vv M 24 s ≤ ((q / 6 : Nat) : Int) ∧ rTide M ((q / 6 : Nat) : Int) ∧ rDeep M s (q % 6) ∧ rGear M s (q % 6) := fun q => by
      unfold rMay
      constructor
      · rintro (⟨k, -⟩ | ⟨-, k⟩)
        · omega
        · exact k
      · intro k
        exact Or.inr ⟨by omega, k⟩
    rw [x1, ← i0, if_pos rfl, vv_z M (5 + s) 0, vv_z M 1 0, hS.2.1, a.2]
    by_cases hle : vv M 21 s ≤ vv M 16 1
    · have en : (0 : Int32) = nI 0 := by decide
      have m22 : M (5 + s) 1 = zI (vv M 22 s) := by rw [vv_z M (5 + s) 1, hS.2.2.1]
      have m21 : M (5 + s) 0 = zI (vv M 21 s) := by rw [vv_z M (5 + s) 0, hS.2.1]
      have m26 : M (5 + s) 5 = nI (vv M 26 s).toNat := by
        rw [← hW.2.2]
        exact vv_n (by omega)
      have m24 : M (5 + s) 3 = zI (vv M 24 s) := by rw [vv_z M (5 + s) 3, hS.2.2.2.2.1]
      obtain ⟨r7, q1, q2, q3⟩ := e_hasRow N hN hR.2.1 (l := vv M 21 s) (nd := vv M 22 s) (w := 0) hS.1.1 hS.1.2.1 (by omega)
      obtain ⟨r10, p1, p2, p3⟩ := e_hasRow N hN hR.2.1 (l := vv M 21 s) (nd := vv M 22 s) (w := (vv M 26 s).toNat) hS.1.1 hS.1.2.1 (by omega)
      rw [a.2] at q3 p3
      have q3' : r7 = 1 ↔ ∃ p : Nat, (p : Int) < vv M 16 1 ∧ rDeep M s p := q3.trans ⟨fun ⟨p, k1, k2⟩ => ⟨p, k1, (suit_deep hR hs4).mp k2⟩, fun ⟨p, k1, k2⟩ => ⟨p, k1, (suit_deep hR hs4).mpr k2⟩⟩
      have p3' : r10 = 1 ↔ ∃ p : Nat, (p : Int) < vv M 16 1 ∧ rDeep M s p ∧ rGear M s p := p3.trans ⟨fun ⟨p, k1, k2⟩ => ⟨p, k1, (suit_may hR hs4 k1).mp k2⟩, fun ⟨p, k1, k2⟩ => ⟨p, k1, (suit_may hR hs4 k1).mpr k2⟩⟩
      rw [← en] at q1
      rw [if_pos ((z_le (by omega) (by omega) (by omega) (by omega)).mpr hle), m22, bd_e _ q1]
      rcases q2 with q2 | q2
      · have hno : ¬ ∃ p : Nat, (p : Int) < vv M 16 1 ∧ rDeep M s p := fun k => by
          have := q3'.mpr k
          rw [q2] at this
          exact absurd this (by decide)
        rw [if_pos q2]
        exact ⟨2, rfl, Or.inr ⟨fun q _ k => hno ⟨q % 6, ((hmay q).mp k).1, ((hmay q).mp k).2.2.2.1⟩, Or.inr ⟨hle, Or.inl ⟨hno, rfl⟩⟩⟩⟩
      · rw [if_neg (by rw [q2]; decide), m21, m22, m26, bd_e _ p1]
        rcases p2 with p2 | p2
        · have hno : ¬ ∃ p : Nat, (p : Int) < vv M 16 1 ∧ rDeep M s p ∧ rGear M s p := fun k => by
            have := p3'.mpr k
            rw [p2] at this
            exact absurd this (by decide)
          rw [if_pos p2]
          exact ⟨3, rfl, Or.inr ⟨fun q _ k => hno ⟨q % 6, ((hmay q).mp k).1, ((hmay q).mp k).2.2.2⟩, Or.inr ⟨hle, Or.inr (Or.inl ⟨q3'.mp q2, hno, rfl⟩)⟩⟩⟩
        · obtain ⟨m, m1, m2, m3⟩ := e_beginsFrom N hR (M' := M) (fun _ _ => rfl) (x := vv M 24 s) hS.1.2.2.2.1
          rw [if_neg (by rw [p2]; decide), m24, bd_e _ m2]
          by_cases hm : m = 0
          · rw [if_pos (by rw [hm]; decide)]
            refine ⟨4, rfl, Or.inr ⟨fun q hq k => ?_, Or.inr ⟨hle, Or.inr (Or.inr ⟨q3'.mp q2, p3'.mp p2, rfl⟩)⟩⟩⟩
            obtain ⟨-, k2, k3, -⟩ := (hmay q).mp k
            have := (m3 (q / 6) (by omega)).mpr ⟨k2, k3⟩
            rw [hm, Nat.zero_testBit] at this
            exact absurd this (by decide)
          · rw [en, if_neg (fun q => hm ((n_eq (by omega) (by omega)).mp q)), ← en]
            obtain ⟨h, h1, h2, -⟩ := b_least m1 hm
            obtain ⟨k1, k2⟩ := (m3 h h1).mp h2
            obtain ⟨p, l1, l2, l3⟩ := p3'.mp p2
            refine ⟨0, rfl, Or.inl ⟨⟨6 * h + p, by omega, (hmay _).mpr ?_⟩, rfl⟩⟩
            rw [show (6 * h + p) % 6 = p by omega, show (6 * h + p) / 6 = h by omega]
            exact ⟨l1, k1, k2, l2, l3⟩
    · rw [if_neg (fun q => hle ((z_le (by omega) (by omega) (by omega) (by omega)).mp q))]
      refine ⟨1, rfl, Or.inr ⟨fun q _ k => ?_, Or.inl ⟨by omega, rfl⟩⟩⟩
      have := ((hmay q).mp k).2.2.2.1.1
      omega
  · rw [x1, if_neg (by decide)]
    exact ⟨0, rfl, Or.inl ⟨⟨(vv M 27 s).toNat, by omega, Or.inl ⟨by omega, by omega⟩⟩, rfl⟩⟩
theorem s_why (N : Nat) (hN : 100 ≤ N) {M : Mem} (hI : Inv M) (x1 : Int32) : ∃ (q : Nat) (r : Int32) (M1 : Mem) (r' : Int32) (M2 : Mem), fX3_why N x1 M = some ((q, r), M1) ∧ (q = 0 ∨ q = 3) ∧ fX4_why N x1 M1 = some (r', M2) ∧ M2 16 0 = hcL_why q ∧ (q = 0 → r = r') ∧ Inv M2 := by
  have b := hI.1.2.1
  have hb := b.1
  have ha := hI.1.1.1
  by_cases h1 : 0 ≤ x1.toInt ∧ x1.toInt < vv M 16 2
  · obtain ⟨s, hs⟩ : ∃ s, s = x1.toInt.toNat := ⟨_, rfl⟩
    have hx := xN h1.1
    rw [← hs] at hx
    subst hx
    obtain ⟨r, r1, r2⟩ := why3 N hN hI (s := s) (by omega)
    have hV : Vf M (mw M 16 0 0) := Vf.w 0
    have hv1 : vv (mw M 16 0 0) 16 1 = vv M 16 1 := hV _ _ (by omega)
    obtain ⟨r', q1, q2⟩ := why4 N hN (hV.mW hI.1.re.1) (s := s) (by omega) (D := ∃ p : Nat, (p : Int) < vv M 16 1 ∧ rDeep M s p) (G := ∃ p : Nat, (p : Int) < vv M 16 1 ∧ rDeep M s p ∧ rGear M s p) (vv M 16 1).toNat 0 N 0 0 (by rw [hv1]; omega) (by omega) (Or.inl rfl) (Or.inl rfl) (by
      rw [hv1]
      constructor
      · rintro ⟨p, p1, p2⟩
        exact Or.inr ⟨p, Nat.zero_le _, p1, (hV.deep s p).mpr p2⟩
      · rintro (q | ⟨p, -, p1, p2⟩)
        · exact absurd q (by decide)
        · exact ⟨p, p1, (hV.deep s p).mp p2⟩) (by
      rw [hv1]
      constructor
      · rintro ⟨p, p1, p2, p3⟩
        exact Or.inr ⟨p, Nat.zero_le _, p1, (hV.deep s p).mpr p2, (hV.gear s p).mpr p3⟩
      · rintro (q | ⟨p, -, p1, p2, p3⟩)
        · exact absurd q (by decide)
        · exact ⟨p, p1, (hV.deep s p).mp p2, (hV.gear s p).mp p3⟩)
    have e := fr4_one r2 (hV.f4.mp q2)
    rw [z0n] at q1
    refine ⟨0, r, M, r', mw M 16 0 0, r1, Or.inl rfl, ?_, by rw [mw_i]; rfl, fun _ => e, (Zf.w 0).inv hI⟩
    unfold fX4_why
    rw [bd_e _ (e_isShip4 N _ _), if_pos h1, if_neg (by decide)]
    unfold fX4_why_14
    rw [lq_e, mw_i, if_pos (by decide)]
    exact q1
  · refine ⟨3, 0, M, 0, mw M 16 0 1, ?_, Or.inr rfl, ?_, ?_, fun e => absurd e (by decide), (Zf.w 1).inv hI⟩
    · unfold fX3_why
      rw [bd_e _ (e_isShip3 N _ M), b.2, if_neg h1, if_pos rfl]
    · unfold fX4_why
      rw [bd_e _ (e_isShip4 N _ _), if_neg h1, if_pos rfl]
      unfold fX4_why_14
      rw [lq_e, mw_i, if_neg (by decide)]
    · rw [mw_i]; rfl
