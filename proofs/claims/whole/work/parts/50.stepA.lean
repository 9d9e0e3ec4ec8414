theorem e_isShip3 (N : Nat) (x : Int32) (M : Mem) : fX3_isShip N x M = some (if 0 ≤ x.toInt ∧ x.toInt < vv M 0 3 then 1 else 0, M) := by
  unfold fX3_isShip vv
  simp only [i_lt, i_le, t0]
  by_cases h1 : x.toInt < 0
  · rw [if_pos h1, if_neg (by omega)]
  · rw [if_neg h1]
    by_cases h2 : (M 0 3).toInt ≤ x.toInt
    · rw [if_pos h2, if_neg (by omega)]
    · rw [if_neg h2, if_pos (by omega)]
theorem e_isShip4 (N : Nat) (x : Int32) (M : Mem) : fX4_isShip N x M = some (if 0 ≤ x.toInt ∧ x.toInt < vv M 16 2 then 1 else 0, M) := by
  unfold fX4_isShip vv
  simp only [i_lt, i_le, t0]
  by_cases h1 : x.toInt < 0
  · rw [if_pos h1, if_neg (by omega)]
  · rw [if_neg h1]
    by_cases h2 : (M 16 2).toInt ≤ x.toInt
    · rw [if_pos h2, if_neg (by omega)]
    · rw [if_neg h2, if_pos (by omega)]
theorem e_isPlace0 (N : Nat) (x : Int32) (M : Mem) : fX0_isPlace N x M = some (if 0 ≤ x.toInt ∧ x.toInt < vv M 1 0 then 1 else 0, M) := by
  unfold fX0_isPlace vv
  simp only [i_lt, i_le, t0]
  by_cases h1 : x.toInt < 0
  · rw [if_pos h1, if_neg (by omega)]
  · rw [if_neg h1]
    by_cases h2 : (M 1 0).toInt ≤ x.toInt
    · rw [if_pos h2, if_neg (by omega)]
    · rw [if_neg h2, if_pos (by omega)]
theorem e_isPlace4 (N : Nat) (x : Int32) (M : Mem) : fX4_isPlace N x M = some (if 0 ≤ x.toInt ∧ x.toInt < vv M 16 1 then 1 else 0, M) := by
  unfold fX4_isPlace vv
  simp only [i_lt, i_le, t0]
  by_cases h1 : x.toInt < 0
  · rw [if_pos h1, if_neg (by omega)]
  · rw [if_neg h1]
    by_cases h2 : (M 16 1).toInt ≤ x.toInt
    · rw [if_pos h2, if_neg (by omega)]
    · rw [if_neg h2, if_pos (by omega)]
theorem e_isKind (N : Nat) (x : Int32) (M : Mem) : fX3_isKind N x M = some (if 0 ≤ x.toInt ∧ x.toInt < 8 then 1 else 0, M) := by
  unfold fX3_isKind
  have e8 : (8 : Int32).toInt = 8 := by decide
  simp only [i_lt, i_le, t0, e8]
  by_cases h1 : x.toInt < 0
  · rw [if_pos h1, if_neg (by omega)]
  · rw [if_neg h1]
    by_cases h2 : 8 ≤ x.toInt
    · rw [if_pos h2, if_neg (by omega)]
    · rw [if_neg h2, if_pos (by omega)]
theorem e_inI (N : Nat) (x : Int32) {a b : Int32} {p q : Int} (ha : a.toInt = p) (hb : b.toInt = q) (M : Mem) : fX4_in N x a b M = some (if p ≤ x.toInt ∧ x.toInt ≤ q then 1 else 0, M) := by
  rw [e_in]
  simp only [i_le, ha, hb]
theorem e_wiI (N : Nat) (x : Int32) {a b : Int32} {p q : Int} (ha : a.toInt = p) (hb : b.toInt = q) (M : Mem) : fX3_isWithin N x a b M = some (if p ≤ x.toInt ∧ x.toInt ≤ q then 1 else 0, M) := by
  rw [e_isWithin]
  simp only [i_le, ha, hb]
theorem xN {x : Int32} (h : 0 ≤ x.toInt) : x = zI ((x.toInt.toNat : Nat) : Int) := by
  have e : ((x.toInt.toNat : Nat) : Int) = x.toInt := by omega
  rw [e, z_i]
theorem tog : ∀ x, x < 256 → ∀ b, b < 8 → ((x.testBit b = true → nI x ^^^ ((1 : Int32) <<< (nI b &&& 31)) = nI (x - 2 ^ b) ∧ nI x + (-((1 : Int32) <<< (nI b &&& 31))) = nI (x - 2 ^ b)) ∧ (x.testBit b = false → nI x ^^^ ((1 : Int32) <<< (nI b &&& 31)) = nI (x + 2 ^ b) ∧ nI x + ((1 : Int32) <<< (nI b &&& 31)) = nI (x + 2 ^ b) ∧ x + 2 ^ b < 256)) := by decide +kernel
theorem tog_x {x b : Nat} (hx : x < 256) (hb : b < 8) {f : Int32} (hf : f = 0 ∨ f = 1) (hne : ¬ (if x.testBit b then (1 : Int32) else 0) = f) : ∃ y : Nat, y < 256 ∧ nI x ^^^ ((1 : Int32) <<< (nI b &&& 31)) = nI y ∧ ((f = 0 → nI x + (-((1 : Int32) <<< (nI b &&& 31))) = nI y) ∧ (¬ f = 0 → nI x + ((1 : Int32) <<< (nI b &&& 31)) = nI y)) := by
  have h := tog x hx b hb
  cases hb2 : x.testBit b
  · rw [hb2] at hne
    have h2 := h.2 hb2
    refine ⟨x + 2 ^ b, h2.2.2, h2.1, fun e => absurd e.symm hne, fun _ => h2.2.1⟩
  · rw [hb2] at hne
    have h1 := h.1 hb2
    refine ⟨x - 2 ^ b, Nat.lt_of_le_of_lt (Nat.sub_le _ _) hx, h1.1, fun _ => h1.2, fun e => ?_⟩
    rcases hf with q | q
    · exact absurd q e
    · exact absurd q.symm hne
theorem s_gear (N : Nat) {M : Mem} (hI : Inv M) (p k f : Int32) (hf : f = 0 ∨ f = 1) : ∃ (r : Int32) (M1 M2 : Mem), fX3_gear N p k f M = some (r, M1) ∧ fX4_gear N p k f M1 = some (r, M2) ∧ Inv M2 := by
  obtain ⟨⟨a, b, c, d, t, s, w, f', o⟩, u, -⟩ := id hI
  have hz : Inv (mw M 16 0 0) := (Zf.w 0).inv hI
  unfold fX3_gear fX4_gear
  rw [bd_e _ (e_isPlace0 N p M), a.2]
  by_cases h1 : 0 ≤ p.toInt ∧ p.toInt < vv M 16 1
  · rw [if_pos h1, if_neg (by decide), bd_e _ (e_isKind N k M)]
    by_cases h2 : 0 ≤ k.toInt ∧ k.toInt < 8
    · obtain ⟨q, hq⟩ : ∃ q, q = p.toInt.toNat := ⟨_, rfl⟩
      obtain ⟨e, he⟩ : ∃ e, e = k.toInt.toNat := ⟨_, rfl⟩
      have hp := xN h1.1
      have hk := xN h2.1
      rw [← hq] at hp
      rw [← he, z_n] at hk
      subst hp
      subst hk
      have h2' : 0 ≤ (nI e).toInt ∧ (nI e).toInt ≤ 7 := by omega
      have ha := a.1
      have hd := d q (by omega)
      have m3 : M 3 q = nI (vv M 18 q).toNat := by rw [← hd.2.2]; exact vv_n (by omega)
      have m18 : M 18 q = nI (vv M 18 q).toNat := vv_n (by omega)
      have hx : (vv M 18 q).toNat < 256 := by omega
      generalize hxx : (vv M 18 q).toNat = x at m3 m18 hx
      have e7 : (7 : Int32).toInt = 7 := by decide
      rw [if_pos h2, if_neg (by decide), gd_z _ (by omega) (by omega) (by omega), n_cl (by omega), m3, bd_e _ (e_hasBit N (by omega) (by omega) M)]
      by_cases h3 : (if x.testBit e then (1 : Int32) else 0) = f
      · rw [if_pos h3]
        refine ⟨0, M, mw M 16 0 0, rfl, ?_, hz⟩
        rw [lq_e, bd_e _ (e_isPlace4 N _ _), vmo _ _ (by decide), if_pos h1, if_neg (by decide), bd_e _ (e_inI N _ t0 e7 _), if_pos h2', if_neg (by decide), gd_z _ (by omega) (by omega) (by omega), mw_n _ (by decide), m18, bd_e _ (e_bit N (by omega) (by omega) _), if_pos h3]
      · rw [if_neg h3, gd_z _ (by omega) (by omega) (by omega), gd_z _ (by omega) (by omega) (by omega), lq_e, lq_e, m3]
        obtain ⟨y, y1, y2, y3, y4⟩ := tog_x hx (by omega) hf h3
        rw [y2]
        refine ⟨1, _, mw (mw (mw (mw (mw M 3 q (nI y)) 0 4 0) 16 0 0) 18 q (nI y)) 16 4 0, rfl, ?_, ?_⟩
        · rw [lq_e, bd_e _ (e_isPlace4 N _ _), vmo _ _ (by decide), vmo _ _ (by omega), vmo _ _ (by omega), if_pos h1, if_neg (by decide), bd_e _ (e_inI N _ t0 e7 _), if_pos h2', if_neg (by decide), gd_z _ (by omega) (by omega) (by omega), mw_n _ (by decide), mw_n _ (by decide), mw_n _ (by decide), m18, bd_e _ (e_bit N (by omega) (by omega) _), if_neg h3, gd_z _ (by omega) (by omega) (by omega), gd_z _ (by omega) (by omega) (by omega), gd_z _ (by omega) (by omega) (by omega), mw_n _ (by decide), mw_n _ (by decide), mw_n _ (by decide), m18]
          by_cases h4 : f = 0
          · rw [if_pos h4, lq_e, lq_e, y3 h4]
          · rw [if_neg h4, lq_e, lq_e, y4 h4]
        · have hfr : ∀ c k, ¬ ((c = 3 ∧ k = q) ∨ (c = 0 ∧ k = 4) ∨ (c = 16 ∧ k = 0) ∨ (c = 18 ∧ k = q) ∨ (c = 16 ∧ k = 4)) → vv (mw (mw (mw (mw (mw M 3 q (nI y)) 0 4 0) 16 0 0) 18 q (nI y)) 16 4 0) c k = vv M c k := fun c k h => by
            rw [vmo _ _ (by omega), vmo _ _ (by omega), vmo _ _ (by omega), vmo _ _ (by omega), vmo _ _ (by omega)]
          have hp1 : vv (mw (mw (mw (mw (mw M 3 q (nI y)) 0 4 0) 16 0 0) 18 q (nI y)) 16 4 0) 0 4 = 0 := by
            rw [vmo _ _ (by omega), vmo _ _ (by omega), vmo _ _ (by omega), vmi, t0]
          have hp2 : vv (mw (mw (mw (mw (mw M 3 q (nI y)) 0 4 0) 16 0 0) 18 q (nI y)) 16 4 0) 16 4 = 0 := by rw [vmi, t0]
          have hD : RD (mw (mw (mw (mw (mw M 3 q (nI y)) 0 4 0) 16 0 0) 18 q (nI y)) 16 4 0) := fun j hj => by
            by_cases hjq : j = q
            · subst hjq
              rw [vmo _ _ (by omega), vmi, vmo _ _ (by omega), vmo _ _ (by omega), vmo _ _ (by omega), vmo _ _ (by omega), vmi, vn (by omega)]
              omega
            · rw [hfr 18 j (by omega), hfr 3 j (by omega)]
              exact d j hj
          refine ⟨⟨a.t ?_ ?_, b.t ?_ ?_, c.t (fun j hj => ⟨?_, ?_⟩), hD, t.t ?_ ?_ ?_ (fun k => ⟨?_, ?_⟩), s.t (fun i hi => ⟨?_, ?_, ?_, ?_, ?_, ?_, ?_, ?_, ?_, ?_⟩), w.t (fun i hi => ⟨?_, ?_⟩), f'.t ?_ (fun i hi => ⟨?_, ?_, ?_, ?_, ?_⟩), o.t ?_ (fun i => ⟨?_, ?_, ?_⟩)⟩, u.t ?_ (fun i hi => ?_), Pn.no hp1 hp2⟩ <;> exact hfr _ _ (by omega)
    · rw [if_neg h2, if_pos rfl]
      have e7 : (7 : Int32).toInt = 7 := by decide
      have h2' : ¬ (0 ≤ k.toInt ∧ k.toInt ≤ 7) := by omega
      refine ⟨0, M, mw M 16 0 0, rfl, ?_, hz⟩
      rw [lq_e, bd_e _ (e_isPlace4 N _ _), vmo _ _ (by decide), if_pos h1, if_neg (by decide), bd_e _ (e_inI N _ t0 e7 _), if_neg h2', if_pos rfl]
  · rw [if_neg h1, if_pos rfl]
    refine ⟨0, M, mw M 16 0 0, rfl, ?_, hz⟩
    rw [lq_e, bd_e _ (e_isPlace4 N _ _), vmo _ _ (by decide), if_neg h1, if_pos rfl]
theorem s_wants (N : Nat) {M : Mem} (hI : Inv M) (p k f : Int32) (hf : f = 0 ∨ f = 1) : ∃ (r : Int32) (M1 M2 : Mem), fX3_wants N p k f M = some (r, M1) ∧ fX4_wants N p k f M1 = some (r, M2) ∧ Inv M2 := by
  obtain ⟨⟨a, b, c, d, t, s, w, f', o⟩, u, -⟩ := id hI
  have hz : Inv (mw M 16 0 0) := (Zf.w 0).inv hI
  unfold fX3_wants fX4_wants
  rw [bd_e _ (e_isShip3 N p M), b.2]
  by_cases h1 : 0 ≤ p.toInt ∧ p.toInt < vv M 16 2
  · rw [if_pos h1, if_neg (by decide), bd_e _ (e_isKind N k M)]
    by_cases h2 : 0 ≤ k.toInt ∧ k.toInt < 8
    · obtain ⟨q, hq⟩ : ∃ q, q = p.toInt.toNat := ⟨_, rfl⟩
      obtain ⟨e, he⟩ : ∃ e, e = k.toInt.toNat := ⟨_, rfl⟩
      have hp := xN h1.1
      have hk := xN h2.1
      rw [← hq] at hp
      rw [← he, z_n] at hk
      subst hp
      subst hk
      have h2' : 0 ≤ (nI e).toInt ∧ (nI e).toInt ≤ 7 := by omega
      have hb := b.1
      have hq4 : q < 4 := by omega
      have hd := w q hq4
      have m3 : M (5 + q) 5 = nI (vv M 26 q).toNat := by rw [← hd.2.2]; exact vv_n (by omega)
      have m18 : M 26 q = nI (vv M 26 q).toNat := vv_n (by omega)
      have hx : (vv M 26 q).toNat < 256 := by omega
      generalize hxx : (vv M 26 q).toNat = x at m3 m18 hx
      have e7 : (7 : Int32).toInt = 7 := by decide
      rw [if_pos h2, if_neg (by decide), gd_z _ (by omega) (by omega) (by omega), n_cl (by omega), m3, bd_e _ (e_hasBit N (by omega) (by omega) M)]
      by_cases h3 : (if x.testBit e then (1 : Int32) else 0) = f
      · rw [if_pos h3]
        refine ⟨0, M, mw M 16 0 0, rfl, ?_, hz⟩
        rw [lq_e, bd_e _ (e_isShip4 N _ _), vmo _ _ (by decide), if_pos h1, if_neg (by decide), bd_e _ (e_inI N _ t0 e7 _), if_pos h2', if_neg (by decide), gd_z _ (by omega) (by omega) (by omega), mw_n _ (by decide), m18, bd_e _ (e_bit N (by omega) (by omega) _), if_pos h3]
      · rw [if_neg h3, gd_z _ (by omega) (by omega) (by omega), lq_e, lq_e, m3]
        obtain ⟨y, y1, y2, y3, y4⟩ := tog_x hx (by omega) hf h3
        rw [y2]
        refine ⟨1, _, mw (mw (mw (mw (mw M (5 + q) 5 (nI y)) 0 4 0) 16 0 0) 26 q (nI y)) 16 4 0, rfl, ?_, ?_⟩
        · rw [lq_e, bd_e _ (e_isShip4 N _ _), vmo _ _ (by decide), vmo _ _ (by omega), vmo _ _ (by omega), if_pos h1, if_neg (by decide), bd_e _ (e_inI N _ t0 e7 _), if_pos h2', if_neg (by decide), gd_z _ (by omega) (by omega) (by omega), mw_n _ (by decide), mw_n _ (by decide), mw_n _ (by omega), m18, bd_e _ (e_bit N (by omega) (by omega) _), if_neg h3, gd_z _ (by omega) (by omega) (by omega), gd_z _ (by omega) (by omega) (by omega), gd_z _ (by omega) (by omega) (by omega), mw_n _ (by decide), mw_n _ (by decide), mw_n _ (by omega), m18]
          by_cases h4 : f = 0
          · rw [if_pos h4, lq_e, lq_e, y3 h4]
          · rw [if_neg h4, lq_e, lq_e, y4 h4]
        · have hfr : ∀ c k, ¬ ((c = 5 + q ∧ k = 5) ∨ (c = 0 ∧ k = 4) ∨ (c = 16 ∧ k = 0) ∨ (c = 26 ∧ k = q) ∨ (c = 16 ∧ k = 4)) → vv (mw (mw (mw (mw (mw M (5 + q) 5 (nI y)) 0 4 0) 16 0 0) 26 q (nI y)) 16 4 0) c k = vv M c k := fun c k h => by
            rw [vmo _ _ (by omega), vmo _ _ (by omega), vmo _ _ (by omega), vmo _ _ (by omega), vmo _ _ (by omega)]
          have hp1 : vv (mw (mw (mw (mw (mw M (5 + q) 5 (nI y)) 0 4 0) 16 0 0) 26 q (nI y)) 16 4 0) 0 4 = 0 := by
            rw [vmo _ _ (by omega), vmo _ _ (by omega), vmo _ _ (by omega), vmi, t0]
          have hp2 : vv (mw (mw (mw (mw (mw M (5 + q) 5 (nI y)) 0 4 0) 16 0 0) 26 q (nI y)) 16 4 0) 16 4 = 0 := by rw [vmi, t0]
          have hW : RW (mw (mw (mw (mw (mw M (5 + q) 5 (nI y)) 0 4 0) 16 0 0) 26 q (nI y)) 16 4 0) := fun j hj => by
            by_cases hjq : j = q
            · subst hjq
              rw [vmo _ _ (by omega), vmi, vmo _ _ (by omega), vmo _ _ (by omega), vmo _ _ (by omega), vmo _ _ (by omega), vmi, vn (by omega)]
              omega
            · rw [hfr 26 j (by omega), hfr (5 + j) 5 (by omega)]
              exact w j hj
          refine ⟨⟨a.t ?_ ?_, b.t ?_ ?_, c.t (fun j hj => ⟨?_, ?_⟩), d.t (fun j hj => ⟨?_, ?_⟩), t.t ?_ ?_ ?_ (fun k => ⟨?_, ?_⟩), s.t (fun i hi => ⟨?_, ?_, ?_, ?_, ?_, ?_, ?_, ?_, ?_, ?_⟩), hW, f'.t ?_ (fun i hi => ⟨?_, ?_, ?_, ?_, ?_⟩), o.t ?_ (fun i => ⟨?_, ?_, ?_⟩)⟩, u.t ?_ (fun i hi => ?_), Pn.no hp1 hp2⟩ <;> exact hfr _ _ (by omega)
    · rw [if_neg h2, if_pos rfl]
      have e7 : (7 : Int32).toInt = 7 := by decide
      have h2' : ¬ (0 ≤ k.toInt ∧ k.toInt ≤ 7) := by omega
      refine ⟨0, M, mw M 16 0 0, rfl, ?_, hz⟩
      rw [lq_e, bd_e _ (e_isShip4 N _ _), vmo _ _ (by decide), if_pos h1, if_neg (by decide), bd_e _ (e_inI N _ t0 e7 _), if_neg h2', if_pos rfl]
  · rw [if_neg h1, if_pos rfl]
    refine ⟨0, M, mw M 16 0 0, rfl, ?_, hz⟩
    rw [lq_e, bd_e _ (e_isShip4 N _ _), vmo _ _ (by decide), if_neg h1, if_pos rfl]
