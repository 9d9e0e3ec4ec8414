theorem mF_c {M M' : Mem} (e : ∀ c k, 17 ≤ c → c < 28 → vv M' c k = vv M c k) (s a i : Nat) : mF M' s a i ↔ mF M s a i := by
  unfold mF rMeet
  rw [e 27 i (by decide) (by decide), e 21 i (by decide) (by decide), e 21 s (by decide) (by decide), e 23 i (by decide) (by decide), e 23 s (by decide) (by decide)]
/-- the reference's fix, where ship, hour and row are in order -/
theorem fix4_e (N : Nat) (hN : 100 ≤ N) {M : Mem} (hM : Mw M) {n s p t : Nat} (hn : vv M 16 2 = n) (hs : s < n) (hl : 1 ≤ vv M 21 s) (hp : (p : Int) + vv M 21 s ≤ vv M 16 1) (ht : t < 16) : ∃ (r : Int32) (M'' : Mem), fX4_fix N (zI s) (zI p) (zI t) M = some (r, M'') ∧ ((r = 0 ∧ M'' = mw M 16 0 0 ∧ ∃ i, i < n ∧ mF M s (6 * t + p) i) ∨ (r = 1 ∧ M'' = mw (mw (mw M 16 0 0) 27 s (zI ((6 * t + p : Nat) : Int))) 16 4 0 ∧ ¬ ∃ i, i < n ∧ mF M s (6 * t + p) i)) := by
  have ha := hM.1
  have hb := hM.2.1
  have e15 : (15 : Int32).toInt = 15 := by decide
  have hv : ∀ c k, ¬ (c = 16 ∧ k = 0) → vv (mw M 16 0 0) c k = vv M c k := fun c k h => vmo _ _ h
  have hM' : Mw (mw M 16 0 0) := hM.t (hv _ _ (by decide)) (hv _ _ (by decide)) (hv _ _ (by decide)) (fun c k h1 h2 => hv c k (by omega))
  obtain ⟨r, M'', r1, r2⟩ := fix4_loop N hM' (n := n) (s := s) (p := p) (t := t) (by rw [hv _ _ (by decide)]; exact hn) hs (by omega) ht n 0 N (by omega) (by omega)
  rw [z0n] at r1
  have ek : (∃ i, 0 ≤ i ∧ i < n ∧ mF (mw M 16 0 0) s (6 * t + p) i) ↔ ∃ i, i < n ∧ mF M s (6 * t + p) i := by
    constructor
    · rintro ⟨i, -, h1, h2⟩
      exact ⟨i, h1, (mF_c (fun c k h1 h2 => hv c k (by omega)) _ _ _).mp h2⟩
    · rintro ⟨i, h1, h2⟩
      exact ⟨i, by omega, h1, (mF_c (fun c k h1 h2 => hv c k (by omega)) _ _ _).mpr h2⟩
  rw [ek] at r2
  have w1 : (zI (s : Int)).toInt = s := z_t (by omega) (by omega)
  have w2 : (zI (p : Int)).toInt = p := z_t (by omega) (by omega)
  have w3 : (zI (t : Int)).toInt = t := z_t (by omega) (by omega)
  have k1 : 0 ≤ (zI (s : Int)).toInt ∧ (zI (s : Int)).toInt < vv M 16 2 := by omega
  have k2 : 0 ≤ (zI (p : Int)).toInt ∧ (zI (p : Int)).toInt < vv M 16 1 := by omega
  have k3 : 0 ≤ (zI (t : Int)).toInt ∧ (zI (t : Int)).toInt ≤ 15 := by omega
  refine ⟨r, M'', ?_, r2⟩
  unfold fX4_fix
  rw [lq_e, bd_e _ (e_isShip4 N _ _), hv _ _ (by decide), if_pos k1, if_neg (by decide), bd_e _ (e_isPlace4 N _ _), hv _ _ (by decide), if_pos k2, if_neg (by decide), bd_e _ (e_inI N _ t0 e15 _), if_pos k3, if_neg (by decide), gd_z _ (by omega) (by omega) (by omega), n_cl (by omega), vv_z (mw M 16 0 0) 21 s, vv_z (mw M 16 0 0) 16 1, hv _ _ (by omega), hv _ _ (by decide), z_add, if_pos ((z_le (by omega) (by omega) (by omega) (by omega)).mpr hp)]
  exact r1
theorem s_fix (N : Nat) (hN : 100 ≤ N) {M : Mem} (hI : Inv M) (x y z : Int32) : ∃ (r : Int32) (M1 M2 : Mem), fX3_fix N x y z M = some (r, M1) ∧ fX4_fix N x y z M1 = some (r, M2) ∧ Inv M2 := by
  obtain ⟨⟨a, b, c, d, t', s', w, f, o⟩, u, -⟩ := id hI
  have hz : Inv (mw M 16 0 0) := (Zf.w 0).inv hI
  have hMw : Mw M := hI.1.re.1
  have e15 : (15 : Int32).toInt = 15 := by decide
  have ha := a.1
  have hb := b.1
  have hv : ∀ c k, ¬ (c = 16 ∧ k = 0) → vv (mw M 16 0 0) c k = vv M c k := fun c k h => vmo _ _ h
  have goal0 : fX4_fix N x y z M = some (0, mw M 16 0 0) → fX3_fix N x y z M = some (0, M) → ∃ (r : Int32) (M1 M2 : Mem), fX3_fix N x y z M = some (r, M1) ∧ fX4_fix N x y z M1 = some (r, M2) ∧ Inv M2 := fun q1 q2 => ⟨0, M, _, q2, q1, hz⟩
  by_cases h1 : 0 ≤ x.toInt ∧ x.toInt < vv M 16 2
  · obtain ⟨s, hs⟩ : ∃ s, s = x.toInt.toNat := ⟨_, rfl⟩
    have hx := xN h1.1
    rw [← hs] at hx
    subst hx
    obtain ⟨n, hn⟩ : ∃ n : Nat, vv M 16 2 = n := ⟨(vv M 16 2).toNat, by omega⟩
    have hs4 : s < 4 := by omega
    have hsn : s < n := by omega
    have hS := s' s hs4
    have hO := o s (by omega)
    by_cases h2 : 0 ≤ z.toInt ∧ z.toInt ≤ 15
    · have ew : fX0_isRow N y (M (5 + s) 0) M = some (if 0 ≤ y.toInt ∧ y.toInt + vv M 21 s ≤ vv M 16 1 then 1 else 0, M) := by
        have q := e_isRowI N (M := M) (by rw [a.2]; exact ha) y (l := M (5 + s) 0) (by have := hS.2.1; unfold vv at this; rw [this]; exact hS.1.1)
        rw [a.2, show (M (5 + s) 0).toInt = vv M 21 s from hS.2.1] at q
        exact q
      by_cases h3 : 0 ≤ y.toInt ∧ y.toInt + vv M 21 s ≤ vv M 16 1
      · obtain ⟨p, hp⟩ : ∃ p, p = y.toInt.toNat := ⟨_, rfl⟩
        have hy := xN h3.1
        rw [← hp] at hy
        subst hy
        obtain ⟨t, ht⟩ : ∃ t, t = z.toInt.toNat := ⟨_, rfl⟩
        have hz' := xN h2.1
        rw [← ht] at hz'
        subst hz'
        have hp6 : p < 6 := by omega
        have ht16 : t < 16 := by omega
        have hpl : (p : Int) + vv M 21 s ≤ vv M 16 1 := by omega
        obtain ⟨r, r1, r2, r3⟩ := fix3_loop N hI.1 hn hsn hp6 ht16 n 0 N (by omega) (by omega)
        rw [z0n] at r1
        have em : fX3_meetsFixed N (zI s) (zI p) (zI t) M = some (r, M) := by
          unfold fX3_meetsFixed
          rw [gd_z _ (by omega) (by omega) (by omega), n_cl (by omega)]
          exact r1
        have e3 : fX3_fix N (zI s) (zI p) (zI t) M = if r = 0 then some (1, mw (mw (mw (mw M (5 + s) 6 1) (5 + s) 7 (zI p)) (5 + s) 8 (zI t)) 0 4 0) else some (0, M) := by
          unfold fX3_fix
          rw [bd_e _ (e_isShip3 N _ M), b.2, if_pos h1, if_neg (by decide), bd_e _ (e_wiI N _ t0 e15 M), if_pos h2, if_neg (by decide), gd_z _ (by omega) (by omega) (by omega), n_cl (by omega), bd_e _ ew, if_pos h3, if_neg (by decide), bd_e _ em, lq_e, lq_e, lq_e, lq_e]
        rw [e3]
        rcases r2 with r2 | r2
        · rw [if_pos r2]
          have hno : ¬ ∃ i, i < n ∧ mF M s (6 * t + p) i := by
            rintro ⟨i, i1, i2⟩
            have := r3.mpr ⟨i, Nat.zero_le _, i1, i2⟩
            rw [r2] at this
            exact absurd this (by decide)
          have hfr1 : ∀ c k, ¬ ((c = 5 + s ∧ (k = 6 ∨ k = 7 ∨ k = 8)) ∨ (c = 0 ∧ k = 4)) → vv (mw (mw (mw (mw M (5 + s) 6 1) (5 + s) 7 (zI p)) (5 + s) 8 (zI t)) 0 4 0) c k = vv M c k := fun c k h => by
            rw [vmo _ _ (by omega), vmo _ _ (by omega), vmo _ _ (by omega), vmo _ _ (by omega)]
          have g6 : vv (mw (mw (mw (mw M (5 + s) 6 1) (5 + s) 7 (zI p)) (5 + s) 8 (zI t)) 0 4 0) (5 + s) 6 = 1 := by
            rw [vmo _ _ (by omega), vmo _ _ (by omega), vmo _ _ (by omega), vmi, t1]
          have g7 : vv (mw (mw (mw (mw M (5 + s) 6 1) (5 + s) 7 (zI p)) (5 + s) 8 (zI t)) 0 4 0) (5 + s) 7 = p := by
            rw [vmo _ _ (by omega), vmo _ _ (by omega), vmi, z_t (by omega) (by omega)]
          have g8 : vv (mw (mw (mw (mw M (5 + s) 6 1) (5 + s) 7 (zI p)) (5 + s) 8 (zI t)) 0 4 0) (5 + s) 8 = t := by
            rw [vmo _ _ (by omega), vmi, z_t (by omega) (by omega)]
          have g4 : vv (mw (mw (mw (mw M (5 + s) 6 1) (5 + s) 7 (zI p)) (5 + s) 8 (zI t)) 0 4 0) 0 4 = 0 := by
            rw [vmi, t0]
          generalize mw (mw (mw (mw M (5 + s) 6 1) (5 + s) 7 (zI p)) (5 + s) 8 (zI t)) 0 4 0 = M1 at hfr1 g6 g7 g8 g4
          obtain ⟨r', M2, q1, q2⟩ := fix4_e N hN (M := M1) (n := n) (s := s) (p := p) (t := t) (hMw.t (hfr1 _ _ (by omega)) (hfr1 _ _ (by omega)) (hfr1 _ _ (by omega)) (fun c k k1 k2 => hfr1 c k (by omega))) (by rw [hfr1 _ _ (by omega)]; exact hn) hsn (by rw [hfr1 _ _ (by omega)]; exact hO.1) (by rw [hfr1 _ _ (by omega), hfr1 _ _ (by omega)]; exact hpl) ht16
          have hq : r' = 1 ∧ M2 = mw (mw (mw M1 16 0 0) 27 s (zI ((6 * t + p : Nat) : Int))) 16 4 0 := by
            rcases q2 with ⟨-, -, i, i1, i2⟩ | ⟨v1, v2, -⟩
            · exact absurd ⟨i, i1, (mF_c (fun c k k1 k2 => hfr1 c k (by omega)) _ _ _).mp i2⟩ hno
            · exact ⟨v1, v2⟩
          obtain ⟨rfl, hM2⟩ := hq
          refine ⟨1, M1, M2, rfl, q1, ?_⟩
          have hfr : ∀ c k, ¬ ((c = 5 + s ∧ (k = 6 ∨ k = 7 ∨ k = 8)) ∨ (c = 0 ∧ k = 4) ∨ (c = 16 ∧ k = 0) ∨ (c = 27 ∧ k = s) ∨ (c = 16 ∧ k = 4)) → vv M2 c k = vv M c k := fun c k h => by
            rw [hM2, vmo _ _ (by omega), vmo _ _ (by omega), vmo _ _ (by omega), hfr1 c k (by omega)]
          have hsm : ∀ c k, c < 16 → vv M2 c k = vv M1 c k := fun c k h => by
            rw [hM2, vmo _ _ (by omega), vmo _ _ (by omega), vmo _ _ (by omega)]
          have v27 : vv M2 27 s = ((6 * t + p : Nat) : Int) := by
            rw [hM2, vmo _ _ (by omega), vmi, z_t (by omega) (by omega)]
          have hp1 : vv M2 0 4 = 0 := by rw [hsm _ _ (by omega)]; exact g4
          have hp2 : vv M2 16 4 = 0 := by rw [hM2, vmi, t0]
          have hF : RFx M2 := fun j hj => by
            by_cases hjq : j = s
            · subst hjq
              refine Or.inr ?_
              rw [hsm (5 + j) 6 (by omega), hsm (5 + j) 7 (by omega), hsm (5 + j) 8 (by omega), g6, g7, g8, v27, hfr 21 j (by omega), hfr 16 1 (by omega)]
              exact ⟨rfl, by omega, by omega, by omega, hpl, by omega, by omega⟩
            · rw [hfr 27 j (by omega), hfr (5 + j) 6 (by omega), hfr (5 + j) 7 (by omega), hfr (5 + j) 8 (by omega), hfr 21 j (by omega), hfr 16 1 (by omega)]
              exact f j hj
          have hU : Un M2 := fun j hj h => by
            rw [hfr 16 2 (by omega)] at h
            rw [hfr 27 j (by omega)]
            exact u j hj h
          refine ⟨⟨a.t ?_ ?_, b.t ?_ ?_, c.t (fun j hj => ⟨?_, ?_⟩), d.t (fun j hj => ⟨?_, ?_⟩), t'.t ?_ ?_ ?_ (fun k => ⟨?_, ?_⟩), s'.t (fun i hi => ⟨?_, ?_, ?_, ?_, ?_, ?_, ?_, ?_, ?_, ?_⟩), w.t (fun i hi => ⟨?_, ?_⟩), hF, o.t ?_ (fun i => ⟨?_, ?_, ?_⟩)⟩, hU, Pn.no hp1 hp2⟩ <;> exact hfr _ _ (by omega)
        · rw [if_neg (by rw [r2]; decide)]
          obtain ⟨r', M2, q1, q2⟩ := fix4_e N hN hMw hn hsn hO.1 hpl ht16
          have hq : r' = 0 ∧ M2 = mw M 16 0 0 := by
            rcases q2 with ⟨v1, v2, -⟩ | ⟨-, -, v3⟩
            · exact ⟨v1, v2⟩
            · obtain ⟨i, -, i1, i2⟩ := r3.mp r2
              exact absurd ⟨i, i1, i2⟩ v3
          obtain ⟨rfl, rfl⟩ := hq
          exact ⟨0, M, _, rfl, q1, hz⟩
      · refine goal0 ?_ ?_
        · unfold fX4_fix
          rw [lq_e, bd_e _ (e_isShip4 N _ _), hv _ _ (by decide), if_pos h1, if_neg (by decide), bd_e _ (e_isPlace4 N _ _), hv _ _ (by decide)]
          by_cases h4 : 0 ≤ y.toInt ∧ y.toInt < vv M 16 1
          · have el : (y + M 21 s).toInt = y.toInt + vv M 21 s := by
              have := hS.1.1
              unfold vv at this ha h4 ⊢
              exact i_add (by omega) (by omega)
            rw [if_pos h4, if_neg (by decide), bd_e _ (e_inI N _ t0 e15 _), if_pos h2, if_neg (by decide), gd_z _ (by omega) (by omega) (by omega), n_cl (by omega), mw_n _ (show 21 ≠ 16 by decide), mw_o _ _ (show ¬ ((16 : Nat) = 16 ∧ (1 : Nat) = 0) by decide), if_neg (by rw [i_le, el]; exact fun e => h3 ⟨h4.1, e⟩)]
          · rw [if_neg h4, if_pos rfl]
        · unfold fX3_fix
          rw [bd_e _ (e_isShip3 N _ M), b.2, if_pos h1, if_neg (by decide), bd_e _ (e_wiI N _ t0 e15 M), if_pos h2, if_neg (by decide), gd_z _ (by omega) (by omega) (by omega), n_cl (by omega), bd_e _ ew, if_neg h3, if_pos rfl]
    · refine goal0 ?_ ?_
      · unfold fX4_fix
        rw [lq_e, bd_e _ (e_isShip4 N _ _), hv _ _ (by decide), if_pos h1, if_neg (by decide), bd_e _ (e_isPlace4 N _ _), hv _ _ (by decide)]
        by_cases h4 : 0 ≤ y.toInt ∧ y.toInt < vv M 16 1
        · rw [if_pos h4, if_neg (by decide), bd_e _ (e_inI N _ t0 e15 _), if_neg h2, if_pos rfl]
        · rw [if_neg h4, if_pos rfl]
      · unfold fX3_fix
        rw [bd_e _ (e_isShip3 N _ M), b.2, if_pos h1, if_neg (by decide), bd_e _ (e_wiI N _ t0 e15 M), if_neg h2, if_pos rfl]
  · refine goal0 ?_ ?_
    · unfold fX4_fix
      rw [lq_e, bd_e _ (e_isShip4 N _ _), hv _ _ (by decide), if_neg h1, if_pos rfl]
    · unfold fX3_fix
      rw [bd_e _ (e_isShip3 N _ M), b.2, if_neg h1, if_pos rfl]
