theorem e_moveTo (N c0 : Nat) (x1 x2 : Int32) (M : Mem) : fX2_moveTo N c0 x1 x2 M = some (if M c0 9 = x1 ∧ M c0 10 = x2 then 0 else 1, mw (mw M c0 9 x1) c0 10 x2) := by
  have e : ∀ y : Int32, (y = 0 ∨ y = 1) → fX2_moveTo_21 N c0 x1 x2 y M = some (y, mw (mw M c0 9 x1) c0 10 x2) := fun y hy => by
    unfold fX2_moveTo_21
    rw [lq_e, lq_e, gp_t _ hy]
  unfold fX2_moveTo
  by_cases h1 : M c0 9 = x1
  · rw [if_pos h1]
    by_cases h2 : M c0 10 = x2
    · rw [if_pos h2, e 0 (Or.inl rfl), if_pos ⟨h1, h2⟩]
    · rw [if_neg h2, e 1 (Or.inr rfl), if_neg (fun q => h2 q.2)]
  · rw [if_neg h1, e 1 (Or.inr rfl), if_neg (fun q => h1 q.1)]
/-- how many of the first k differ -/
def cdn (f g : Nat → Nat) : Nat → Nat
  | 0 => 0
  | k + 1 => cdn f g k + if f k = g k then 0 else 1
theorem cdn_le (f g : Nat → Nat) : ∀ k, cdn f g k ≤ k
  | 0 => Nat.le_refl _
  | k + 1 => by
    have := cdn_le f g k
    unfold cdn
    split <;> omega
def Ol (M : Mem) (k n : Nat) (f : Nat → Nat) : Prop := ∀ i, k ≤ i → i < n → f i < 96 ∧ M (5 + i) 9 = zI ((f i % 6 : Nat) : Int) ∧ M (5 + i) 10 = zI ((f i / 6 : Nat) : Int)
theorem move_loop (N : Nat) {n : Nat} (hn4 : n ≤ 4) {g : Nat → Nat} : ∀ (m k n1 c : Nat) (M' : Mem), k + m = n → m < n1 → M' 0 3 = zI n → Pr M' 13 14 n g → ∃ (c' : Nat) (M'' : Mem), fX3_moveShips_4 N n1 (zI c) (zI k) M' = some (zI c', M'') ∧ (∀ q j, ¬ (5 + k ≤ q ∧ q < 9 ∧ (j = 9 ∨ j = 10)) → M'' q j = M' q j) ∧ (∀ i, k ≤ i → i < n → M'' (5 + i) 9 = zI ((g i % 6 : Nat) : Int) ∧ M'' (5 + i) 10 = zI ((g i / 6 : Nat) : Int)) ∧ ∀ f, Ol M' k n f → c = cdn f g k → c' = cdn f g n := by
  intro m
  induction m with
  | zero =>
    intro k n1 c M' hk hn1 h03 hP
    obtain ⟨n1, rfl⟩ : ∃ q, n1 = q + 1 := ⟨n1 - 1, by omega⟩
    rw [fX3_moveShips_4_s, h03, if_pos ((z_le (by omega) (by omega) (by omega) (by omega)).mpr (by omega))]
    refine ⟨c, M', rfl, fun _ _ _ => rfl, fun i h1 h2 => by omega, fun f _ hc => ?_⟩
    rw [hc, show k = n by omega]
  | succ m ih =>
    intro k n1 c M' hk hn1 h03 hP
    obtain ⟨n1, rfl⟩ : ∃ q, n1 = q + 1 := ⟨n1 - 1, by omega⟩
    rw [fX3_moveShips_4_s, h03, if_neg (fun q => by have := (z_le (by omega) (by omega) (by omega) (by omega)).mp q; omega), gd_z _ (by omega) (by omega) (by omega), gd_z _ (by omega) (by omega) (by omega), gd_z _ (by omega) (by omega) (by omega), n_cl (by omega), bd_e _ (e_moveTo N _ _ _ _)]
    have hPk := hP k (by omega)
    have key : ∀ c1 : Nat, (∀ f, Ol M' k n f → c = cdn f g k → c1 = cdn f g (k + 1)) → ∃ (c' : Nat) (M'' : Mem), fX3_moveShips_4 N n1 (zI c1) (zI ((k + 1 : Nat) : Int)) (mw (mw M' (5 + k) 9 (M' 13 k)) (5 + k) 10 (M' 14 k)) = some (zI c', M'') ∧ (∀ q j, ¬ (5 + k ≤ q ∧ q < 9 ∧ (j = 9 ∨ j = 10)) → M'' q j = M' q j) ∧ (∀ i, k ≤ i → i < n → M'' (5 + i) 9 = zI ((g i % 6 : Nat) : Int) ∧ M'' (5 + i) 10 = zI ((g i / 6 : Nat) : Int)) ∧ ∀ f, Ol M' k n f → c = cdn f g k → c' = cdn f g n := fun c1 hc1 => by
      have hsame : ∀ q j, ¬ (q = 5 + k ∧ (j = 9 ∨ j = 10)) → mw (mw M' (5 + k) 9 (M' 13 k)) (5 + k) 10 (M' 14 k) q j = M' q j := fun q j h => by
        rw [mw_o _ _ (by omega), mw_o _ _ (by omega)]
      obtain ⟨c', M'', a1, a2, a3, a4⟩ := ih (k + 1) n1 c1 (mw (mw M' (5 + k) 9 (M' 13 k)) (5 + k) 10 (M' 14 k)) (by omega) (by omega) (by rw [hsame _ _ (by omega)]; exact h03) (fun i hi => by rw [hsame _ _ (by omega), hsame _ _ (by omega)]; exact hP i hi)
      refine ⟨c', M'', a1, fun q j h => by rw [a2 q j (by omega), hsame q j (by omega)], fun i h1 h2 => ?_, fun f hf hc => a4 f (fun i h1 h2 => ?_) (hc1 f hf hc)⟩
      · rcases Nat.lt_or_ge k i with hq | hq
        · exact a3 i hq h2
        · have e : i = k := by omega
          rw [e, a2 _ _ (by omega), a2 _ _ (by omega), mw_i, mw_o _ _ (by omega), mw_i]
          exact ⟨hPk.1, hPk.2.1⟩
      · rw [hsame _ _ (by omega), hsame _ _ (by omega)]
        exact hf i (by omega) h2
    have hdec : ∀ f, Ol M' k n f → ((M' (5 + k) 9 = M' 13 k ∧ M' (5 + k) 10 = M' 14 k) ↔ f k = g k) := fun f hf => by
      obtain ⟨f1, f2, f3⟩ := hf k (Nat.le_refl _) (by omega)
      obtain ⟨g1, g2, g3⟩ := hPk
      rw [f2, f3, g1, g2, z_eq (by omega) (by omega) (by omega) (by omega), z_eq (by omega) (by omega) (by omega) (by omega)]
      omega
    by_cases heq : M' (5 + k) 9 = M' 13 k ∧ M' (5 + k) 10 = M' 14 k
    · rw [if_pos heq, if_pos rfl, lq_e, z_1]
      exact key c (fun f hf hc => by rw [cdn, if_pos ((hdec f hf).mp heq), hc]; rfl)
    · rw [if_neg heq, if_neg (by decide), lq_e, lq_e, z_1, z_1]
      exact key (c + 1) (fun f hf hc => by rw [cdn, if_neg (fun e => heq ((hdec f hf).mpr e)), hc])
theorem plan3 {α : Type} (X0 : α) (Y : Int32 → α) (N : Nat) (hN : 100 ≤ N) {M : Mem} (hR : Re M) {n : Nat} (hn : vv M 16 2 = n) (hn4 : n ≤ 4) {M' : Mem} (hE : ∀ c, c < 9 → M' c = M c) :
    ((∀ h, ¬ pl_ok n (mayB M) (clB M) h) → ∃ M1 : Mem, bd (fX1_finds N (M' 0 3) M') (fun r10 M11 => gp (r10 = 0 ∨ r10 = 1) (lq (mw M11 0 4 r10) (fun M13 => if (M13 0 4) = 0 then (some (X0, M13)) else (bd (fX3_moveShips N M13) (fun r15 M16 => some (Y r15, M16)))))) = some (X0, M1) ∧ (∀ c k, ¬ (9 ≤ c ∧ c ≤ 14) → ¬ (c = 0 ∧ k = 4) → M1 c k = M' c k) ∧ M1 0 4 = 0) ∧
    ∀ g, pl_best n (mayB M) (clB M) (rCost M) g → ∃ (d : Nat) (M1 : Mem), bd (fX1_finds N (M' 0 3) M') (fun r10 M11 => gp (r10 = 0 ∨ r10 = 1) (lq (mw M11 0 4 r10) (fun M13 => if (M13 0 4) = 0 then (some (X0, M13)) else (bd (fX3_moveShips N M13) (fun r15 M16 => some (Y r15, M16)))))) = some (Y (zI d), M1) ∧ (∀ c k, ¬ (9 ≤ c ∧ c ≤ 14) → ¬ (c = 0 ∧ k = 4) → ¬ (5 ≤ c ∧ c < 9 ∧ (k = 9 ∨ k = 10)) → M1 c k = M' c k) ∧ M1 0 4 = 1 ∧ (∀ i, i < n → M1 (5 + i) 9 = zI ((g i % 6 : Nat) : Int) ∧ M1 (5 + i) 10 = zI ((g i / 6 : Nat) : Int)) ∧ ∀ f, Ol M' 0 n f → d = cdn f g n := by
  have h03 : M' 0 3 = zI n := by
    rw [hE 0 (by omega), vv_z M 0 3, hR.2.2.1.1, hn]
  obtain ⟨r, Ma, a1, a2, a3, a4, a5⟩ := e_finds N hN hR hn hn4 hE
  rw [h03, bd_e _ a1]
  constructor
  · intro hno
    have hr := a4 hno
    subst hr
    rw [gp_t _ (Or.inl rfl), lq_e, mw_i, if_pos rfl]
    refine ⟨_, rfl, fun c k h1 h2 => ?_, mw_i ..⟩
    rw [mw_o _ _ h2, a2 c (by omega)]
  · intro g hg
    obtain ⟨hr, hP⟩ := a5 g hg
    subst hr
    rw [gp_t _ (Or.inr rfl), lq_e, mw_i, if_neg (by decide)]
    obtain ⟨c', M'', b1, b2, b3, b4⟩ := move_loop N hn4 (g := g) n 0 N 0 (mw Ma 0 4 1) (by omega) (by omega) (by rw [mw_o _ _ (by omega), a2 0 (by omega), h03]) (fun i hi => by rw [mw_n _ (by decide), mw_n _ (by decide)]; exact hP i hi)
    rw [z0n] at b1
    have hm : fX3_moveShips N (mw Ma 0 4 1) = some (zI c', M'') := by
      unfold fX3_moveShips
      exact b1
    rw [bd_e _ hm]
    refine ⟨c', M'', rfl, fun c k h1 h2 h3 => ?_, ?_, fun i hi => b3 i (Nat.zero_le _) hi, fun f hf => b4 f (fun i h1 h2 => ?_) rfl⟩
    · rw [b2 c k (by omega), mw_o _ _ h2, a2 c (by omega)]
    · rw [b2 0 4 (by omega), mw_i]
    · rw [mw_n _ (by omega), a2 (5 + i) (by omega)]
      exact hf i h1 h2
/-- all that the reference's rules read is the same -/
def Vf (M M' : Mem) : Prop := ∀ c k, ((17 ≤ c ∧ c < 28) ∨ (c = 16 ∧ (k = 1 ∨ k = 2 ∨ k = 3))) → vv M' c k = vv M c k
theorem Vf.mW {M M' : Mem} (h : Vf M M') (hM : Mw M) : Mw M' := hM.t (h _ _ (by omega)) (h _ _ (by omega)) (h _ _ (by omega)) (fun c k h1 h2 => h c k (by omega))
theorem Vf.meet {M M' : Mem} (h : Vf M M') (s a t b : Nat) : rMeet M' s a t b ↔ rMeet M s a t b := by
  unfold rMeet
  rw [h 21 s (by omega), h 21 t (by omega), h 23 s (by omega), h 23 t (by omega)]
theorem Vf.may {M M' : Mem} (h : Vf M M') (i a : Nat) : rMay M' i a ↔ rMay M i a := by
  have v : ∀ c k, 17 ≤ c → c < 28 → vv M' c k = vv M c k := fun c k q1 q2 => h c k (by omega)
  have v1 : vv M' 16 1 = vv M 16 1 := h _ _ (by omega)
  have v3 : vv M' 16 3 = vv M 16 3 := h _ _ (by omega)
  unfold rMay rTide rDeep rGear
  simp only [v1, v3, v 17 _ (by decide) (by decide), v 18 _ (by decide) (by decide), v 19 _ (by decide) (by decide), v 20 _ (by decide) (by decide), v 21 _ (by decide) (by decide), v 22 _ (by decide) (by decide), v 24 _ (by decide) (by decide), v 26 _ (by decide) (by decide), v 27 _ (by decide) (by decide)]
theorem Vf.mB {M M' : Mem} (h : Vf M M') : mayB M' = mayB M := by
  funext i a
  rw [Bool.eq_iff_iff, mayB_t, mayB_t]
  exact h.may i a
theorem Vf.cB {M M' : Mem} (h : Vf M M') : clB M' = clB M := by
  funext i a j b
  have e := h.meet i a j b
  have e1 := clB_f (M := M) (i := i) (a := a) (j := j) (b := b)
  have e2 := clB_f (M := M') (i := i) (a := a) (j := j) (b := b)
  have e3 : clB M' i a j b = false ↔ clB M i a j b = false := by rw [e1, e2, e]
  cases q1 : clB M i a j b
  · exact e3.mpr q1
  · cases q2 : clB M' i a j b
    · exact absurd (e3.mp q2) (by rw [q1]; decide)
    · rfl
theorem Vf.cost {M M' : Mem} (h : Vf M M') : rCost M' = rCost M := by
  funext i a
  unfold rCost
  rw [h 25 i (by omega), h 24 i (by omega)]
/-- the relation where only the plan and the searcher have changed -/
theorem Rn.k {M M2 : Mem} (hR : Rn M) (hu : Un M) (e : ∀ c k, ((c = 0 ∧ k = 3) ∨ (1 ≤ c ∧ c ≤ 3) ∨ (5 ≤ c ∧ c < 9 ∧ k < 9) ∨ (c = 16 ∧ 1 ≤ k ∧ k ≤ 3) ∨ (17 ≤ c ∧ c < 28)) → vv M2 c k = vv M c k) : Rn M2 ∧ Un M2 := by
  obtain ⟨a, b, c, d, t, s, w, f, o⟩ := hR
  refine ⟨⟨a.t ?_ ?_, b.t ?_ ?_, c.t (fun j hj => ⟨?_, ?_⟩), d.t (fun j hj => ⟨?_, ?_⟩), t.t ?_ ?_ ?_ (fun k => ⟨?_, ?_⟩), s.t (fun i hi => ⟨?_, ?_, ?_, ?_, ?_, ?_, ?_, ?_, ?_, ?_⟩), w.t (fun i hi => ⟨?_, ?_⟩), f.t ?_ (fun i hi => ⟨?_, ?_, ?_, ?_, ?_⟩), o.t ?_ (fun i => ⟨?_, ?_, ?_⟩)⟩, hu.t ?_ (fun i hi => ?_)⟩ <;> exact e _ _ (by omega)
theorem Inv.pl {M M2 : Mem} {n : Nat} {g : Nat → Nat} (hR : Rn M) (hu : Un M) (hn : vv M 16 2 = n) (e : ∀ c k, ((c = 0 ∧ k = 3) ∨ (1 ≤ c ∧ c ≤ 3) ∨ (5 ≤ c ∧ c < 9 ∧ k < 9) ∨ (c = 16 ∧ 1 ≤ k ∧ k ≤ 3) ∨ (17 ≤ c ∧ c < 28)) → vv M2 c k = vv M c k) (hok : pl_ok n (mayB M) (clB M) g) (h1 : M2 0 4 = 1) (h2 : M2 16 4 = 1) (h3 : ∀ i, i < n → M2 28 i = zI (g i)) (h4 : ∀ i, i < n → M2 (5 + i) 9 = zI ((g i % 6 : Nat) : Int) ∧ M2 (5 + i) 10 = zI ((g i / 6 : Nat) : Int)) : Inv M2 := by
  obtain ⟨k1, k2⟩ := hR.k hu e
  have v1 : vv M2 0 4 = 1 := by unfold vv; rw [h1, t1]
  have v2 : vv M2 16 4 = 1 := by unfold vv; rw [h2, t1]
  have e2 : vv M2 16 2 = n := by rw [e _ _ (by omega)]; exact hn
  refine ⟨k1, k2, by rw [v1, v2], Or.inr ⟨v2, g, fun i hi => ?_⟩⟩
  have hin : i < n := by omega
  have hg := (hok i hin).1
  refine ⟨hg, ?_, ?_, ?_, fun j hj hne => ?_⟩
  · exact vz M2 28 i (h3 i hin) (by omega) (by omega)
  · exact vz M2 _ _ (h4 i hin).1 (by omega) (by omega)
  · exact vz M2 _ _ (h4 i hin).2 (by omega) (by omega)
  · have hV : Vf M M2 := fun c k q => e c k (by omega)
    rw [hV.meet]
    exact ok_nm hok hin (by omega) (fun q => hne q.symm)
theorem s_solve (N : Nat) (hN : 200000000 ≤ N) {M : Mem} (hI : Inv M) : ∃ (r : Int32) (M1 M2 : Mem), fX3_solve N M = some (r, M1) ∧ fX4_solve N M1 = some (r, M2) ∧ Inv M2 := by
  have hR := hI.1.re
  have hb := hI.1.2.1.1
  obtain ⟨n, hn⟩ : ∃ n : Nat, vv M 16 2 = n := ⟨(vv M 16 2).toNat, by omega⟩
  have hn4 : n ≤ 4 := by omega
  obtain ⟨p1, p2⟩ := plan3 (0 : Int32) (fun _ => (1 : Int32)) N (by omega) hR hn hn4 (M' := M) (fun _ _ => rfl)
  obtain ⟨rz, Mz, -, -, hdi⟩ := e_search N hN hR.1 hn hn4
  rcases hdi with ⟨-, hno⟩ | ⟨-, g, hg, -⟩
  · obtain ⟨M1, q1, q2, q3⟩ := p1 hno
    have hV : Vf M (mw M1 16 0 0) := fun c k h => by
      rw [vmo _ _ (by omega)]
      unfold vv
      rw [q2 c k (by omega) (by omega)]
    obtain ⟨r, M3, s1, s2, s3⟩ := e_search N hN (hV.mW hR.1) (n := n) (by rw [hV _ _ (by omega)]; exact hn) hn4
    rw [hV.mB, hV.cB, hV.cost] at s3
    have hr : r = 0 := by
      rcases s3 with ⟨v, -⟩ | ⟨-, g, v, -⟩
      · exact v
      · exact absurd v.1 (hno g)
    subst hr
    refine ⟨0, M1, mw M3 16 4 0, q1, ?_, ?_⟩
    · unfold fX4_solve
      rw [lq_e, bd_e _ s1, gp_t _ (Or.inl rfl), lq_e, mw_i, if_pos rfl]
    · obtain ⟨k1, k2⟩ := hI.1.k (M2 := mw M3 16 4 0) hI.2.1 (fun c k h => by
        rw [vmo _ _ (by omega)]
        unfold vv
        rw [s2 c (by omega), mw_o _ _ (by omega), q2 c k (by omega) (by omega)])
      refine ⟨k1, k2, Pn.no ?_ ?_⟩
      · rw [vmo _ _ (by omega)]
        unfold vv
        rw [s2 0 (by omega), mw_o _ _ (by omega), q3, t0]
      · rw [vmi, t0]
  · obtain ⟨d, M1, q1, q2, q3, q4, -⟩ := p2 g hg
    have hV : Vf M (mw M1 16 0 0) := fun c k h => by
      rw [vmo _ _ (by omega)]
      unfold vv
      rw [q2 c k (by omega) (by omega) (by omega)]
    obtain ⟨r, M3, s1, s2, s3⟩ := e_search N hN (hV.mW hR.1) (n := n) (by rw [hV _ _ (by omega)]; exact hn) hn4
    rw [hV.mB, hV.cB, hV.cost] at s3
    have hr : r = 1 ∧ ∀ j, j < n → M3 28 j = zI (g j) := by
      rcases s3 with ⟨-, v⟩ | ⟨v1, g', v2, v3⟩
      · exact absurd hg.1 (v g)
      · refine ⟨v1, fun j hj => ?_⟩
        rw [v3 j hj, pl_one hg v2.1 (v2.2 g hg.1) j hj]
    obtain ⟨rfl, h28⟩ := hr
    refine ⟨1, M1, mw M3 16 4 1, q1, ?_, ?_⟩
    · unfold fX4_solve
      rw [lq_e, bd_e _ s1, gp_t _ (Or.inr rfl), lq_e, mw_i, if_neg (by decide)]
    · refine Inv.pl (g := g) hI.1 hI.2.1 hn (fun c k h => ?_) hg.1 ?_ (mw_i ..) (fun i hi => ?_) (fun i hi => ?_)
      · rw [vmo _ _ (by omega)]
        unfold vv
        rw [s2 c (by omega), mw_o _ _ (by omega), q2 c k (by omega) (by omega) (by omega)]
      · rw [mw_o _ _ (by omega), s2 0 (by omega), mw_o _ _ (by omega), q3]
      · rw [mw_n _ (by decide)]
        exact h28 i hi
      · rw [mw_n _ (by omega), s2 (5 + i) (by omega), mw_n _ (by omega)]
        exact q4 i hi
