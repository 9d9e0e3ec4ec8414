def Cc : Nat → Nat
  | 0 => 1
  | k + 1 => 96 * (1 + Cc k) + 1
def Bk (n : Nat) (b : Int) (g : Nat → Nat) (M : Mem) : Prop := b < 1000000000 → ∀ j, j < n → M 28 j = zI (g j)
theorem Sm.w {M : Mem} {n : Nat} {Lr : Nat → Int} {M' : Mem} (h : Sm M n Lr M') {k : Nat} {x : Int32} : Sm M n Lr (mw M' 29 k x) := ⟨h.1.w (by decide), fun s hs => by rw [mw_n M' (show 30 ≠ 29 by decide)]; exact h.2 s hs⟩
theorem Bk.w {n : Nat} {b : Int} {g : Nat → Nat} {M' : Mem} (h : Bk n b g M') {k : Nat} {x : Int32} : Bk n b g (mw M' 29 k x) := fun hb j hj => by rw [mw_n M' (show 28 ≠ 29 by decide)]; exact h hb j hj
theorem Tr.w {M' : Mem} {s k : Nat} {f : Nat → Nat} (h : Tr M' s f) {x : Int32} (hk : s ≤ k) : Tr (mw M' 29 k x) s f := fun j hj => ⟨by rw [mw_o M' x (by omega)]; exact (h j hj).1, (h j hj).2⟩
theorem Tr.up {M' : Mem} {s a : Nat} {f : Nat → Nat} (h : Tr M' s f) (ha : a < 96) : Tr (mw M' 29 s (zI a)) (s + 1) (va_up f s a) := fun j hj => by
  rcases Nat.lt_or_ge j s with q | q
  · rw [va_up_ne f a (by omega), mw_o M' _ (by omega)]
    exact h j q
  · rw [show j = s by omega, mw_i]
    have : va_up f s a s = a := by simp [va_up]
    rw [this]
    exact ⟨rfl, ha⟩
theorem Pv.up {M : Mem} {s a : Nat} {f : Nat → Nat} (h : Pv M s f) (hm : rMay M s a) (hc : ∀ t, t < s → ¬ rMeet M s a t (f t)) : Pv M (s + 1) (va_up f s a) := fun i hi => by
  have hus : va_up f s a s = a := by simp [va_up]
  rcases Nat.lt_or_ge i s with q | q
  · rw [va_up_ne f a (by omega)]
    refine ⟨(h i q).1, fun j hj => ?_⟩
    rw [va_up_ne f a (by omega)]
    exact (h i q).2 j hj
  · have : i = s := by omega
    subst this
    rw [hus]
    refine ⟨hm, fun j hj => ?_⟩
    rw [va_up_ne f a (by omega)]
    exact fun z => hc j hj (rMeet_sym.mp z)
theorem Pv.ok {M : Mem} {n : Nat} {f : Nat → Nat} (h : Pv M n f) (hf : ∀ j, j < n → f j < 96) : pl_ok n (mayB M) (clB M) f := fun i hi => ⟨hf i hi, mayB_t.mpr (h i hi).1, fun j hj => clB_f.mpr ((h i hi).2 j hj)⟩
theorem e_194 (N : Nat) (k71 : Int32 → Int32 → Mem → Option (Int32 × Mem)) (x1 : Int32) {M' : Mem} {n s a : Nat} (hv : vv M' 16 2 = n) (hn4 : n ≤ 4) (hs : s < n) (ha : a ≤ 96) : fX4_search_194 N k71 x1 (zI s) (zI a) M' = if a = 96 then k71 x1 (zI ((s : Int) - 1)) (mw M' 29 s (zI a)) else if s + 1 = n then k71 x1 (zI ((s + 1 : Nat) : Int)) (mw M' 29 s (zI a)) else k71 x1 (zI ((s + 1 : Nat) : Int)) (mw (mw M' 29 s (zI a)) 29 (s + 1) (zI (-1))) := by
  unfold fX4_search_194
  have hv2 : vv (mw M' 29 s (zI a)) 16 2 = n := by unfold vv; rw [mw_n M' (by decide)]; exact hv
  rw [gd_z _ (by omega) (by omega) (by omega), n_cl (by omega), lq_e, i96]
  by_cases h : a = 96
  · rw [if_pos ((z_le (by omega) (by omega) (by omega) (by omega)).mpr (by omega)), if_pos h]
    unfold fX4_search_213
    rw [lq_e, i96, if_pos ((z_le (by omega) (by omega) (by omega) (by omega)).mpr (by omega)), iN1, z_add]
    rfl
  · rw [if_neg (fun q => by have := (z_le (by omega) (by omega) (by omega) (by omega)).mp q; omega), if_neg h]
    unfold fX4_search_213
    rw [lq_e, i96, if_neg (fun q => by have := (z_le (by omega) (by omega) (by omega) (by omega)).mp q; omega), z_1, vv_z (mw M' 29 s (zI a)) 16 2, hv2]
    by_cases h2 : s + 1 = n
    · rw [if_pos ((z_le (by omega) (by omega) (by omega) (by omega)).mpr (by omega)), if_pos h2]
    · rw [if_neg (fun q => by have := (z_le (by omega) (by omega) (by omega) (by omega)).mp q; omega), if_neg h2, gd_z _ (by omega) (by omega) (by omega), n_cl (by omega), lq_e, iN1]
theorem e_71 (N : Nat) (hN : 100 ≤ N) {M : Mem} (hM : Mw M) {n : Nat} (hn : vv M 16 2 = n) (hn4 : n ≤ 4) {M' : Mem} (hA : Ag M M') {s a : Nat} (hs : s < n) (ha : a ≤ 96) {f : Nat → Nat} (hT : Tr M' s f) (ht : M' 29 s = zI ((a : Int) - 1)) (x1 : Int32) (n1 : Nat) : fX4_search_71 N (n1 + 1) x1 (zI s) M' = fX4_search_142 N (fX4_search_71 N n1) N x1 (zI s) (zI a) (zI (pl_tot (rCost M) f s)) M' := by
  have hv : vv M' 16 2 = n := by rw [hA.v (by decide)]; exact hn
  have ec : fX4_costUpTo N (zI ↑s) M' = some (zI (pl_tot (rCost M) f s), M') := by
    rw [e_costUpTo N hN (hA.mw hM) (by omega) hT]
    have : rCost M' = rCost M := by funext i a; exact hA.cost i a
    rw [this]
  rw [fX4_search_71_s, i0, if_neg (fun q => by have := (z_lt (by omega) (by omega) (by omega) (by omega)).mp q; omega), vv_z M' 16 2, hv, if_neg (fun q => by have := (z_eq (by omega) (by omega) (by omega) (by omega)).mp q; omega), gd_z _ (by omega) (by omega) (by omega), n_cl (by omega), ht, lq_e, bd_e _ ec, i1, z_add]
  congr 2
  omega
theorem lvl (N : Nat) (hN : 100 ≤ N) {M : Mem} (hM : Mw M) {n : Nat} (hn : vv M 16 2 = n) (hn4 : n ≤ 4) {Lr : Nat → Int} (hL : rLr M n Lr) : ∀ (k s : Nat), s + (k + 1) = n → ∀ (m a : Nat), a + m = 96 → ∀ (f : Nat → Nat) (b : Int) (g : Nat → Nat) (M' : Mem) (fuel : Nat), Sm M n Lr M' → Tr M' s f → Pv M s f → M' 29 s = zI ((a : Int) - 1) → Gs M n s f a b g → Bk n b g M' → m * (1 + Cc k) + 1 ≤ fuel →
    ∃ (fuel' : Nat) (b' : Int) (g' : Nat → Nat) (M'' : Mem), fuel ≤ fuel' + (m * (1 + Cc k) + 1) ∧ fX4_search_71 N fuel (zI b) (zI s) M' = fX4_search_71 N fuel' (zI b') (zI ((s : Int) - 1)) M'' ∧ Sm M n Lr M'' ∧ Tr M'' s f ∧ Gs M n s f 96 b' g' ∧ Bk n b' g' M'' := by
  intro k
  induction k with
  | zero =>
    intro s hs m
    induction m using Nat.strongRecOn with
    | ind m ihm =>
      intro a ha f b g M' fuel hS hT hP ht hG hB hfu
      obtain ⟨fuel, rfl⟩ : ∃ z, fuel = z + 1 := ⟨fuel - 1, by omega⟩
      have hv : vv M' 16 2 = n := by rw [hS.1.v (by decide)]; exact hn
      obtain ⟨a', q1, q2, q3, q4, q5⟩ := scan N hN hM hn4 hL hS (by omega) hT (fX4_search_71 N fuel) (b := b) (g := g) m a N ha (by omega) hG
      rw [e_71 N hN hM hn hn4 hS.1 (by omega) (by omega) hT ht, q3, e_194 N _ _ hv hn4 (by omega) q2]
      by_cases h96 : a' = 96
      · subst h96
        rw [if_pos rfl]
        exact ⟨fuel, b, g, _, by omega, rfl, hS.w, hT.w (Nat.le_refl _), q4, hB.w⟩
      · rw [if_neg h96, if_pos (by omega)]
        obtain ⟨p1, p2, p3⟩ := q5 (by omega)
        have hT2 := hT.up (a := a') (by omega)
        have hP2 := hP.up p1 p3
        have hS2 : Sm M n Lr (mw M' 29 s (zI a')) := hS.w
        have hsn : s + 1 = n := by omega
        rw [hsn] at hT2 hP2
        have hok := hP2.ok (fun j hj => (hT2 j hj).2)
        obtain ⟨fuel, rfl⟩ : ∃ z, fuel = z + 1 := ⟨fuel - 1, by
          have : 1 ≤ m := by omega
          have := Nat.mul_le_mul_right (1 + Cc 0) this
          simp only [Cc] at *
          omega⟩
        have hv2 : vv (mw M' 29 s (zI a')) 16 2 = n := by rw [hS2.1.v (by decide)]; exact hn
        have ec : fX4_costUpTo N (zI (n : Int)) (mw M' 29 s (zI a')) = some (zI (pl_tot (rCost M) (va_up f s a') n), mw M' 29 s (zI a')) := by
          rw [e_costUpTo N hN (hS2.1.mw hM) hn4 hT2]
          have : rCost (mw M' 29 s (zI a')) = rCost M := by funext i a; exact hS2.1.cost i a
          rw [this]
        obtain ⟨M3, c1, c2, c3⟩ := copy_loop N hn4 (fX4_search_71 N fuel) (zI (pl_tot (rCost M) (va_up f s a') n)) (zI (n : Int)) n 0 N (mw M' 29 s (zI a')) hv2 (by omega) (by omega)
        have e0 : fX4_search_71 N (fuel + 1) (zI b) (zI ((s + 1 : Nat) : Int)) (mw M' 29 s (zI a')) = fX4_search_71 N fuel (zI (pl_tot (rCost M) (va_up f s a') n)) (zI (s : Int)) M3 := by
          rw [hsn, fX4_search_71_s, i0, if_neg (fun q => by have := (z_lt (by omega) (by omega) (by omega) (by omega)).mp q; omega), vv_z (mw M' 29 s (zI a')) 16 2, hv2, if_pos rfl, bd_e _ ec]
          have e00 : zI 0 = zI ((0 : Nat) : Int) := rfl
          rw [e00, c1, iN1, z_add]
          congr 2
          omega
        rw [e0]
        have htb := tot_b hM n hn4 (fun j hj => (hT2 j hj).2)
        have htot : pl_tot (rCost M) (va_up f s a') n < b := by
          have e1 : pl_tot (rCost M) (va_up f s a') n = pl_tot (rCost M) (va_up f s a') s + rCost M s (va_up f s a' s) := by rw [← hsn]; rfl
          have e2 : pl_tot (rCost M) (va_up f s a') s = pl_tot (rCost M) f s := pl_tot_c (fun i hi => va_up_ne f a' (by omega))
          have e3 : va_up f s a' s = a' := by simp [va_up]
          have e4 : Lr (s + 1) = 0 := by rw [hsn]; exact hL.1
          rw [e3] at e1
          omega
        have hG2 : Gs M n s f (a' + 1) (pl_tot (rCost M) (va_up f s a') n) (va_up f s a') := ⟨pl_leaf hsn q4.1 hok htot hG.2.2, by omega, by omega⟩
        have hS3 : Sm M n Lr M3 := ⟨fun c hc => (c2 c (by omega)).trans (hS2.1 c hc), fun t ht2 => by rw [c2 30 (by decide)]; exact hS2.2 t ht2⟩
        have hT3 : Tr M3 s f := fun j hj => by
          rw [c2 29 (by decide)]
          have := hT.w (x := zI a') (Nat.le_refl s) j hj
          exact this
        have ht3 : M3 29 s = zI (((a' + 1 : Nat) : Int) - 1) := by
          rw [c2 29 (by decide), mw_i]
          congr 1
          omega
        have hB3 : Bk n (pl_tot (rCost M) (va_up f s a') n) (va_up f s a') M3 := fun _ j hj => by
          rw [c3 j, if_pos (by omega)]
          exact (hT2 j hj).1
        have hmm : (96 - (a' + 1) + 1) * (1 + Cc 0) ≤ m * (1 + Cc 0) := Nat.mul_le_mul_right _ (by omega)
        rw [Nat.succ_mul] at hmm
        obtain ⟨fu, b2, g2, M4, z1, z2, z3, z4, z5, z6⟩ := ihm (96 - (a' + 1)) (by omega) (a' + 1) (by omega) f _ _ M3 fuel hS3 hT3 hP ht3 hG2 hB3 (by simp only [Cc] at *; omega)
        exact ⟨fu, b2, g2, M4, by simp only [Cc] at *; omega, z2, z3, z4, z5, z6⟩
  | succ k ihk =>
    intro s hs m
    induction m using Nat.strongRecOn with
    | ind m ihm =>
      intro a ha f b g M' fuel hS hT hP ht hG hB hfu
      obtain ⟨fuel, rfl⟩ : ∃ z, fuel = z + 1 := ⟨fuel - 1, by omega⟩
      have hv : vv M' 16 2 = n := by rw [hS.1.v (by decide)]; exact hn
      obtain ⟨a', q1, q2, q3, q4, q5⟩ := scan N hN hM hn4 hL hS (by omega) hT (fX4_search_71 N fuel) (b := b) (g := g) m a N ha (by omega) hG
      rw [e_71 N hN hM hn hn4 hS.1 (by omega) (by omega) hT ht, q3, e_194 N _ _ hv hn4 (by omega) q2]
      by_cases h96 : a' = 96
      · subst h96
        rw [if_pos rfl]
        exact ⟨fuel, b, g, _, by omega, rfl, hS.w, hT.w (Nat.le_refl _), q4, hB.w⟩
      · rw [if_neg h96, if_neg (by omega)]
        obtain ⟨p1, p2, p3⟩ := q5 (by omega)
        have hT2 := (hT.up (a := a') (by omega)).w (x := zI (-1)) (Nat.le_refl (s + 1))
        have hP2 := hP.up p1 p3
        have hS2 : Sm M n Lr (mw (mw M' 29 s (zI a')) 29 (s + 1) (zI (-1))) := hS.w.w
        have hB2 : Bk n b g (mw (mw M' 29 s (zI a')) 29 (s + 1) (zI (-1))) := hB.w.w
        have hG2 : Gs M n (s + 1) (va_up f s a') 0 b g := ⟨pl_G_c q4.1 (fun x _ => pl_B_in.symm), q4.2⟩
        have ht2 : mw (mw M' 29 s (zI a')) 29 (s + 1) (zI (-1)) 29 (s + 1) = zI (((0 : Nat) : Int) - 1) := by rw [mw_i]; rfl
        have hmm : (96 - (a' + 1) + 1) * (1 + Cc (k + 1)) ≤ m * (1 + Cc (k + 1)) := Nat.mul_le_mul_right _ (by omega)
        rw [Nat.succ_mul] at hmm
        have hCk : Cc (k + 1) = 96 * (1 + Cc k) + 1 := rfl
        obtain ⟨fu, b2, g2, M4, z1, z2, z3, z4, z5, z6⟩ := ihk (s + 1) (by omega) 96 0 (by omega) (va_up f s a') b g _ fuel hS2 hT2 hP2 ht2 hG2 hB2 (by omega)
        rw [z2]
        have es : (((s + 1 : Nat) : Int) - 1) = (s : Int) := by omega
        rw [es]
        have hG4 : Gs M n s f (a' + 1) b2 g2 := ⟨pl_G_c z5.1 (fun x hx => pl_B_out (by omega) hx), z5.2⟩
        have hT4 : Tr M4 s f := fun j hj => by
          have h1 := z4 j (by omega)
          rw [va_up_ne f a' (by omega)] at h1
          exact h1
        have ht4 : M4 29 s = zI (((a' + 1 : Nat) : Int) - 1) := by
          rw [(z4 s (by omega)).1]
          have : va_up f s a' s = a' := by simp [va_up]
          rw [this]
          congr 1
          omega
        obtain ⟨fu2, b3, g3, M5, y1, y2, y3, y4, y5, y6⟩ := ihm (96 - (a' + 1)) (by omega) (a' + 1) (by omega) f b2 g2 M4 fu z3 hT4 hP ht4 hG4 z6 (by omega)
        exact ⟨fu2, b3, g3, M5, by omega, y2, y3, y4, y5, y6⟩
