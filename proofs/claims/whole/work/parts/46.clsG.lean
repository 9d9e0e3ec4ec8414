/-- the turn of a ship in a plan: by the hour, then by its number -/
def trn (i a : Nat) : Nat := a / 6 * 4 + i
/-- each sooner hour at its place is taken from a ship by one whose turn is ahead -/
def Can (M : Mem) (n : Nat) (h : Nat → Nat) : Prop := ∀ i, i < n → ∀ t, t < h i / 6 → rMay M i (6 * t + h i % 6) → ∃ j, j < n ∧ trn j (h j) < trn i (h i) ∧ rMeet M i (6 * t + h i % 6) j (h j)
/-- the ships that are not left lie well -/
def Ld (M : Mem) (n left : Nat) (f : Nat → Nat) : Prop := ∀ i, i < n → left.testBit i = false → rMay M i (f i) ∧ f i < 96 ∧ ∀ j, j < n → left.testBit j = false → j ≠ i → ¬ rMeet M i (f i) j (f j)
def laS (M : Mem) (left : Nat) (f : Nat → Nat) : Nat → Int
  | 0 => 0
  | k + 1 => laS M left f k + if left.testBit k then 0 else rCost M k (f k)
theorem laS_b {M : Mem} (hM : Mw M) {left : Nat} {f : Nat → Nat} : ∀ k, k ≤ 4 → (∀ j, j < k → left.testBit j = false → f j < 96) → -1500 * (k : Int) ≤ laS M left f k ∧ laS M left f k ≤ 1500 * (k : Int)
  | 0, _, _ => by show -1500 * 0 ≤ (0 : Int) ∧ (0 : Int) ≤ 1500 * 0; omega
  | k + 1, hk, hf => by
    have h1 := laS_b hM k (by omega) (fun j hj => hf j (by omega))
    show -1500 * ((k + 1 : Nat) : Int) ≤ laS M left f k + (if left.testBit k then 0 else rCost M k (f k)) ∧ laS M left f k + (if left.testBit k then 0 else rCost M k (f k)) ≤ 1500 * ((k + 1 : Nat) : Int)
    cases hb : left.testBit k
    · have h2 := rCost_b hM (i := k) (a := f k) (by omega) (hf k (by omega) hb)
      simp only [Bool.false_eq_true, if_false]
      omega
    · simp only [if_true]
      omega
theorem laS_0 {M : Mem} {f : Nat → Nat} : ∀ k, laS M 0 f k = pl_tot (rCost M) f k
  | 0 => rfl
  | k + 1 => by
    show laS M 0 f k + (if (0 : Nat).testBit k then 0 else rCost M k (f k)) = pl_tot (rCost M) f k + rCost M k (f k)
    rw [laS_0 k, Nat.zero_testBit]; rfl
theorem laS_c {M : Mem} {left left' : Nat} {f f' : Nat → Nat} : ∀ k, (∀ j, j < k → left.testBit j = left'.testBit j ∧ f j = f' j) → laS M left f k = laS M left' f' k
  | 0, _ => rfl
  | k + 1, h => by
    show laS M left f k + (if left.testBit k then 0 else rCost M k (f k)) = laS M left' f' k + (if left'.testBit k then 0 else rCost M k (f' k))
    rw [laS_c k (fun j hj => h j (by omega)), (h k (by omega)).1, (h k (by omega)).2]
theorem laS_u {M : Mem} {left s a : Nat} {f : Nat → Nat} (hl : left < 16) (hs : left.testBit s = true) : ∀ k, s < k → laS M (drp left s) (va_up f s a) k = laS M left f k + rCost M s a
  | 0, h => by omega
  | k + 1, h => by
    show laS M (drp left s) (va_up f s a) k + (if (drp left s).testBit k then 0 else rCost M k (va_up f s a k)) = laS M left f k + (if left.testBit k then 0 else rCost M k (f k)) + rCost M s a
    rcases Nat.lt_or_ge s k with q | q
    · rw [laS_u hl hs k q, va_up_ne f a (by omega), drp_b hl, decide_eq_false (by omega : ¬ s = k)]
      simp only [Bool.not_false, Bool.and_true]
      omega
    · have : k = s := by omega
      subst this
      have e : laS M (drp left k) (va_up f k a) k = laS M left f k := laS_c k (fun j hj => ⟨by rw [drp_b hl, decide_eq_false (by omega : ¬ k = j)]; simp, va_up_ne f a (by omega)⟩)
      have e2 : va_up f k a k = a := by simp [va_up]
      rw [e, e2, drp_b hl, hs]
      simp
/-- the plans that the searcher has yet to look at -/
def Tg (M : Mem) (n left : Nat) (f : Nat → Nat) (last : Int) (h : Nat → Nat) : Prop := pl_ok n (mayB M) (clB M) h ∧ Can M n h ∧ (∀ i, i < n → left.testBit i = false → h i = f i) ∧ ∀ i, i < n → left.testBit i = true → last < (trn i (h i) : Int)
def Sq (M : Mem) (n lev left : Nat) (f : Nat → Nat) (M' : Mem) : Prop := Cs M n M' ∧ (∀ i, i < n → left.testBit i = false → M' 11 i = zI ((f i % 6 : Nat) : Int) ∧ M' 12 i = zI ((f i / 6 : Nat) : Int)) ∧ ∀ j, j < n → left.testBit j = true → Lv M M' n lev left f j
def Fr (M : Mem) (n lev left : Nat) (M' M'' : Mem) : Prop := Cs M n M'' ∧ (∀ x, x < (lev + 1) * 24 → M'' 10 x = M' 10 x) ∧ (∀ i, i < n → left.testBit i = false → M'' 11 i = M' 11 i ∧ M'' 12 i = M' 12 i) ∧ ∀ c, 14 < c → M'' c = M' c
theorem Fr.tr {M M1 M2 M3 : Mem} {n lev left : Nat} (a : Fr M n lev left M1 M2) (b : Fr M n lev left M2 M3) : Fr M n lev left M1 M3 := ⟨b.1, fun x hx => (b.2.1 x hx).trans (a.2.1 x hx), fun i hi hb => ⟨(b.2.2.1 i hi hb).1.trans (a.2.2.1 i hi hb).1, (b.2.2.1 i hi hb).2.trans (a.2.2.1 i hi hb).2⟩, fun c hc => (b.2.2.2 c hc).trans (a.2.2.2 c hc)⟩
theorem Fr.sq {M M1 M2 : Mem} {n lev left : Nat} {f : Nat → Nat} (a : Fr M n lev left M1 M2) (h6 : vv M 16 1 ≤ 6) (hn4 : n ≤ 4) (h : Sq M n lev left f M1) : Sq M n lev left f M2 := ⟨a.1, fun i hi hb => by rw [(a.2.2.1 i hi hb).1, (a.2.2.1 i hi hb).2]; exact h.2.1 i hi hb, fun j hj hb => Lv_c (h.2.2 j hj hb) (fun p hp => a.2.1 _ (by omega))⟩
theorem may_pl {M : Mem} (hR : Re M) {n i a : Nat} (hn : vv M 16 2 = n) (hn4 : n ≤ 4) (hi : i < n) (h : rMay M i a) : ((a % 6 : Nat) : Int) < vv M 16 1 := by
  rcases h with ⟨h1, h2⟩ | ⟨-, h, -⟩
  · have hx := hR.2.2.2.2.2.1 i (by omega)
    have hl := hR.2.2.2.2.2.2.2 i (by omega)
    rcases hx with ⟨_, q⟩ | ⟨q1, q2, q3, q4, q5, q6, q7⟩
    · omega
    · omega
  · exact h
theorem e_lay (N : Nat) (hN : 100 ≤ N) {M : Mem} (hR : Re M) {n : Nat} (hn4 : n ≤ 4) {lev left s t0 p0 : Nat} {f : Nat → Nat} (hlv : lev + popc left = n) (hleft : left < 16) (hs : s < n) (hsl : left.testBit s = true) (ht0 : t0 < 16) (hp0 : p0 < 6) {M' : Mem} (hS : Sq M n lev left f M') : ∃ M'', fX1_lay N (nI left) (zI s) (zI p0) (zI t0) M' = some (0, M'') ∧ Sq M n (lev + 1) (drp left s) (va_up f s (6 * t0 + p0)) M'' ∧ Fr M n lev left M' M'' ∧ M'' 9 = M' 9 ∧ M'' 13 = M' 13 ∧ M'' 14 = M' 14 := by
  have hC2 : Cs M n (mw (mw M' 11 s (zI p0)) 12 s (zI t0)) := by
    have hC := hS.1
    refine ⟨fun c hc => by rw [mw_n _ (by omega), mw_n _ (by omega)]; exact hC.1 c hc, ?_, ?_, ?_⟩ <;> (unfold vv; rw [mw_n _ (by decide), mw_n _ (by decide)])
    · exact hC.2.1
    · exact hC.2.2.1
    · exact hC.2.2.2
  obtain ⟨M'', b1, b2, b3, b4⟩ := lay_loop N hN hR hn4 (f := f) hlv hleft hs hsl ht0 hp0 n 0 N (mw (mw M' 11 s (zI p0)) 12 s (zI t0)) (by omega) (by omega) hC2 (by rw [mw_n _ (by decide), mw_i]) (by rw [mw_i]) (fun j hj hb => Lv_c (hS.2.2 j hj hb) (fun p hp => by rw [mw_n _ (by decide), mw_n _ (by decide)])) (fun j hj => by omega)
  have hne : ∀ i, left.testBit i = false → i ≠ s := fun i hb e => by rw [e, hsl] at hb; cases hb
  refine ⟨M'', ?_, ⟨hC2.n b2, fun i hi hb => ?_, b4⟩, ⟨hC2.n b2, fun x hx => by rw [b3 x hx, mw_n _ (by decide), mw_n _ (by decide)], fun i hi hb => ?_, fun c hc => by rw [b2 c (by omega), mw_n _ (by omega), mw_n _ (by omega)]⟩, by rw [b2 9 (by decide), mw_n _ (by decide), mw_n _ (by decide)], by rw [b2 13 (by decide), mw_n _ (by decide), mw_n _ (by decide)], by rw [b2 14 (by decide), mw_n _ (by decide), mw_n _ (by decide)]⟩
  · unfold fX1_lay
    have elev : fX1_levelOf N (nI left) (mw (mw M' 11 s (zI p0)) 12 s (zI t0)) = some (zI (lev : Int), mw (mw M' 11 s (zI p0)) 12 s (zI t0)) := by
      rw [e_levelOf N hC2 hleft]
      congr 3
      omega
    rw [gd_z _ (by omega) (by omega) (by omega), lq_e, gd_z _ (by omega) (by omega) (by omega), lq_e, n_cl (by omega), bd_e _ elev]
    exact b1
  · rw [b2 11 (by decide), b2 12 (by decide), mw_n _ (show (11 : Nat) ≠ 12 by decide)]
    by_cases his : i = s
    · subst his
      have e : va_up f i (6 * t0 + p0) i = 6 * t0 + p0 := by simp [va_up]
      rw [e, mw_i, mw_i]
      refine ⟨?_, ?_⟩ <;> (congr 1; omega)
    · rw [va_up_ne f _ his, mw_o _ _ (by omega), mw_o _ _ (by omega), mw_n _ (show (12 : Nat) ≠ 11 by decide)]
      refine hS.2.1 i hi ?_
      rw [drp_b hleft, decide_eq_false (fun e => his e.symm)] at hb
      simpa using hb
  · have := hne i hb
    rw [b2 11 (by decide), b2 12 (by decide), mw_n _ (show (11 : Nat) ≠ 12 by decide), mw_o _ _ (by omega), mw_o _ _ (by omega), mw_n _ (show (12 : Nat) ≠ 11 by decide)]
    exact ⟨rfl, rfl⟩
