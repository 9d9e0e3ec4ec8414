theorem ok_nm {M : Mem} {n : Nat} {h : Nat → Nat} (hok : pl_ok n (mayB M) (clB M) h) {i j : Nat} (hi : i < n) (hj : j < n) (hne : i ≠ j) : ¬ rMeet M i (h i) j (h j) := by
  rcases Nat.lt_or_gt_of_ne hne with q | q
  · exact clB_f.mp ((hok j hj).2.2 i q)
  · intro m
    exact clB_f.mp ((hok i hi).2.2 j q) (rMeet_sym.mp m)
theorem tot_split {M : Mem} {left : Nat} {h : Nat → Nat} : ∀ k, pl_tot (rCost M) h k = laS M left h k + sumC left (fun j => rCost M j (h j)) k
  | 0 => rfl
  | k + 1 => by
    show pl_tot (rCost M) h k + rCost M k (h k) = laS M left h k + (if left.testBit k then 0 else rCost M k (h k)) + (sumC left (fun j => rCost M j (h j)) k + if left.testBit k then rCost M k (h k) else 0)
    rw [tot_split (left := left) k]
    cases left.testBit k
    · simp only [Bool.false_eq_true, if_false]; omega
    · simp only [if_true]; omega
theorem sumC_le {left : Nat} {c c' : Nat → Int} : ∀ k, (∀ j, j < k → left.testBit j = true → c j ≤ c' j) → sumC left c k ≤ sumC left c' k
  | 0, _ => Int.le_refl _
  | k + 1, h => by
    show sumC left c k + (if left.testBit k then c k else 0) ≤ sumC left c' k + (if left.testBit k then c' k else 0)
    have h1 := sumC_le k (fun j hj hb => h j (by omega) hb)
    cases hb : left.testBit k
    · simp only [Bool.false_eq_true, if_false]; omega
    · have := h k (by omega) hb
      simp only [if_true]; omega
theorem laS_a {M : Mem} {left : Nat} {f f' : Nat → Nat} : ∀ k, (∀ j, j < k → left.testBit j = false → f j = f' j) → laS M left f k = laS M left f' k
  | 0, _ => rfl
  | k + 1, h => by
    show laS M left f k + (if left.testBit k then 0 else rCost M k (f k)) = laS M left f' k + (if left.testBit k then 0 else rCost M k (f' k))
    rw [laS_a k (fun j hj => h j (by omega))]
    cases hb : left.testBit k
    · rw [h k (by omega) hb]
    · rfl
theorem tg_opn {M M' : Mem} (hR : Re M) {n lev left : Nat} (hn : vv M 16 2 = n) (hn4 : n ≤ 4) {f h : Nat → Nat} (hok : pl_ok n (mayB M) (clB M) h) (hag : ∀ i, i < n → left.testBit i = false → h i = f i) {j : Nat} (hj : j < n) (hb : left.testBit j = true) (hL : Lv M M' n lev left f j) : ((h j % 6 : Nat) : Int) < vv M 16 1 ∧ opn M' lev j (h j % 6) (h j / 6) := by
  have hm := mayB_t.mp (hok j hj).2.1
  have hp := may_pl hR hn hn4 hj hm
  have h96 := (hok j hj).1
  refine ⟨hp, ((hL (h j % 6) hp).2 (h j / 6) (by omega)).mpr ?_⟩
  have e : 6 * (h j / 6) + h j % 6 = h j := by omega
  rw [e]
  refine ⟨hm, fun k hk hkb => ?_⟩
  rw [← hag k hk hkb]
  exact ok_nm hok hj hk (fun q => by rw [q, hkb] at hb; cases hb)
theorem tg_first {M M' : Mem} (hR : Re M) {n lev left : Nat} (hn : vv M 16 2 = n) (hn4 : n ≤ 4) {f h : Nat → Nat} {last : Int} (hT : Tg M n left f last h) {i : Nat} (hi : i < n) (hb : left.testBit i = true) (hL : Lv M M' n lev left f i) (hmin : ∀ j, j < n → left.testBit j = true → trn i (h i) ≤ trn j (h j)) {t : Nat} (ht : t < 16) (h1 : opn M' lev i (h i % 6) t) (h2 : ∀ t', t' < t → ¬ opn M' lev i (h i % 6) t') : h i = 6 * t + h i % 6 := by
  obtain ⟨hok, hcan, hag, -⟩ := hT
  obtain ⟨a1, a2⟩ := tg_opn hR hn hn4 hok hag hi hb hL
  have hle : t ≤ h i / 6 := by
    rcases Nat.lt_or_ge (h i / 6) t with q | q
    · exact absurd a2 (h2 _ q)
    · exact q
  rcases Nat.lt_or_ge t (h i / 6) with q | q
  · obtain ⟨m1, m2⟩ := ((hL (h i % 6) a1).2 t ht).mp h1
    obtain ⟨j, j1, j2, j3⟩ := hcan i hi t q m1
    cases hbj : left.testBit j
    · rw [hag j j1 hbj] at j3
      exact absurd j3 (m2 j j1 hbj)
    · have := hmin j j1 hbj
      omega
  · omega
/-- how a piece of the search ends: some plans are covered, and what was covered stays so -/
def Go (M : Mem) (n lev left : Nat) (f : Nat → Nat) (last : Int) (b : Int) (g : Nat → Nat) (M' : Mem) (E : (Nat → Nat) → Prop) (M'' : Mem) : Prop := Fr M n lev left M' M'' ∧ ∃ (b' : Int) (g' : Nat → Nat), St M M'' n b' g' ∧ (∀ h, Cv M n b g h → Cv M n b' g' h) ∧ ∀ h, Tg M n left f last h → E h → Cv M n b' g' h
def Kr (M : Mem) (n lev : Nat) (kR : Int32 → Int32 → Int32 → Mem → Option (Int32 × Mem)) : Prop := ∀ (left : Nat) (f : Nat → Nat) (last b : Int) (g : Nat → Nat) (M' : Mem), left < 16 → (∀ i, left.testBit i = true → i < n) → lev + popc left = n → Ld M n left f → Sq M n lev left f M' → St M M' n b g → (left = 0 → laS M left f n ≤ b) → -1 ≤ last → last ≤ 100 → ∃ M'', kR (nI left) (zI (laS M left f n)) (zI last) M' = some (0, M'') ∧ Go M n lev left f last b g M' (fun _ => True) M''
set_option maxHeartbeats 4000000 in
theorem e_try (N : Nat) (hN : 100 ≤ N) {M : Mem} (hR : Re M) {n : Nat} (hn : vv M 16 2 = n) (hn4 : n ≤ 4) {lev left : Nat} {f g : Nat → Nat} {last b : Int} {kR : Int32 → Int32 → Int32 → Mem → Option (Int32 × Mem)} (hK : Kr M n (lev + 1) kR) (hleft : left < 16) (hln : ∀ i, left.testBit i = true → i < n) (hlv : lev + popc left = n) (hLd : Ld M n left f) {M' : Mem} (hS : Sq M n lev left f M') (hst : St M M' n b g) (hl1 : -1 ≤ last) (hl2 : last ≤ 100) {i p : Nat} (hi : i < n) (hb : left.testBit i = true) (hp : (p : Int) < vv M 16 1) : ∃ M'', fX1_tryBerth N kR (nI left) (zI i) (zI p) (zI (laS M left f n)) (zI last) M' = some (0, M'') ∧ Go M n lev left f last b g M' (fun h => h i % 6 = p ∧ ∀ j, j < n → left.testBit j = true → trn i (h i) ≤ trn j (h j)) M'' := by
  have h6 := hR.1.1
  have hpc := drp_p left hleft i (by omega) hb
  have hLi := hS.2.2 i hi hb
  have hrow := (hLi p hp).1
  have hlb := laS_b hR.1 (left := left) (f := f) n hn4 (fun j hj hjb => (hLd j hj hjb).2.1)
  have hbb : -6000 ≤ b ∧ b ≤ 100000 := by rcases hst.2 with q | ⟨q1, q2, -⟩ <;> omega
  have elev : fX1_levelOf N (nI left) M' = some (zI (lev : Int), M') := by
    rw [e_levelOf N hS.1 hleft]
    congr 3
    omega
  have ecl : (zI (((lev : Int) * 4 + i) * 6 + p)).toNatClampNeg = (lev * 4 + i) * 6 + p := by
    rw [z_cl (by omega) (by omega)]; omega
  have frf : Fr M n lev left M' M' := ⟨hS.1, fun _ _ => rfl, fun _ _ _ => ⟨rfl, rfl⟩, fun _ _ => rfl⟩
  unfold fX1_tryBerth
  rw [bd_e _ elev, bd_e _ (e_index N _ _ _ M'), gd_z _ (by omega) (by omega) (by omega), lq_e, ecl, vv_n (M := M') (c := 10) (k := (lev * 4 + i) * 6 + p) hrow.1]
  have hx16 : (vv M' 10 ((lev * 4 + i) * 6 + p)).toNat < 65536 := by omega
  have hopn : ∀ h, opn M' lev i p h ↔ (vv M' 10 ((lev * 4 + i) * 6 + p)).toNat.testBit h = true := fun h => Iff.rfl
  generalize (vv M' 10 ((lev * 4 + i) * 6 + p)).toNat = x at hx16 hopn
  by_cases hx0 : x = 0
  · rw [if_pos (by rw [hx0]; decide)]
    refine ⟨M', rfl, frf, b, g, hst, fun h hh => hh, fun h hT hE => ?_⟩
    have := (tg_opn hR hn hn4 hT.1 hT.2.2.1 hi hb hLi).2
    rw [hE.1, hopn, hx0, Nat.zero_testBit] at this
    cases this
  · have e0 : (0 : Int32) = nI 0 := by decide
    rw [if_neg (fun q => hx0 (by rw [e0] at q; exact (n_eq (by omega) (by omega)).mp q))]
    obtain ⟨t, t1, t2, t3⟩ := b_least hx16 hx0
    have ho1 : opn M' lev i p t := (hopn t).mpr t2
    have ho2 : ∀ t', t' < t → ¬ opn M' lev i p t' := fun t' ht' q => by
      have := (hopn t').mp q
      rw [t3 t' ht'] at this
      cases this
    have e4 : (4 : Int32) = zI 4 := by decide
    rw [bd_e _ (e_firstOf N M' hx16 t1 t2 t3), ← z_n, e4, z_mul, z_add, lq_e]
    have hat : ∀ h, Tg M n left f last h → (h i % 6 = p ∧ ∀ j, j < n → left.testBit j = true → trn i (h i) ≤ trn j (h j)) → h i = 6 * t + p := fun h hT hE => by
      have := tg_first hR hn hn4 hT hi hb hLi hE.2 t1 (by rw [hE.1]; exact ho1) (by rw [hE.1]; exact ho2)
      rw [hE.1] at this
      exact this
    by_cases hlast : last < (t : Int) * 4 + i
    · rw [if_pos ((z_lt (by omega) (by omega) (by omega) (by omega)).mpr hlast)]
      obtain ⟨M1, c1, c2, c3, c4, c5, c6⟩ := e_lay N hN hR hn4 (f := f) hlv hleft hi hb t1 (p0 := p) (by omega) hS
      have hst1 : St M M1 n b g := hst.c (by rw [c4]) c5 c6
      have h95 : ¬ M1 9 5 = 0 := by rw [vv_z M1 9 5, c2.1.2.1]; decide
      have ea : va_up f i (6 * t + p) i = 6 * t + p := by simp [va_up]
      have hrest : nI left &&& ((1 : Int32) <<< (zI (i : Int) &&& 31) ^^^ -1) = nI (drp left i) := by rw [z_n]; exact drp_e hleft (by omega)
      have elate : fX2_latenessIf N (5 + i) (zI t) M1 = some (zI (rCost M i (6 * t + p)), M1) := e_lateness N hR c2.1 (by omega) t p (by omega)
      have hla : laS M left f n + rCost M i (6 * t + p) = laS M (drp left i) (va_up f i (6 * t + p)) n := (laS_u hleft hb n hi).symm
      rw [bd_e _ c1, lq_e, gp_t _ h95, gd_z _ (by omega) (by omega) (by omega), n_cl (by omega), bd_e _ elate, lq_e, hrest, z_add, hla]
      have hmay : rMay M i (6 * t + p) ∧ ∀ j, j < n → left.testBit j = false → ¬ rMeet M i (6 * t + p) j (f j) := ((hLi p hp).2 t t1).mp ho1
      have hLd2 : Ld M n (drp left i) (va_up f i (6 * t + p)) := fun k hk hkb => by
        by_cases hki : k = i
        · subst hki
          rw [ea]
          refine ⟨hmay.1, by omega, fun j hj hjb hne => ?_⟩
          rw [va_up_ne f _ hne]
          refine hmay.2 j hj ?_
          rw [drp_b hleft, decide_eq_false (fun e => hne e.symm)] at hjb
          simpa using hjb
        · have hkl : left.testBit k = false := by
            rw [drp_b hleft, decide_eq_false (fun e => hki e.symm)] at hkb
            simpa using hkb
          rw [va_up_ne f _ hki]
          refine ⟨(hLd k hk hkl).1, (hLd k hk hkl).2.1, fun j hj hjb hne => ?_⟩
          by_cases hji : j = i
          · subst hji
            rw [ea]
            exact fun q => hmay.2 k hk hkl (rMeet_sym.mp q)
          · rw [va_up_ne f _ hji]
            refine (hLd k hk hkl).2.2 j hj ?_ hne
            rw [drp_b hleft, decide_eq_false (fun e => hji e.symm)] at hjb
            simpa using hjb
      have hlb2 := laS_b hR.1 (left := drp left i) (f := va_up f i (6 * t + p)) n hn4 (fun j hj hjb => (hLd2 j hj hjb).2.1)
      have hTg2 : ∀ h, Tg M n left f last h → (h i % 6 = p ∧ ∀ j, j < n → left.testBit j = true → trn i (h i) ≤ trn j (h j)) → Tg M n (drp left i) (va_up f i (6 * t + p)) ((t : Int) * 4 + i) h := fun h hT hE => by
        have hhi := hat h hT hE
        refine ⟨hT.1, hT.2.1, fun k hk hkb => ?_, fun k hk hkb => ?_⟩
        · by_cases hki : k = i
          · subst hki
            rw [ea, hhi]
          · rw [va_up_ne f _ hki]
            refine hT.2.2.1 k hk ?_
            rw [drp_b hleft, decide_eq_false (fun e => hki e.symm)] at hkb
            simpa using hkb
        · rw [drp_b hleft] at hkb
          have hki : k ≠ i := fun e => by rw [e] at hkb; simp at hkb
          have hkl : left.testBit k = true := by
            cases hq : left.testBit k
            · rw [hq] at hkb; simp at hkb
            · rfl
          have := hE.2 k hk hkl
          unfold trn at this ⊢
          rw [hhi] at this
          have e6 : (6 * t + p) / 6 = t := by omega
          rw [e6] at this
          omega
      have hW : drp left i ≠ 0 → Rw M M1 n (lev + 1) (drp left i) := fun _ k hk hkb q hq => (c2.2.2 k hk hkb q hq).1
      rcases e_leastC N hN hR hn4 c2.1 (lev := lev + 1) (left := drp left i) (by omega) (drp_lt hleft) hW with ⟨d1, j, d2, d3, d4⟩ | ⟨c', d1, d2, d3, d4⟩
      · rw [bd_e _ d1, hst1.1, z_add, if_pos ((z_lt (by omega) (by omega) (by omega) (by omega)).mpr (by omega))]
        refine ⟨M1, rfl, c3, b, g, hst1, fun h hh => hh, fun h hT hE => ?_⟩
        have hT2 := hTg2 h hT hE
        obtain ⟨q1, q2⟩ := tg_opn hR hn hn4 hT2.1 hT2.2.2.1 d2 d3 (c2.2.2 j d2 d3)
        exact absurd q2 (d4 _ _ q1 (by have := (hT.1 j d2).1; omega))
      · rw [bd_e _ d1, hst1.1, z_add]
        by_cases hprune : b < laS M (drp left i) (va_up f i (6 * t + p)) n + sumC (drp left i) c' n
        · rw [if_pos ((z_lt (by omega) (by omega) (by omega) (by omega)).mpr hprune)]
          refine ⟨M1, rfl, c3, b, g, hst1, fun h hh => hh, fun h hT hE => ?_⟩
          have hT2 := hTg2 h hT hE
          have e1 : laS M (drp left i) h n = laS M (drp left i) (va_up f i (6 * t + p)) n := laS_a n (fun k hk hkb => hT2.2.2.1 k hk hkb)
          have e2 : sumC (drp left i) c' n ≤ sumC (drp left i) (fun j => rCost M j (h j)) n := sumC_le n (fun k hk hkb => by
            obtain ⟨q1, q2⟩ := tg_opn hR hn hn4 hT2.1 hT2.2.2.1 hk hkb (c2.2.2 k hk hkb)
            have := (d2 k hk hkb).2 _ _ q1 (by have := (hT.1 k hk).1; omega) q2
            have e : 6 * (h k / 6) + h k % 6 = h k := by omega
            rw [e] at this
            exact this)
          have e3 := tot_split (M := M) (left := drp left i) (h := h) n
          have e4 := tot_b hR.1 n hn4 (fun j hj => (hT.1 j hj).1)
          exact ⟨by omega, Or.inl (by omega)⟩
        · rw [if_neg (fun q => hprune ((z_lt (by omega) (by omega) (by omega) (by omega)).mp q))]
          have h0 : drp left i = 0 → laS M (drp left i) (va_up f i (6 * t + p)) n ≤ b := fun e => by
            rw [e, sumC_0] at hprune
            rw [e]; omega
          obtain ⟨M2, k1, k2, b', g', k3, k4, k5⟩ := hK (drp left i) (va_up f i (6 * t + p)) ((t : Int) * 4 + i) b g M1 (drp_lt hleft) (fun k hk => hln k (by
            rw [drp_b hleft] at hk
            cases hq : left.testBit k
            · rw [hq] at hk; simp at hk
            · rfl)) (by omega) hLd2 c2 hst1 h0 (by omega) (by omega)
          rw [bd_e _ k1]
          refine ⟨M2, rfl, ⟨k2.1, fun y hy => (k2.2.1 y (Nat.lt_of_lt_of_le hy (Nat.mul_le_mul_right 24 (Nat.le_succ _)))).trans (c3.2.1 y hy), fun k hk hkb => ?_, fun c hc => (k2.2.2.2 c hc).trans (c3.2.2.2 c hc)⟩, b', g', k3, k4, fun h hT hE => k5 h (hTg2 h hT hE) trivial⟩
          have := k2.2.2.1 k hk (by rw [drp_b hleft, hkb]; rfl)
          rw [this.1, this.2]
          exact c3.2.2.1 k hk hkb
    · rw [if_neg (fun q => hlast ((z_lt (by omega) (by omega) (by omega) (by omega)).mp q))]
      refine ⟨M', rfl, frf, b, g, hst, fun h hh => hh, fun h hT hE => ?_⟩
      have hhi := hat h hT hE
      have := hT.2.2.2 i hi hb
      unfold trn at this
      rw [hhi] at this
      have e6 : (6 * t + p) / 6 = t := by omega
      rw [e6] at this
      omega
