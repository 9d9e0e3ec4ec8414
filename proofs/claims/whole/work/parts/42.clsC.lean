theorem e_index (N : Nat) (a b c : Int) (M : Mem) : fX1_index N (zI a) (zI b) (zI c) M = some (zI ((a * 4 + b) * 6 + c), M) := by
  unfold fX1_index
  have e4 : (4 : Int32) = zI 4 := by decide
  rw [e4, i6, z_mul, z_add, z_mul, z_add]
def popc (n : Nat) : Nat := ((List.range 4).filter (fun k => n.testBit k)).length
theorem popc_le : ∀ n, n < 16 → popc n ≤ 4 := by decide
/-- the planner's memory while it searches: all else is as it was -/
def Cs (M : Mem) (n : Nat) (M' : Mem) : Prop := (∀ c, c < 9 → M' c = M c) ∧ vv M' 9 5 = 1 ∧ vv M' 9 6 = n ∧ vv M' 9 7 = vv M 16 1
theorem Cs.v {M : Mem} {n : Nat} {M' : Mem} (h : Cs M n M') {c k : Nat} (hc : c < 9) : vv M' c k = vv M c k := by unfold vv; rw [h.1 c hc]
theorem e_levelOf (N : Nat) {M : Mem} {n : Nat} {M' : Mem} (h : Cs M n M') {left : Nat} (hl : left < 16) : fX1_levelOf N (nI left) M' = some (zI ((n : Int) - popc left), M') := by
  unfold fX1_levelOf
  rw [bd_e _ (e_bc16 N M' hl), vv_z M' 9 6, h.2.2.1, ← z_n, z_sub]
  rfl
theorem e_lateness (N : Nat) {M : Mem} (hR : Re M) {n : Nat} {M' : Mem} (h : Cs M n M') {i : Nat} (hi : i < 4) (t : Nat) (p : Nat) (hp : p < 6) : fX2_latenessIf N (5 + i) (zI t) M' = some (zI (rCost M i (6 * t + p)), M') := by
  unfold fX2_latenessIf
  have hf := hR.2.2.2.2.1 i hi
  rw [vv_z M' (5 + i) 4, vv_z M' (5 + i) 3, h.v (by omega), h.v (by omega), hf.2.2.2.1, hf.2.2.2.2.1, z_sub, z_mul]
  unfold rCost
  have : (6 * t + p) / 6 = t := by omega
  rw [this]
/-- the hours of ship i at place p that are open in the level's row -/
def opn (M' : Mem) (lev i p h : Nat) : Prop := (vv M' 10 ((lev * 4 + i) * 6 + p)).toNat.testBit h = true
/-- the level's rows hold masks -/
def Rw (M : Mem) (M' : Mem) (n lev left : Nat) : Prop := ∀ i, i < n → left.testBit i = true → ∀ p : Nat, (p : Int) < vv M 16 1 → 0 ≤ vv M' 10 ((lev * 4 + i) * 6 + p) ∧ vv M' 10 ((lev * 4 + i) * 6 + p) < 65536
theorem least_in (N : Nat) {M : Mem} (hR : Re M) {n : Nat} (hn4 : n ≤ 4) {M' : Mem} (hC : Cs M n M') {lev left i : Nat} (hlev : lev ≤ 3) (hi : i < n) (hbit : left.testBit i = true) (hW : Rw M M' n lev left) (k11 : Int32 → Int32 → Int32 → Int32 → Mem → Option (Int32 × Mem)) (x1 : Int32) (z : Int) : ∀ (m k n1 x : Nat), (k : Int) + m = vv M 16 1 → m < n1 → x < 65536 → ∃ y : Nat, y < 65536 ∧ (∀ h, y.testBit h = true ↔ x.testBit h = true ∨ ∃ p : Nat, k ≤ p ∧ (p : Int) < vv M 16 1 ∧ opn M' lev i p h) ∧ fX1_leastOf_35 N k11 n1 x1 (zI lev) (zI z) (zI i) (nI x) (zI k) M' = (if nI y = 0 then some (1000000, M') else gp (¬ M' 9 5 = 0) (gd (zI i) 4 (bd (fX1_firstOf N (nI y) M') (fun r5 M6 => bd (fX2_latenessIf N (5 + (zI (i : Int)).toNatClampNeg) r5 M6) (fun r7 M8 => lq (zI z + r7) (fun z9 => lq (zI (i : Int) + 1) (fun z10 => k11 x1 (zI lev) z9 z10 M8))))))) := by
  have hL := hR.1.1
  have h97 := hC.2.2.2
  intro m
  induction m with
  | zero =>
    intro k n1 x hk hn1 hx
    obtain ⟨n1, rfl⟩ : ∃ q, n1 = q + 1 := ⟨n1 - 1, by omega⟩
    refine ⟨x, hx, fun h => ⟨Or.inl, fun q => ?_⟩, ?_⟩
    · rcases q with q | ⟨p, a, b, _⟩
      · exact q
      · omega
    · rw [fX1_leastOf_35_s, vv_z M' 9 7, h97, if_pos ((z_le (by omega) (by omega) (by omega) (by omega)).mpr (by omega))]
  | succ m ih =>
    intro k n1 x hk hn1 hx
    obtain ⟨n1, rfl⟩ : ∃ q, n1 = q + 1 := ⟨n1 - 1, by omega⟩
    have hr := hW i hi hbit k (by omega)
    have ecl : (zI (((lev : Int) * 4 + i) * 6 + k)).toNatClampNeg = (lev * 4 + i) * 6 + k := by
      rw [z_cl (by omega) (by omega)]; omega
    have hx2 : x ||| (vv M' 10 ((lev * 4 + i) * 6 + k)).toNat < 65536 := Nat.or_lt_two_pow (n := 16) hx (by omega)
    obtain ⟨y, y1, y2, y3⟩ := ih (k + 1) n1 _ (by omega) (by omega) hx2
    refine ⟨y, y1, fun h => ?_, ?_⟩
    · rw [y2 h, Nat.testBit_or, Bool.or_eq_true]
      constructor
      · rintro ((q | q) | ⟨p, a, b, d⟩)
        · exact Or.inl q
        · exact Or.inr ⟨k, Nat.le_refl _, by omega, q⟩
        · exact Or.inr ⟨p, by omega, b, d⟩
      · rintro (q | ⟨p, a, b, d⟩)
        · exact Or.inl (Or.inl q)
        · rcases Nat.lt_or_ge k p with q | q
          · exact Or.inr ⟨p, q, b, d⟩
          · rw [show p = k by omega] at d; exact Or.inl (Or.inr d)
    · rw [fX1_leastOf_35_s, vv_z M' 9 7, h97, if_neg (fun q => by have := (z_le (by omega) (by omega) (by omega) (by omega)).mp q; omega), bd_e _ (e_index N _ _ _ M'), gd_z _ (by omega) (by omega) (by omega), ecl, vv_n (M := M') (c := 10) (k := (lev * 4 + i) * 6 + k) hr.1, n_or, lq_e, lq_e, z_1]
      exact y3
/-- the least cost of a ship of the open berths -/
def mnC (M M' : Mem) (lev i : Nat) (c : Int) : Prop := (∃ p h : Nat, (p : Int) < vv M 16 1 ∧ h < 16 ∧ opn M' lev i p h ∧ rCost M i (6 * h + p) = c) ∧ ∀ p h : Nat, (p : Int) < vv M 16 1 → h < 16 → opn M' lev i p h → c ≤ rCost M i (6 * h + p)
def sumC (left : Nat) (c : Nat → Int) : Nat → Int
  | 0 => 0
  | k + 1 => sumC left c k + if left.testBit k then c k else 0
theorem cost_mono {M : Mem} (hM : Mw M) {i h h' p p' : Nat} (hi : i < 4) (hp : p < 6) (hp' : p' < 6) (hh : h ≤ h') : rCost M i (6 * h + p) ≤ rCost M i (6 * h' + p') := by
  have hs := hM.2.2.2.2.2 i hi
  unfold rCost
  have e1 : (6 * h + p) / 6 = h := by omega
  have e2 : (6 * h' + p') / 6 = h' := by omega
  rw [e1, e2]
  exact Int.mul_le_mul_of_nonneg_left (by omega) (by omega)
theorem least_out (N : Nat) (hN : 100 ≤ N) {M : Mem} (hR : Re M) {n : Nat} (hn4 : n ≤ 4) {M' : Mem} (hC : Cs M n M') {lev left : Nat} (hlev : lev ≤ 3) (hleft : left < 16) (hW : Rw M M' n lev left) : ∀ (m i n1 : Nat) (c : Nat → Int), i + m = n → m < n1 → (∀ j, j < i → left.testBit j = true → mnC M M' lev j (c j)) → -1500 * (i : Int) ≤ sumC left c i → sumC left c i ≤ 1500 * (i : Int) →
    (fX1_leastOf_11 N n1 (nI left) (zI lev) (zI (sumC left c i)) (zI i) M' = some (1000000, M') ∧ ∃ j, j < n ∧ left.testBit j = true ∧ ∀ p h : Nat, (p : Int) < vv M 16 1 → h < 16 → ¬ opn M' lev j p h) ∨ (∃ c' : Nat → Int, fX1_leastOf_11 N n1 (nI left) (zI lev) (zI (sumC left c i)) (zI i) M' = some (zI (sumC left c' n), M') ∧ (∀ j, j < n → left.testBit j = true → mnC M M' lev j (c' j)) ∧ -1500 * (n : Int) ≤ sumC left c' n ∧ sumC left c' n ≤ 1500 * (n : Int)) := by
  have hL := hR.1.1
  intro m
  induction m with
  | zero =>
    intro i n1 c hi hn1 hc b1 b2
    obtain ⟨n1, rfl⟩ : ∃ q, n1 = q + 1 := ⟨n1 - 1, by omega⟩
    have : i = n := by omega
    subst this
    refine Or.inr ⟨c, ?_, hc, b1, b2⟩
    rw [fX1_leastOf_11_s, vv_z M' 9 6, hC.2.2.1, if_pos ((z_le (by omega) (by omega) (by omega) (by omega)).mpr (by omega))]
  | succ m ih =>
    intro i n1 c hi hn1 hc b1 b2
    obtain ⟨n1, rfl⟩ : ∃ q, n1 = q + 1 := ⟨n1 - 1, by omega⟩
    have hiN : zI (i : Int) = nI i := z_n i
    have hb : fX3_hasBit N (nI left) (zI (i : Int)) M' = some (if left.testBit i then 1 else 0, M') := by rw [hiN]; exact e_hasBit N (by omega) (by omega) M'
    rw [fX1_leastOf_11_s, vv_z M' 9 6, hC.2.2.1, if_neg (fun q => by have := (z_le (by omega) (by omega) (by omega) (by omega)).mp q; omega), bd_e _ hb]
    cases hbit : left.testBit i
    · rw [if_pos (by decide), lq_e, z_1]
      have es : sumC left c (i + 1) = sumC left c i := by
        show sumC left c i + (if left.testBit i then c i else 0) = _
        rw [hbit]; simp
      have := ih (i + 1) n1 c (by omega) (by omega) (fun j hj hjb => by
        rcases Nat.lt_or_ge j i with q | q
        · exact hc j q hjb
        · rw [show j = i by omega, hbit] at hjb; cases hjb) (by rw [es]; omega) (by rw [es]; omega)
      rw [es] at this
      exact this
    · rw [if_neg (by decide)]
      obtain ⟨y, y1, y2, y3⟩ := least_in N hR hn4 hC hlev (by omega) hbit hW (fX1_leastOf_11 N n1) (nI left) (sumC left c i) (vv M 16 1).toNat 0 N 0 (by omega) (by omega) (by decide)
      have e00 : fX1_leastOf_35 N (fX1_leastOf_11 N n1) N (nI left) (zI lev) (zI (sumC left c i)) (zI i) 0 0 M' = fX1_leastOf_35 N (fX1_leastOf_11 N n1) N (nI left) (zI lev) (zI (sumC left c i)) (zI i) (nI 0) (zI ((0 : Nat) : Int)) M' := rfl
      rw [e00, y3]
      by_cases hy : y = 0
      · rw [if_pos (by rw [hy]; decide)]
        refine Or.inl ⟨rfl, i, by omega, hbit, fun p h hp hh ho => ?_⟩
        have := (y2 h).mpr (Or.inr ⟨p, by omega, hp, ho⟩)
        rw [hy, Nat.zero_testBit] at this
        cases this
      · have e0 : (0 : Int32) = nI 0 := by decide
        rw [if_neg (fun q => hy (by rw [e0] at q; exact (n_eq (by omega) (by omega)).mp q))]
        obtain ⟨t, t1, t2, t3⟩ := b_least y1 hy
        have hsome : ∃ p : Nat, (p : Int) < vv M 16 1 ∧ opn M' lev i p t := by
          rcases (y2 t).mp t2 with q | ⟨p, _, q1, q2⟩
          · rw [Nat.zero_testBit] at q; cases q
          · exact ⟨p, q1, q2⟩
        obtain ⟨p, p1, p2⟩ := hsome
        have h95 : ¬ M' 9 5 = 0 := by
          rw [vv_z M' 9 5, hC.2.1]; decide
        have el : fX2_latenessIf N (5 + (zI (i : Int)).toNatClampNeg) (nI t) M' = some (zI (rCost M i (6 * t + p)), M') := by
          rw [n_cl (by omega), ← z_n]
          exact e_lateness N hR hC (by omega) t p (by omega)
        rw [gp_t _ h95, gd_z _ (by omega) (by omega) (by omega), bd_e _ (e_firstOf N M' y1 t1 t2 t3), bd_e _ el, lq_e, lq_e, z_add, z_1]
        have hcb := rCost_b hR.1 (i := i) (a := 6 * t + p) (by omega) (by omega)
        have hmn : mnC M M' lev i (rCost M i (6 * t + p)) := ⟨⟨p, t, p1, t1, p2, rfl⟩, fun p' h' q1 q2 q3 => by
          refine cost_mono hR.1 (by omega) (by omega) (by omega) ?_
          rcases Nat.lt_or_ge h' t with z | z
          · have := (y2 h').mpr (Or.inr ⟨p', by omega, q1, q3⟩)
            rw [t3 h' z] at this; cases this
          · exact z⟩
        have hup : ∀ j, j ≠ i → va_up c i (rCost M i (6 * t + p)) j = c j := fun j hj => va_up_ne c _ hj
        have hus : va_up c i (rCost M i (6 * t + p)) i = rCost M i (6 * t + p) := by simp [va_up]
        have hsum : ∀ k, k ≤ i → sumC left (va_up c i (rCost M i (6 * t + p))) k = sumC left c k := by
          intro k
          induction k with
          | zero => intro _; rfl
          | succ k ihk =>
            intro hk
            show sumC left _ k + (if left.testBit k then va_up c i _ k else 0) = sumC left c k + (if left.testBit k then c k else 0)
            rw [ihk (by omega), hup k (by omega)]
        have es : sumC left (va_up c i (rCost M i (6 * t + p))) (i + 1) = sumC left c i + rCost M i (6 * t + p) := by
          show sumC left _ i + (if left.testBit i then va_up c i _ i else 0) = _
          rw [hsum i (Nat.le_refl _), hbit, hus]; simp
        have := ih (i + 1) n1 (va_up c i (rCost M i (6 * t + p))) (by omega) (by omega) (fun j hj hjb => by
          rcases Nat.lt_or_ge j i with q | q
          · rw [hup j (by omega)]; exact hc j q hjb
          · rw [show j = i by omega, hus]; exact hmn) (by rw [es]; omega) (by rw [es]; omega)
        rw [es] at this
        exact this
