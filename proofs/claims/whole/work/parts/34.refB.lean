theorem n_and (a b : Nat) : nI a &&& nI b = nI (a &&& b) := nI_inj (by rw [Int32.toBitVec_and, nI_bv, nI_bv, nI_bv, BitVec.ofNat_and])
theorem n_or (a b : Nat) : nI a ||| nI b = nI (a ||| b) := nI_inj (by rw [Int32.toBitVec_or, nI_bv, nI_bv, nI_bv, BitVec.ofNat_or])
theorem vv_n {M : Mem} {c k : Nat} (h0 : 0 ≤ vv M c k) : M c k = nI (vv M c k).toNat := by
  rw [vv_z M c k, ← z_n]
  congr 1
  omega
theorem z_div {a : Nat} (h : a < 1000) : zI (a : Int) / 6 = zI ((a / 6 : Nat) : Int) := by
  have e6 : (6 : Int32) = nI 6 := by decide
  rw [z_n, z_n, e6, pk_div (by omega) (by omega) (by omega)]
theorem z_rem {a : Nat} (h : a < 1000) : zI (a : Int) - zI (a : Int) / 6 * 6 = zI ((a % 6 : Nat) : Int) := by
  have e6 : (6 : Int32) = nI 6 := by decide
  rw [z_n, z_n, e6, pk_rem (by omega) (by omega) (by omega)]
theorem z_1 (k : Nat) : zI (k : Int) + 1 = zI ((k + 1 : Nat) : Int) := by rw [i1, z_add]; rfl
/-- all the gear of m places from k on -/
def orG (M : Mem) (c : Nat) : Nat → Nat → Nat
  | _, 0 => 0
  | k, m + 1 => (vv M c k).toNat ||| orG M c (k + 1) m
theorem orG_lt {M : Mem} {c : Nat} (h : ∀ j, j < 6 → 0 ≤ vv M c j ∧ vv M c j < 256) : ∀ (m k : Nat), k + m ≤ 6 → orG M c k m < 2 ^ 8
  | 0, _, _ => by show 0 < 2 ^ 8; decide
  | m + 1, k, hk => by
    show (vv M c k).toNat ||| orG M c (k + 1) m < 2 ^ 8
    exact Nat.or_lt_two_pow (by have := h k (by omega); omega) (orG_lt h m (k + 1) (by omega))
theorem orG_b {M : Mem} {c : Nat} (b : Nat) : ∀ (m k : Nat), (orG M c k m).testBit b = true ↔ ∃ q, k ≤ q ∧ q < k + m ∧ (vv M c q).toNat.testBit b = true
  | 0, k => by
    show (0 : Nat).testBit b = true ↔ _
    rw [Nat.zero_testBit]
    exact ⟨fun h => absurd h (by decide), fun ⟨q, h1, h2, _⟩ => by omega⟩
  | m + 1, k => by
    show ((vv M c k).toNat ||| orG M c (k + 1) m).testBit b = true ↔ _
    rw [Nat.testBit_or, Bool.or_eq_true, orG_b b m (k + 1)]
    constructor
    · rintro (h | ⟨q, h1, h2, h3⟩)
      · exact ⟨k, by omega, by omega, h⟩
      · exact ⟨q, by omega, by omega, h3⟩
    · rintro ⟨q, h1, h2, h3⟩
      rcases Nat.lt_or_ge k q with z | z
      · exact Or.inr ⟨q, by omega, by omega, h3⟩
      · rw [show q = k by omega] at h3; exact Or.inl h3
theorem sub_b {a b : Nat} : a &&& b = a ↔ ∀ k, a.testBit k = true → b.testBit k = true := by
  constructor
  · intro h k hk
    have : (a &&& b).testBit k = true := by rw [h]; exact hk
    rw [Nat.testBit_and, Bool.and_eq_true] at this
    exact this.2
  · intro h
    apply Nat.eq_of_testBit_eq
    intro k
    rw [Nat.testBit_and]
    cases hk : a.testBit k
    · rfl
    · rw [h k hk]; rfl
/-- each kind that is wanted lies at one of the places -/
def rGear (M : Mem) (i p : Nat) : Prop := ∀ b, (vv M 26 i).toNat.testBit b = true → ∃ q : Nat, p ≤ q ∧ (q : Int) < p + vv M 21 i ∧ (q : Int) < vv M 16 1 ∧ (vv M 18 q).toNat.testBit b = true
theorem n_eq {a b : Nat} (ha : a < 2147483648) (hb : b < 2147483648) : nI a = nI b ↔ a = b := nI_eq (by omega) (by omega)
theorem gear_end (N : Nat) {M : Mem} (hM : Mw M) {i x : Nat} (hi : i < 4) (hx : x < 256) : ∃ r : Int32, fX4_hasGear_43 N (zI i) (nI x) M = some (r, M) ∧ (r = 0 ∨ r = 1) ∧ (r = 1 ↔ ∀ b, (vv M 26 i).toNat.testBit b = true → x.testBit b = true) := by
  obtain ⟨-, -, -, -, -, hS⟩ := hM
  have hs := hS i hi
  unfold fX4_hasGear_43
  rw [gd_z _ (by omega) (by omega) (by omega), gd_z _ (by omega) (by omega) (by omega), n_cl (by omega), vv_n (M := M) (c := 26) (k := i) (by omega), n_and]
  have hle : (vv M 26 i).toNat &&& x ≤ (vv M 26 i).toNat := Nat.and_le_left
  have e := n_eq (a := (vv M 26 i).toNat &&& x) (b := (vv M 26 i).toNat) (by omega) (by omega)
  by_cases h : (vv M 26 i).toNat &&& x = (vv M 26 i).toNat
  · rw [if_pos (e.mpr h)]
    exact ⟨1, rfl, Or.inr rfl, ⟨fun _ => sub_b.mp h, fun _ => rfl⟩⟩
  · rw [if_neg (fun q => h (e.mp q))]
    exact ⟨0, rfl, Or.inl rfl, ⟨fun q => absurd q (by decide), fun q => absurd (sub_b.mpr q) h⟩⟩
theorem gear_loop (N : Nat) {M : Mem} (hM : Mw M) {i p : Nat} (hi : i < 4) (hp : p < 6) : ∀ (m k n x : Nat), p ≤ k → x < 256 → (k : Int) + m = min (p + vv M 21 i) (vv M 16 1) ∨ (m = 0 ∧ min (p + vv M 21 i) (vv M 16 1) ≤ (k : Int) ∧ k ≤ 6) → m < n →
    ∃ r : Int32, fX4_hasGear_5 N n (zI i) (zI p) (nI x) (zI k) M = some (r, M) ∧ (r = 0 ∨ r = 1) ∧ (r = 1 ↔ ∀ b, (vv M 26 i).toNat.testBit b = true → (x ||| orG M 18 k m).testBit b = true) := by
  have hM' := hM
  obtain ⟨hL, -, -, hD, -, hS⟩ := hM'
  have hs := hS i hi
  intro m
  induction m with
  | zero =>
    intro k n x hk hx he hn
    obtain ⟨n, rfl⟩ : ∃ z, n = z + 1 := ⟨n - 1, by omega⟩
    have hmin : min (p + vv M 21 i) (vv M 16 1) ≤ (k : Int) := by omega
    rw [fX4_hasGear_5_s, gd_z _ (by omega) (by omega) (by omega), n_cl (by omega), vv_z M 21 i, vv_z M 16 1, z_add]
    have e0 : x ||| orG M 18 k 0 = x := by show x ||| 0 = x; simp
    rw [e0]
    by_cases h : (p : Int) + vv M 21 i ≤ k
    · rw [if_pos ((z_le (by omega) (by omega) (by omega) (by omega)).mpr h)]
      exact gear_end N hM hi hx
    · rw [if_neg (fun q => h ((z_le (by omega) (by omega) (by omega) (by omega)).mp q)), if_pos ((z_le (by omega) (by omega) (by omega) (by omega)).mpr (by omega))]
      exact gear_end N hM hi hx
  | succ m ih =>
    intro k n x hk hx he hn
    obtain ⟨n, rfl⟩ : ∃ z, n = z + 1 := ⟨n - 1, by omega⟩
    have hd := hD k (by omega)
    rw [fX4_hasGear_5_s, gd_z _ (by omega) (by omega) (by omega), n_cl (by omega), vv_z M 21 i, vv_z M 16 1, z_add, if_neg (fun q => by have := (z_le (by omega) (by omega) (by omega) (by omega)).mp q; omega), if_neg (fun q => by have := (z_le (by omega) (by omega) (by omega) (by omega)).mp q; omega), gd_z _ (by omega) (by omega) (by omega), n_cl (by omega), vv_n (M := M) (c := 18) (k := k) (by omega), lq_e, lq_e, n_or, z_1]
    have hx2 : x ||| (vv M 18 k).toNat < 256 := Nat.or_lt_two_pow (n := 8) hx (by omega)
    obtain ⟨r, h1, h2, h3⟩ := ih (k + 1) n (x ||| (vv M 18 k).toNat) (by omega) hx2 (by omega) (by omega)
    refine ⟨r, h1, h2, ?_⟩
    rw [h3, Nat.or_assoc]
    rfl
theorem e_hasGear (N : Nat) (hN : 100 ≤ N) {M : Mem} (hM : Mw M) {i p : Nat} (hi : i < 4) (hp : p < 6) : ∃ r : Int32, fX4_hasGear N (zI i) (zI p) M = some (r, M) ∧ (r = 0 ∨ r = 1) ∧ (r = 1 ↔ rGear M i p) := by
  have hM' := hM
  obtain ⟨hL, -, -, hD, -, hS⟩ := hM'
  have hs := hS i hi
  unfold fX4_hasGear
  obtain ⟨r, h1, h2, h3⟩ := gear_loop N hM hi hp (min (p + vv M 21 i) (vv M 16 1) - p).toNat p N 0 (Nat.le_refl _) (by decide) (by omega) (by omega)
  refine ⟨r, h1, h2, h3.trans ?_⟩
  rw [Nat.zero_or]
  constructor
  · intro h b hb
    obtain ⟨q, q1, q2, q3⟩ := (orG_b b _ _).mp (h b hb)
    exact ⟨q, q1, by omega, by omega, q3⟩
  · intro h b hb
    obtain ⟨q, q1, q2, q3, q4⟩ := h b hb
    exact (orG_b b _ _).mpr ⟨q, q1, by omega, q4⟩
/-- the tide lets ships begin -/
def rTide (M : Mem) (h : Int) : Prop := vv M 16 3 = 0 ∨ ∃ k : Nat, (k : Int) < vv M 16 3 ∧ vv M 19 k ≤ h ∧ h ≤ vv M 20 k
theorem tide_1 (N : Nat) {M : Mem} (hM : Mw M) (x : Int32) : ∀ (m k n : Nat), (k : Int) + m = vv M 16 3 → m < n → fX4_isTide_15 N n x 1 (zI k) M = some (1, M) := by
  obtain ⟨-, -, hT, -, hK, -⟩ := hM
  intro m
  induction m with
  | zero =>
    intro k n he hn
    obtain ⟨n, rfl⟩ : ∃ z, n = z + 1 := ⟨n - 1, by omega⟩
    rw [fX4_isTide_15_s, vv_z M 16 3, if_pos ((z_le (by omega) (by omega) (by omega) (by omega)).mpr (by omega)), gp_t _ (Or.inr rfl)]
  | succ m ih =>
    intro k n he hn
    obtain ⟨n, rfl⟩ : ∃ z, n = z + 1 := ⟨n - 1, by omega⟩
    rw [fX4_isTide_15_s, vv_z M 16 3, if_neg (fun q => by have := (z_le (by omega) (by omega) (by omega) (by omega)).mp q; omega), if_neg (by decide), lq_e]
    have e : zI ↑k + 1 = zI ((k + 1 : Nat) : Int) := by rw [i1, z_add]; rfl
    rw [e]
    exact ih (k + 1) n (by omega) (by omega)
theorem tide_0 (N : Nat) {M : Mem} (hM : Mw M) {h : Int} (h0 : 0 ≤ h) (h1 : h < 100) : ∀ (m k n : Nat), (k : Int) + m = vv M 16 3 → m < n → ∃ r : Int32, fX4_isTide_15 N n (zI h) 0 (zI k) M = some (r, M) ∧ (r = 0 ∨ r = 1) ∧ (r = 1 ↔ ∃ q : Nat, k ≤ q ∧ (q : Int) < vv M 16 3 ∧ vv M 19 q ≤ h ∧ h ≤ vv M 20 q) := by
  have hM' := hM
  obtain ⟨-, -, hT, -, hK, -⟩ := hM'
  intro m
  induction m with
  | zero =>
    intro k n he hn
    obtain ⟨n, rfl⟩ : ∃ z, n = z + 1 := ⟨n - 1, by omega⟩
    rw [fX4_isTide_15_s, vv_z M 16 3, if_pos ((z_le (by omega) (by omega) (by omega) (by omega)).mpr (by omega)), gp_t _ (Or.inl rfl)]
    exact ⟨0, rfl, Or.inl rfl, ⟨fun q => absurd q (by decide), fun ⟨q, a, b, _⟩ => by omega⟩⟩
  | succ m ih =>
    intro k n he hn
    obtain ⟨n, rfl⟩ : ∃ z, n = z + 1 := ⟨n - 1, by omega⟩
    have hk := hK k (by omega)
    have e : zI ↑k + 1 = zI ((k + 1 : Nat) : Int) := by rw [i1, z_add]; rfl
    rw [fX4_isTide_15_s, vv_z M 16 3, if_neg (fun q => by have := (z_le (by omega) (by omega) (by omega) (by omega)).mp q; omega), if_pos rfl, gd_z _ (by omega) (by omega) (by omega), gd_z _ (by omega) (by omega) (by omega), n_cl (by omega), bd_e _ (e_in N _ _ _ M), vv_z M 19 k, vv_z M 20 k, lq_e, lq_e, e]
    have hc : (zI (vv M 19 k) ≤ zI h ∧ zI h ≤ zI (vv M 20 k)) ↔ (vv M 19 k ≤ h ∧ h ≤ vv M 20 k) := and_congr (z_le (by omega) (by omega) (by omega) (by omega)) (z_le (by omega) (by omega) (by omega) (by omega))
    by_cases hq : vv M 19 k ≤ h ∧ h ≤ vv M 20 k
    · rw [if_pos (hc.mpr hq), if_neg (by decide), tide_1 N hM _ m (k + 1) n (by omega) (by omega)]
      exact ⟨1, rfl, Or.inr rfl, ⟨fun _ => ⟨k, Nat.le_refl _, by omega, hq⟩, fun _ => rfl⟩⟩
    · rw [if_neg (fun q => hq (hc.mp q)), if_pos rfl]
      obtain ⟨r, a1, a2, a3⟩ := ih (k + 1) n (by omega) (by omega)
      refine ⟨r, a1, a2, a3.trans ⟨fun ⟨q, b1, b2, b3⟩ => ⟨q, by omega, b2, b3⟩, fun ⟨q, b1, b2, b3⟩ => ?_⟩⟩
      rcases Nat.lt_or_ge k q with z | z
      · exact ⟨q, z, b2, b3⟩
      · rw [show q = k by omega] at b3; exact absurd b3 hq
theorem e_isTide (N : Nat) (hN : 100 ≤ N) {M : Mem} (hM : Mw M) {h : Int} (h0 : 0 ≤ h) (h1 : h < 100) : ∃ r : Int32, fX4_isTide N (zI h) M = some (r, M) ∧ (r = 0 ∨ r = 1) ∧ (r = 1 ↔ rTide M h) := by
  have hM' := hM
  obtain ⟨-, -, hT, -, hK, -⟩ := hM'
  unfold fX4_isTide
  rw [vv_z M 16 3, i0]
  by_cases hz : vv M 16 3 = 0
  · rw [if_pos ((z_eq (by omega) (by omega) (by omega) (by omega)).mpr hz)]
    have := tide_1 N hM (zI h) 0 0 N (by omega) (by omega)
    exact ⟨1, this, Or.inr rfl, ⟨fun _ => Or.inl hz, fun _ => rfl⟩⟩
  · rw [if_neg (fun q => hz ((z_eq (by omega) (by omega) (by omega) (by omega)).mp q))]
    obtain ⟨r, a1, a2, a3⟩ := tide_0 N hM h0 h1 (vv M 16 3).toNat 0 N (by omega) (by omega)
    refine ⟨r, a1, a2, a3.trans ⟨fun ⟨q, _, b2, b3⟩ => Or.inr ⟨q, b2, b3⟩, fun q => ?_⟩⟩
    rcases q with q | ⟨q, b2, b3⟩
    · exact absurd q hz
    · exact ⟨q, by omega, b2, b3⟩
