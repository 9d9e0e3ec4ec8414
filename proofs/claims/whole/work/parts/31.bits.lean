/-! masks: an Int32 that is nI n, bit by bit -/
theorem b_s : ∀ n, n < 32 → ((nI n &&& 31).toBitVec.smod 32).toNat = n := by decide +kernel
theorem b_hb {n k : Nat} (hn : n < 2147483648) (hk : k < 32) : (nI n >>> (nI k &&& 31)) &&& 1 = nI (n / 2 ^ k % 2) := by
  rw [pk_shrN (by omega) _ k (b_s k hk)]
  have h := pk_andN (n := n / 2 ^ k) (m := 1) (by have : n / 2 ^ k ≤ n := Nat.div_le_self _ _; omega) 1 (by decide)
  simpa using h
theorem b_tb (n k : Nat) : n / 2 ^ k % 2 = if n.testBit k then 1 else 0 := by
  rw [Nat.testBit_eq_decide_div_mod_eq]
  have : n / 2 ^ k % 2 < 2 := Nat.mod_lt _ (by decide)
  by_cases h : n / 2 ^ k % 2 = 1
  · simp [h]
  · simp [h]; omega
theorem e_hasBit (N : Nat) {n k : Nat} (hn : n < 2147483648) (hk : k < 32) (M : Mem) : fX3_hasBit N (nI n) (nI k) M = some (if n.testBit k then 1 else 0, M) := by
  unfold fX3_hasBit
  rw [b_hb hn hk, b_tb]
  by_cases h : n.testBit k = true
  · simp only [h, if_true]; rfl
  · simp only [Bool.not_eq_true] at h; simp only [h]; rfl
theorem e_bit (N : Nat) {n k : Nat} (hn : n < 2147483648) (hk : k < 32) (M : Mem) : fX4_bit N (nI n) (nI k) M = some (if n.testBit k then 1 else 0, M) := by
  unfold fX4_bit
  rw [b_hb hn hk, b_tb]
  by_cases h : n.testBit k = true
  · simp only [h, if_true]; rfl
  · simp only [Bool.not_eq_true] at h; simp only [h]; rfl
/-- hours f .. l as bits -/
def hm (f l : Nat) : Nat := (2 ^ (l + 1 - f) - 1) * 2 ^ f
theorem hm_e : ∀ f, f < 16 → ∀ l, l < 16 → f ≤ l → (((1 : Int32) <<< (((nI l - nI f) + (1 : Int32)) &&& 31)) - (1 : Int32)) <<< (nI f &&& 31) = nI (hm f l) := by decide +kernel
theorem hm_b : ∀ f, f < 16 → ∀ l, l < 16 → ∀ h, h < 16 → f ≤ l → ((hm f l).testBit h = decide (f ≤ h ∧ h ≤ l)) := by decide +kernel
theorem hm_lt : ∀ f, f < 16 → ∀ l, l < 16 → f ≤ l → hm f l < 65536 := by decide +kernel
/-- the hours from one to another, of those that may begin -/
def hmask (a b : Int) : Nat := if max a 0 ≤ min b 15 then hm (max a 0).toNat (min b 15).toNat else 0
theorem hmask_lt (a b : Int) : hmask a b < 65536 := by
  unfold hmask
  split
  · exact hm_lt _ (by omega) _ (by omega) (by omega)
  · decide
theorem hmask_b (a b : Int) {h : Nat} (hh : h < 16) : (hmask a b).testBit h = decide (a ≤ h ∧ (h : Int) ≤ b) := by
  unfold hmask
  split
  · rw [hm_b _ (by omega) _ (by omega) _ hh (by omega)]
    congr 1
    apply propext
    constructor <;> intro q <;> omega
  · rw [Nat.zero_testBit]
    symm
    rw [decide_eq_false_iff_not]
    omega
theorem z_n (k : Nat) : zI (k : Int) = nI k := Int32.ofInt_eq_ofNat
theorem e_bb22 (N : Nat) {f l : Int} (hf0 : 0 ≤ f) (hf : f < 1000) (hl0 : -1000 ≤ l) (hl : l ≤ 15) (M : Mem) : fX3_beginsBetween_22 N (zI f) (zI l) M = some (nI (if f ≤ l then hm f.toNat l.toNat else 0), M) := by
  unfold fX3_beginsBetween_22
  by_cases h : f ≤ l
  · rw [if_pos ((z_le (by omega) (by omega) (by omega) (by omega)).mpr h), if_pos h]
    have e1 : zI f = nI f.toNat := by rw [← z_n]; congr 1; omega
    have e2 : zI l = nI l.toNat := by rw [← z_n]; congr 1; omega
    rw [e1, e2, hm_e _ (by omega) _ (by omega) (by omega)]
  · rw [if_neg (fun q => h ((z_le (by omega) (by omega) (by omega) (by omega)).mp q)), if_neg h]; rfl
theorem e_bb (N : Nat) {a b : Int} (ha0 : -1000 ≤ a) (ha : a < 1000) (hb0 : -1000 ≤ b) (hb : b < 1000) (M : Mem) : fX3_beginsBetween N (zI a) (zI b) M = some (nI (hmask a b), M) := by
  have h0 : (0 : Int32) = zI 0 := by decide
  have h15 : (15 : Int32) = zI 15 := by decide
  have k9 : ∀ f : Int, 0 ≤ f → f < 1000 → f = max a 0 → fX3_beginsBetween_9 N (zI b) (zI f) M = some (nI (hmask a b), M) := by
    intro f h1 h2 h3
    unfold fX3_beginsBetween_9
    rw [h15]
    by_cases h : 15 ≤ b
    · rw [if_pos ((z_le (by omega) (by omega) (by omega) (by omega)).mpr h), e_bb22 N h1 h2 (by omega) (by omega)]
      unfold hmask
      rw [← h3, show min b 15 = 15 by omega]
    · rw [if_neg (fun q => h ((z_le (by omega) (by omega) (by omega) (by omega)).mp q)), e_bb22 N h1 h2 (by omega) (by omega)]
      unfold hmask
      rw [← h3, show min b 15 = b by omega]
  unfold fX3_beginsBetween
  rw [h0]
  by_cases h : a ≤ 0
  · rw [if_pos ((z_le (by omega) (by omega) (by omega) (by omega)).mpr h)]
    exact k9 0 (by omega) (by omega) (by omega)
  · rw [if_neg (fun q => h ((z_le (by omega) (by omega) (by omega) (by omega)).mp q))]
    exact k9 a (by omega) (by omega) (by omega)
theorem e_bc16 (N : Nat) (M : Mem) {n : Nat} (hn : n < 16) : fJ6_bitCount_0f7a4 N (nI n) M = some (nI (((List.range 4).filter (fun k => n.testBit k)).length), M) := by
  have h : ∀ n, n < 16 → ∀ N M, fJ6_bitCount_0f7a4 N (nI n) M = some (nI (((List.range 4).filter (fun k => n.testBit k)).length), M) := by
    intro n hn N M
    rcases (show n = 0 ∨ n = 1 ∨ n = 2 ∨ n = 3 ∨ n = 4 ∨ n = 5 ∨ n = 6 ∨ n = 7 ∨ n = 8 ∨ n = 9 ∨ n = 10 ∨ n = 11 ∨ n = 12 ∨ n = 13 ∨ n = 14 ∨ n = 15 by omega) with rfl | rfl | rfl | rfl | rfl | rfl | rfl | rfl | rfl | rfl | rfl | rfl | rfl | rfl | rfl | rfl <;> rfl
  exact h n hn N M
theorem e_bcP (N : Nat) (M : Mem) {t : Nat} (ht : t < 16) : fJ6_bitCount_0f7a4 N (nI (2 ^ t) - 1) M = some (nI t, M) := by
  rcases (show t = 0 ∨ t = 1 ∨ t = 2 ∨ t = 3 ∨ t = 4 ∨ t = 5 ∨ t = 6 ∨ t = 7 ∨ t = 8 ∨ t = 9 ∨ t = 10 ∨ t = 11 ∨ t = 12 ∨ t = 13 ∨ t = 14 ∨ t = 15 by omega) with rfl | rfl | rfl | rfl | rfl | rfl | rfl | rfl | rfl | rfl | rfl | rfl | rfl | rfl | rfl | rfl <;> rfl
theorem nI_bv (n : Nat) : (nI n).toBitVec = BitVec.ofNat 32 n := rfl
theorem nI_inj {a b : Int32} (h : a.toBitVec = b.toBitVec) : a = b := Int32.toBitVec_inj.mp h
theorem b_low {n t : Nat} (hn : n < 65536) (ht : t < 16) (h1 : n.testBit t = true) (h2 : ∀ j, j < t → n.testBit j = false) : nI n &&& -(nI n) = nI (2 ^ t) := by
  apply nI_inj
  rw [Int32.toBitVec_and, Int32.toBitVec_neg, nI_bv, nI_bv]
  apply BitVec.eq_of_getLsbD_eq
  intro i hi
  have hx : ∀ j, j < 32 → (BitVec.ofNat 32 n).getLsbD j = n.testBit j := by
    intro j hj
    rw [BitVec.getLsbD_ofNat, decide_eq_true hj, Bool.true_and]
  rw [BitVec.getLsbD_and, BitVec.getLsbD_neg, hx i hi]
  have hr : (BitVec.ofNat 32 (2 ^ t)).getLsbD i = decide (t = i) := by
    rw [BitVec.getLsbD_ofNat, Nat.testBit_two_pow]
    simp [hi]
  rw [hr]
  by_cases hit : t = i
  · subst hit
    have hno : ¬ ∃ j, j < t ∧ (BitVec.ofNat 32 n).getLsbD j = true := by
      rintro ⟨j, hj, e⟩
      rw [hx j (by omega), h2 j hj] at e
      cases e
    simp [h1, hi, hno]
  · by_cases hlt : i < t
    · simp [h2 i hlt, hit]
    · have hyes : ∃ j, j < i ∧ (BitVec.ofNat 32 n).getLsbD j = true := ⟨t, by omega, by rw [hx t (by omega)]; exact h1⟩
      simp [hi, hyes, hit]
theorem e_firstOf (N : Nat) (M : Mem) {n t : Nat} (hn : n < 65536) (ht : t < 16) (h1 : n.testBit t = true) (h2 : ∀ j, j < t → n.testBit j = false) : fX1_firstOf N (nI n) M = some (nI t, M) := by
  unfold fX1_firstOf
  rw [b_low hn ht h1 h2, e_bcP N M ht]
  rfl
theorem b_least {n : Nat} (hn : n < 65536) (h0 : n ≠ 0) : ∃ t, t < 16 ∧ n.testBit t = true ∧ ∀ j, j < t → n.testBit j = false := by
  have hex : ∃ t, n.testBit t = true := by
    obtain ⟨i, hi⟩ := Nat.exists_testBit_of_ne_zero h0
    exact ⟨i, hi⟩
  obtain ⟨t, h1, h2⟩ := pk_least (fun k => n.testBit k = true) hex
  refine ⟨t, ?_, h1, fun j hj => by simpa using h2 j hj⟩
  rcases Nat.lt_or_ge t 16 with h | h
  · exact h
  · have : n.testBit t = false := Nat.testBit_lt_two_pow (Nat.lt_of_lt_of_le hn (by
      show 2 ^ 16 ≤ 2 ^ t
      exact Nat.pow_le_pow_right (by decide) h))
    rw [this] at h1; cases h1
