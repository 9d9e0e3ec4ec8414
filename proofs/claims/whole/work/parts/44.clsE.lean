theorem n_not16 {x g : Nat} (hx : x < 65536) : nI x &&& (nI g ^^^ -1) = nI (x &&& (65535 ^^^ g)) := by
  apply nI_inj
  have hm : (-1 : Int32).toBitVec = BitVec.allOnes 32 := by decide
  rw [Int32.toBitVec_and, Int32.toBitVec_xor, nI_bv, nI_bv, nI_bv, hm]
  apply BitVec.eq_of_getLsbD_eq
  intro i hi
  have hb : ∀ n : Nat, (BitVec.ofNat 32 n).getLsbD i = n.testBit i := fun n => by rw [BitVec.getLsbD_ofNat, decide_eq_true hi, Bool.true_and]
  rw [BitVec.getLsbD_and, BitVec.getLsbD_xor, hb, hb, hb, Nat.testBit_and, Nat.testBit_xor, BitVec.getLsbD_allOnes, decide_eq_true hi]
  by_cases h8 : i < 16
  · have : (65535 : Nat).testBit i = true := by
      have := Nat.testBit_two_pow_sub_one 16 i
      rw [decide_eq_true h8] at this
      exact this
    rw [this, Bool.xor_comm]
  · have h0 : x.testBit i = false := Nat.testBit_lt_two_pow (Nat.lt_of_lt_of_le hx (show 2 ^ 16 ≤ 2 ^ i from Nat.pow_le_pow_right (by decide) (by omega)))
    rw [h0]; rfl
theorem n_not16_b {x g b : Nat} (hx : x < 65536) : (x &&& (65535 ^^^ g)).testBit b = (x.testBit b && !g.testBit b) := by
  rw [Nat.testBit_and, Nat.testBit_xor]
  by_cases h8 : b < 16
  · have : (65535 : Nat).testBit b = true := by
      have := Nat.testBit_two_pow_sub_one 16 b
      rw [decide_eq_true h8] at this
      exact this
    rw [this, Bool.true_xor]
  · have h0 : x.testBit b = false := Nat.testBit_lt_two_pow (Nat.lt_of_lt_of_le hx (show 2 ^ 16 ≤ 2 ^ b from Nat.pow_le_pow_right (by decide) (by omega)))
    rw [h0]; rfl
theorem e_spansMeet (N : Nat) {a b c d : Int} (ha : -1000 ≤ a ∧ a ≤ 1000) (hb : -1000 ≤ b ∧ b ≤ 1000) (hc : -1000 ≤ c ∧ c ≤ 1000) (hd : -1000 ≤ d ∧ d ≤ 1000) (M : Mem) : fX3_spansMeet N (zI a) (zI b) (zI c) (zI d) M = some (if a < c + d ∧ c < a + b then 1 else 0, M) := by
  unfold fX3_spansMeet
  rw [z_add, z_add]
  by_cases h1 : c + d ≤ a
  · rw [if_pos ((z_le (by omega) (by omega) (by omega) (by omega)).mpr h1), if_neg (by omega)]
  · rw [if_neg (fun q => h1 ((z_le (by omega) (by omega) (by omega) (by omega)).mp q))]
    by_cases h2 : a + b ≤ c
    · rw [if_pos ((z_le (by omega) (by omega) (by omega) (by omega)).mpr h2), if_neg (by omega)]
    · rw [if_neg (fun q => h2 ((z_le (by omega) (by omega) (by omega) (by omega)).mp q)), if_pos (by omega)]
/-- all but the rows of the ship's open berths in one level is as it was -/
def Nf (lev i : Nat) (Q : Int) (M' M'' : Mem) : Prop := (∀ c, c ≠ 10 → M'' c = M' c) ∧ ∀ x, (x < (lev * 4 + i) * 6 ∨ ((lev * 4 + i) * 6 : Nat) + Q ≤ (x : Int)) → M'' 10 x = M' 10 x
theorem Cs.n {M M' M'' : Mem} {n : Nat} (h : Cs M n M') (q : ∀ c, c ≠ 10 → M'' c = M' c) : Cs M n M'' := by
  refine ⟨fun c hc => by rw [q c (by omega)]; exact h.1 c hc, ?_, ?_, ?_⟩ <;> (unfold vv; rw [q 9 (by decide)])
  · exact h.2.1
  · exact h.2.2.1
  · exact h.2.2.2
theorem narrow_loop (N : Nat) {M : Mem} (hR : Re M) {n : Nat} (hn4 : n ≤ 4) {lev i s t0 p0 x : Nat} (hlev : lev ≤ 2) (hi : i < n) (hs : s < n) (ht0 : t0 < 16) (hp0 : p0 < 6) (hx : x < 65536) (hxb : ∀ h, h < 16 → (x.testBit h = true ↔ (t0 : Int) < h + vv M 23 i ∧ (h : Int) < t0 + vv M 23 s)) : ∀ (m k n1 : Nat) (M' : Mem), (k : Int) + m = vv M 16 1 → m < n1 → Cs M n M' → M' 11 s = zI p0 → (∀ p : Nat, (p : Int) < vv M 16 1 → 0 ≤ vv M' 10 ((lev * 4 + i) * 6 + p) ∧ vv M' 10 ((lev * 4 + i) * 6 + p) < 65536) →
    ∃ M'', fX1_narrow_52 N n1 (zI lev) (zI s) (zI i) (nI x) (zI k) M' = some (0, M'') ∧ (∀ c, c ≠ 10 → M'' c = M' c) ∧ (∀ y, (y < ((lev + 1) * 4 + i) * 6 + k ∨ (((lev + 1) * 4 + i) * 6 : Nat) + vv M 16 1 ≤ (y : Int)) → M'' 10 y = M' 10 y) ∧ ∀ p : Nat, k ≤ p → (p : Int) < vv M 16 1 → (0 ≤ vv M'' 10 (((lev + 1) * 4 + i) * 6 + p) ∧ vv M'' 10 (((lev + 1) * 4 + i) * 6 + p) < 65536) ∧ ∀ h, h < 16 → (opn M'' (lev + 1) i p h ↔ opn M' lev i p h ∧ ¬ rMeet M i (6 * h + p) s (6 * t0 + p0)) := by
  have hL := hR.1.1
  have hsI := hR.1.2.2.2.2.2 i (by omega)
  have hsS := hR.1.2.2.2.2.2 s (by omega)
  have hfI := hR.2.2.2.2.1 i (by omega)
  have hfS := hR.2.2.2.2.1 s (by omega)
  intro m
  induction m with
  | zero =>
    intro k n1 M' hk hn1 hC h11 hW
    obtain ⟨n1, rfl⟩ : ∃ q, n1 = q + 1 := ⟨n1 - 1, by omega⟩
    refine ⟨M', ?_, fun c _ => rfl, fun y _ => rfl, fun p h1 h2 => by omega⟩
    rw [fX1_narrow_52_s, vv_z M' 9 7, hC.2.2.2, if_pos ((z_le (by omega) (by omega) (by omega) (by omega)).mpr (by omega))]
  | succ m ih =>
    intro k n1 M' hk hn1 hC h11 hW
    obtain ⟨n1, rfl⟩ : ∃ q, n1 = q + 1 := ⟨n1 - 1, by omega⟩
    have h95 : ¬ M' 9 5 = 0 := by rw [vv_z M' 9 5, hC.2.1]; decide
    have vS : vv M' (5 + s) 0 = vv M 21 s := by rw [hC.v (by omega)]; exact hfS.1
    have vI : vv M' (5 + i) 0 = vv M 21 i := by rw [hC.v (by omega)]; exact hfI.1
    have hr := hW k (by omega)
    have ecl : (zI (((lev : Int) * 4 + i) * 6 + k)).toNatClampNeg = (lev * 4 + i) * 6 + k := by
      rw [z_cl (by omega) (by omega)]; omega
    have ecl2 : (zI (((lev : Int) + 1) * 4 + i) * 6 + zI k) = zI ((((lev : Int) + 1) * 4 + i) * 6 + k) := by rw [i6, z_mul, z_add]
    have ecl3 : (zI ((((lev : Int) + 1) * 4 + i) * 6 + k)).toNatClampNeg = ((lev + 1) * 4 + i) * 6 + k := by
      rw [z_cl (by omega) (by omega)]; omega
    have eix : fX1_index N (zI lev + 1) (zI i) (zI k) M' = some (zI ((((lev : Int) + 1) * 4 + i) * 6 + k), M') := by
      rw [i1, z_add]; exact e_index N _ _ _ M'
    have esm := e_spansMeet N (a := (p0 : Int)) (b := vv M 21 s) (c := (k : Int)) (d := vv M 21 i) (by omega) (by omega) (by omega) (by omega) M'
    have main : ∀ y : Nat, y < 65536 → (∀ h, h < 16 → (y.testBit h = true ↔ opn M' lev i k h ∧ ¬ rMeet M i (6 * h + k) s (6 * t0 + p0))) → ∃ M'', fX1_narrow_52 N n1 (zI lev) (zI s) (zI i) (nI x) (zI ((k + 1 : Nat) : Int)) (mw M' 10 (((lev + 1) * 4 + i) * 6 + k) (nI y)) = some (0, M'') ∧ (∀ c, c ≠ 10 → M'' c = M' c) ∧ (∀ z, (z < ((lev + 1) * 4 + i) * 6 + k ∨ (((lev + 1) * 4 + i) * 6 : Nat) + vv M 16 1 ≤ (z : Int)) → M'' 10 z = M' 10 z) ∧ ∀ p : Nat, k ≤ p → (p : Int) < vv M 16 1 → (0 ≤ vv M'' 10 (((lev + 1) * 4 + i) * 6 + p) ∧ vv M'' 10 (((lev + 1) * 4 + i) * 6 + p) < 65536) ∧ ∀ h, h < 16 → (opn M'' (lev + 1) i p h ↔ opn M' lev i p h ∧ ¬ rMeet M i (6 * h + p) s (6 * t0 + p0)) := by
      intro y hy hyb
      have hC2 : Cs M n (mw M' 10 (((lev + 1) * 4 + i) * 6 + k) (nI y)) := hC.n (fun c hc => mw_n M' hc ..)
      have hrow : ∀ p : Nat, (p : Int) < vv M 16 1 → vv (mw M' 10 (((lev + 1) * 4 + i) * 6 + k) (nI y)) 10 ((lev * 4 + i) * 6 + p) = vv M' 10 ((lev * 4 + i) * 6 + p) := fun p hp => by
        unfold vv
        rw [mw_o M' _ (by omega)]
      obtain ⟨M'', b1, b2, b3, b4⟩ := ih (k + 1) n1 _ (by omega) (by omega) hC2 (by rw [mw_n M' (by decide)]; exact h11) (fun p hp => by rw [hrow p hp]; exact hW p hp)
      refine ⟨M'', b1, fun c hc => by rw [b2 c hc, mw_n M' hc], fun z hz => by rw [b3 z (by omega), mw_o M' _ (by omega)], fun p h1 h2 => ?_⟩
      rcases Nat.lt_or_ge k p with q | q
      · have := b4 p q h2
        refine ⟨this.1, fun h hh => ?_⟩
        rw [this.2 h hh]
        unfold opn
        rw [hrow p h2]
      · have : p = k := by omega
        subst this
        have e : vv M'' 10 (((lev + 1) * 4 + i) * 6 + p) = y := by
          unfold vv
          rw [b3 _ (by omega), mw_i, vn (by omega)]
        refine ⟨by rw [e]; omega, fun h hh => ?_⟩
        rw [← hyb h hh]
        unfold opn
        rw [e]
        have : ((y : Int)).toNat = y := by omega
        rw [this]
    have hmt : ∀ h : Nat, rMeet M i (6 * h + k) s (6 * t0 + p0) ↔ (((p0 : Int) < k + vv M 21 i ∧ (k : Int) < p0 + vv M 21 s) ∧ ((t0 : Int) < h + vv M 23 i ∧ (h : Int) < t0 + vv M 23 s)) := fun h => by
      unfold rMeet
      have e1 : (6 * h + k) % 6 = k := by omega
      have e2 : (6 * h + k) / 6 = h := by omega
      have e3 : (6 * t0 + p0) % 6 = p0 := by omega
      have e4 : (6 * t0 + p0) / 6 = t0 := by omega
      rw [e1, e2, e3, e4]
      constructor
      · rintro ⟨⟨a, b⟩, c, d⟩; exact ⟨⟨b, a⟩, d, c⟩
      · rintro ⟨⟨a, b⟩, d, c⟩; exact ⟨⟨b, a⟩, c, d⟩
    rw [fX1_narrow_52_s, vv_z M' 9 7, hC.2.2.2, if_neg (fun q => by have := (z_le (by omega) (by omega) (by omega) (by omega)).mp q; omega), gd_z _ (by omega) (by omega) (by omega), gp_t _ h95, gd_z _ (by omega) (by omega) (by omega), gp_t _ h95, gd_z _ (by omega) (by omega) (by omega), n_cl (by omega), n_cl (by omega), h11, vv_z M' (5 + s) 0, vv_z M' (5 + i) 0, vS, vI, bd_e _ esm, bd_e _ (e_index N _ _ _ M'), gd_z _ (by omega) (by omega) (by omega), lq_e, bd_e _ eix, ecl, vv_n (M := M') (c := 10) (k := (lev * 4 + i) * 6 + k) hr.1]
    have hlt : (vv M' 10 ((lev * 4 + i) * 6 + k)).toNat < 65536 := by omega
    by_cases hm : (p0 : Int) < k + vv M 21 i ∧ (k : Int) < p0 + vv M 21 s
    · rw [if_pos hm, if_neg (by decide), gd_z _ (by omega) (by omega) (by omega), lq_e, lq_e, ecl3, z_1, n_not16 hlt]
      refine main _ (Nat.lt_of_le_of_lt Nat.and_le_left hlt) (fun h hh => ?_)
      rw [n_not16_b hlt, hmt h, Bool.and_eq_true]
      have hb := hxb h hh
      constructor
      · rintro ⟨a, b⟩
        refine ⟨a, fun c => ?_⟩
        rw [hb.mpr c.2] at b
        cases b
      · rintro ⟨a, b⟩
        refine ⟨a, ?_⟩
        cases hxh : x.testBit h
        · rfl
        · exact absurd ⟨hm, hb.mp hxh⟩ b
    · rw [if_neg hm, if_pos rfl, gd_z _ (by omega) (by omega) (by omega), lq_e, lq_e, ecl3, z_1]
      refine main _ hlt (fun h hh => ?_)
      rw [hmt h]
      exact ⟨fun a => ⟨a, fun c => hm c.1⟩, fun a => a.1⟩
theorem e_narrow (N : Nat) (hN : 100 ≤ N) {M : Mem} (hR : Re M) {n : Nat} (hn4 : n ≤ 4) {lev i s t0 p0 : Nat} (hlev : lev ≤ 2) (hi : i < n) (hs : s < n) (ht0 : t0 < 16) (hp0 : p0 < 6) {M' : Mem} (hC : Cs M n M') (h11 : M' 11 s = zI p0) (h12 : M' 12 s = zI t0) (hW : ∀ p : Nat, (p : Int) < vv M 16 1 → 0 ≤ vv M' 10 ((lev * 4 + i) * 6 + p) ∧ vv M' 10 ((lev * 4 + i) * 6 + p) < 65536) :
    ∃ M'', fX1_narrow N (zI lev) (zI s) (zI i) M' = some (0, M'') ∧ Nf (lev + 1) i (vv M 16 1) M' M'' ∧ ∀ p : Nat, (p : Int) < vv M 16 1 → (0 ≤ vv M'' 10 (((lev + 1) * 4 + i) * 6 + p) ∧ vv M'' 10 (((lev + 1) * 4 + i) * 6 + p) < 65536) ∧ ∀ h, h < 16 → (opn M'' (lev + 1) i p h ↔ opn M' lev i p h ∧ ¬ rMeet M i (6 * h + p) s (6 * t0 + p0)) := by
  have hL := hR.1.1
  have hsI := hR.1.2.2.2.2.2 i (by omega)
  have hsS := hR.1.2.2.2.2.2 s (by omega)
  have hfI := hR.2.2.2.2.1 i (by omega)
  have hfS := hR.2.2.2.2.1 s (by omega)
  have h95 : ¬ M' 9 5 = 0 := by rw [vv_z M' 9 5, hC.2.1]; decide
  have vS : vv M' (5 + s) 2 = vv M 23 s := by rw [hC.v (by omega)]; exact hfS.2.2.1
  have vI : vv M' (5 + i) 2 = vv M 23 i := by rw [hC.v (by omega)]; exact hfI.2.2.1
  obtain ⟨M'', b1, b2, b3, b4⟩ := narrow_loop N hR hn4 (lev := lev) (i := i) (s := s) (t0 := t0) (p0 := p0) (x := hmask ((t0 : Int) - vv M 23 i + 1) ((t0 : Int) + vv M 23 s - 1)) hlev hi hs ht0 hp0 (hmask_lt _ _) (fun h hh => by rw [hmask_b _ _ hh, decide_eq_true_iff]; omega) (vv M 16 1).toNat 0 N M' (by omega) (by omega) hC h11 hW
  refine ⟨M'', ?_, ⟨b2, fun x hx => b3 x (by omega)⟩, fun p hp => b4 p (by omega) hp⟩
  unfold fX1_narrow
  rw [gp_t _ h95, gd_z _ (by omega) (by omega) (by omega), lq_e, gp_t _ h95, gd_z _ (by omega) (by omega) (by omega), lq_e, gd_z _ (by omega) (by omega) (by omega), lq_e, n_cl (by omega), n_cl (by omega), h12, vv_z M' (5 + s) 2, vv_z M' (5 + i) 2, vS, vI, i1, z_sub, z_add, z_add, z_sub, bd_e _ (e_bb N (by omega) (by omega) (by omega) (by omega) M')]
  exact b1
/-- the rows of one level: the berths that those who lie leave to the others -/
def Lv (M M' : Mem) (n lev left : Nat) (f : Nat → Nat) (i : Nat) : Prop := ∀ p : Nat, (p : Int) < vv M 16 1 → (0 ≤ vv M' 10 ((lev * 4 + i) * 6 + p) ∧ vv M' 10 ((lev * 4 + i) * 6 + p) < 65536) ∧ ∀ h, h < 16 → (opn M' lev i p h ↔ rMay M i (6 * h + p) ∧ ∀ j, j < n → left.testBit j = false → ¬ rMeet M i (6 * h + p) j (f j))
def drp (left s : Nat) : Nat := left &&& (65535 ^^^ 2 ^ s)
theorem drp_b {left s : Nat} (hl : left < 16) (j : Nat) : (drp left s).testBit j = (left.testBit j && !decide (s = j)) := by
  unfold drp
  rw [n_not16_b (by omega), Nat.testBit_two_pow]
theorem drp_lt {left s : Nat} (hl : left < 16) : drp left s < 16 := Nat.lt_of_le_of_lt Nat.and_le_left hl
theorem drp_p : ∀ left, left < 16 → ∀ s, s < 4 → left.testBit s = true → popc (drp left s) + 1 = popc left := by decide
theorem drp_e {left s : Nat} (hl : left < 16) (hs : s < 16) : nI left &&& ((1 : Int32) <<< (nI s &&& 31) ^^^ -1) = nI (drp left s) := by
  rw [n_shl hs, n_not16 (by omega)]
  rfl
theorem Lv_c {M M1 M2 : Mem} {n lev left i : Nat} {f : Nat → Nat} (h : Lv M M1 n lev left f i) (e : ∀ p : Nat, (p : Int) < vv M 16 1 → M2 10 ((lev * 4 + i) * 6 + p) = M1 10 ((lev * 4 + i) * 6 + p)) : Lv M M2 n lev left f i := by
  intro p hp
  have := h p hp
  unfold opn vv at this ⊢
  rw [e p hp]
  exact this
theorem lay_loop (N : Nat) (hN : 100 ≤ N) {M : Mem} (hR : Re M) {n : Nat} (hn4 : n ≤ 4) {lev left s t0 p0 : Nat} {f : Nat → Nat} (hlv : lev + popc left = n) (hleft : left < 16) (hs : s < n) (hsl : left.testBit s = true) (ht0 : t0 < 16) (hp0 : p0 < 6) : ∀ (m i n1 : Nat) (M' : Mem), i + m = n → m < n1 → Cs M n M' → M' 11 s = zI p0 → M' 12 s = zI t0 → (∀ j, j < n → left.testBit j = true → Lv M M' n lev left f j) → (∀ j, j < i → (drp left s).testBit j = true → Lv M M' n (lev + 1) (drp left s) (va_up f s (6 * t0 + p0)) j) →
    ∃ M'', fX1_lay_25 N n1 (nI left) (zI s) (zI lev) (zI i) M' = some (0, M'') ∧ (∀ c, c ≠ 10 → M'' c = M' c) ∧ (∀ x, x < (lev + 1) * 24 → M'' 10 x = M' 10 x) ∧ ∀ j, j < n → (drp left s).testBit j = true → Lv M M'' n (lev + 1) (drp left s) (va_up f s (6 * t0 + p0)) j := by
  have hL := hR.1.1
  intro m
  induction m with
  | zero =>
    intro i n1 M' hi hn1 hC h11 h12 hW hV
    obtain ⟨n1, rfl⟩ : ∃ q, n1 = q + 1 := ⟨n1 - 1, by omega⟩
    have : i = n := by omega
    subst this
    refine ⟨M', ?_, fun c _ => rfl, fun x _ => rfl, hV⟩
    rw [fX1_lay_25_s, vv_z M' 9 6, hC.2.2.1, if_pos ((z_le (by omega) (by omega) (by omega) (by omega)).mpr (by omega))]
  | succ m ih =>
    intro i n1 M' hi hn1 hC h11 h12 hW hV
    obtain ⟨n1, rfl⟩ : ∃ q, n1 = q + 1 := ⟨n1 - 1, by omega⟩
    rw [fX1_lay_25_s, vv_z M' 9 6, hC.2.2.1, if_neg (fun q => by have := (z_le (by omega) (by omega) (by omega) (by omega)).mp q; omega)]
    by_cases his : i = s
    · subst his
      rw [if_pos rfl, lq_e, z_1]
      refine ih (i + 1) n1 M' (by omega) (by omega) hC h11 h12 hW (fun j hj hb => ?_)
      rcases Nat.lt_or_ge j i with q | q
      · exact hV j q hb
      · have : j = i := by omega
        subst this
        rw [drp_b hleft] at hb
        simp at hb
    · rw [if_neg (fun q => his (by have := (z_eq (by omega) (by omega) (by omega) (by omega)).mp q; omega))]
      have hhb : fX3_hasBit N (nI left) (zI (i : Int)) M' = some (if left.testBit i then 1 else 0, M') := by rw [z_n]; exact e_hasBit N (by omega) (by omega) M'
      rw [bd_e _ hhb]
      cases hbit : left.testBit i
      · rw [if_pos (by decide), lq_e, z_1]
        refine ih (i + 1) n1 M' (by omega) (by omega) hC h11 h12 hW (fun j hj hjb => ?_)
        rcases Nat.lt_or_ge j i with q | q
        · exact hV j q hjb
        · have : j = i := by omega
          subst this
          rw [drp_b hleft, hbit] at hjb
          cases hjb
      · have hpc : 2 ≤ popc left := by
          have h1 := drp_p left hleft s (by omega) hsl
          have h2 : ∀ x, x < 16 → x ≠ 0 → 1 ≤ popc x := by decide
          have h3 := h2 (drp left s) (drp_lt hleft) (fun e => by
            have h4 : (drp left s).testBit i = true := by
              rw [drp_b hleft, hbit, decide_eq_false (fun e => his e.symm)]; rfl
            rw [e, Nat.zero_testBit] at h4
            cases h4)
          omega
        rw [if_neg (by decide)]
        obtain ⟨M1, a1, a2, a3⟩ := e_narrow N hN hR hn4 (lev := lev) (i := i) (s := s) (t0 := t0) (p0 := p0) (by omega) (by omega) hs ht0 hp0 hC h11 h12 (fun p hp => (hW i (by omega) hbit p hp).1)
        rw [bd_e _ a1, lq_e, z_1]
        have hV1 : ∀ j, j < i + 1 → (drp left s).testBit j = true → Lv M M1 n (lev + 1) (drp left s) (va_up f s (6 * t0 + p0)) j := fun j hj hb => by
          rcases Nat.lt_or_ge j i with q | q
          · exact Lv_c (hV j q hb) (fun p hp => a2.2 _ (by omega))
          · have : j = i := by omega
            subst this
            intro p hp
            obtain ⟨c1, c2⟩ := a3 p hp
            refine ⟨c1, fun h hh => ?_⟩
            rw [c2 h hh, (hW j (by omega) hbit p hp).2 h hh]
            constructor
            · rintro ⟨⟨d1, d2⟩, d3⟩
              refine ⟨d1, fun t ht htb => ?_⟩
              by_cases hts : t = s
              · subst hts
                have : va_up f t (6 * t0 + p0) t = 6 * t0 + p0 := by simp [va_up]
                rw [this]; exact d3
              · rw [va_up_ne f _ hts]
                refine d2 t ht ?_
                rw [drp_b hleft] at htb
                cases hh2 : left.testBit t
                · rfl
                · rw [hh2] at htb
                  simp at htb
                  exact absurd htb.symm hts
            · rintro ⟨d1, d2⟩
              refine ⟨⟨d1, fun t ht htb => ?_⟩, ?_⟩
              · have hts : t ≠ s := fun e => by rw [e, hsl] at htb; cases htb
                have := d2 t ht (by rw [drp_b hleft, htb]; rfl)
                rw [va_up_ne f _ hts] at this
                exact this
              · have := d2 s hs (by rw [drp_b hleft]; simp)
                have e : va_up f s (6 * t0 + p0) s = 6 * t0 + p0 := by simp [va_up]
                rw [e] at this
                exact this
        have hW1 : ∀ j, j < n → left.testBit j = true → Lv M M1 n lev left f j := fun j hj hb => Lv_c (hW j hj hb) (fun p hp => a2.2 _ (by omega))
        obtain ⟨M2, b1, b2, b3, b4⟩ := ih (i + 1) n1 M1 (by omega) (by omega) (hC.n a2.1) (by rw [a2.1 11 (by decide)]; exact h11) (by rw [a2.1 12 (by decide)]; exact h12) hW1 hV1
        exact ⟨M2, b1, fun c hc => by rw [b2 c hc, a2.1 c hc], fun x hx => by rw [b3 x hx, a2.2 x (by omega)], b4⟩
