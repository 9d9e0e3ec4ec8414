/-! the relation by its parts -/
def RA (M : Mem) : Prop := (1 ≤ vv M 16 1 ∧ vv M 16 1 ≤ 6) ∧ vv M 1 0 = vv M 16 1
def RB (M : Mem) : Prop := (0 ≤ vv M 16 2 ∧ vv M 16 2 ≤ 4) ∧ vv M 0 3 = vv M 16 2
def RC (M : Mem) : Prop := ∀ j, j < 6 → 0 ≤ vv M 17 j ∧ vv M 17 j ≤ 100 ∧ vv M 2 j = vv M 17 j
def RD (M : Mem) : Prop := ∀ j, j < 6 → 0 ≤ vv M 18 j ∧ vv M 18 j < 256 ∧ vv M 3 j = vv M 18 j
def RT (M : Mem) : Prop := ((0 ≤ vv M 16 3 ∧ vv M 16 3 ≤ 8) ∧ vv M 1 4 = vv M 16 3) ∧ (∀ k, k < 8 → 0 ≤ vv M 19 k ∧ vv M 19 k ≤ 39 ∧ 0 ≤ vv M 20 k ∧ vv M 20 k ≤ 39) ∧ 0 ≤ vv M 1 3 ∧ vv M 1 3 < 65536 ∧ ∀ h : Nat, h < 16 → ((vv M 1 3).toNat.testBit h = true ↔ ∃ k : Nat, (k : Int) < vv M 16 3 ∧ vv M 19 k ≤ h ∧ (h : Int) ≤ vv M 20 k)
def RS (M : Mem) : Prop := ∀ i, i < 4 → ((0 ≤ vv M 21 i ∧ vv M 21 i ≤ 6) ∧ (0 ≤ vv M 22 i ∧ vv M 22 i ≤ 100) ∧ (0 ≤ vv M 23 i ∧ vv M 23 i ≤ 24) ∧ (0 ≤ vv M 24 i ∧ vv M 24 i ≤ 15) ∧ (0 ≤ vv M 25 i ∧ vv M 25 i ≤ 100)) ∧ vv M (5 + i) 0 = vv M 21 i ∧ vv M (5 + i) 1 = vv M 22 i ∧ vv M (5 + i) 2 = vv M 23 i ∧ vv M (5 + i) 3 = vv M 24 i ∧ vv M (5 + i) 4 = vv M 25 i
def RW (M : Mem) : Prop := ∀ i, i < 4 → 0 ≤ vv M 26 i ∧ vv M 26 i < 256 ∧ vv M (5 + i) 5 = vv M 26 i
def RFx (M : Mem) : Prop := ∀ i, i < 4 → (vv M (5 + i) 6 = 0 ∧ vv M 27 i = -1) ∨ (vv M (5 + i) 6 = 1 ∧ vv M 27 i = 6 * vv M (5 + i) 8 + vv M (5 + i) 7 ∧ 0 ≤ vv M (5 + i) 7 ∧ vv M (5 + i) 7 ≤ 5 ∧ vv M (5 + i) 7 + vv M 21 i ≤ vv M 16 1 ∧ 0 ≤ vv M (5 + i) 8 ∧ vv M (5 + i) 8 ≤ 15)
def RO (M : Mem) : Prop := ∀ i : Nat, (i : Int) < vv M 16 2 → 1 ≤ vv M 21 i ∧ 1 ≤ vv M 23 i ∧ 1 ≤ vv M 25 i
def Rn (M : Mem) : Prop := RA M ∧ RB M ∧ RC M ∧ RD M ∧ RT M ∧ RS M ∧ RW M ∧ RFx M ∧ RO M
theorem Re.rn {M : Mem} (h : Re M) : Rn M := by
  obtain ⟨⟨m1, m2, m3, m4, m5, m6⟩, -, ⟨a1, a2, a3⟩, b, c, d, e, f⟩ := h
  exact ⟨⟨m1, a2⟩, ⟨m2, a1⟩, fun j hj => ⟨(m4 j hj).1, (m4 j hj).2.1, (b j hj).1⟩, fun j hj => ⟨(m4 j hj).2.2.1, (m4 j hj).2.2.2, (b j hj).2⟩, ⟨⟨m3, a3⟩, m5, e⟩, fun i hi => ⟨⟨(m6 i hi).1, (m6 i hi).2.1, (m6 i hi).2.2.1, (m6 i hi).2.2.2.1, (m6 i hi).2.2.2.2.1⟩, (c i hi).1, (c i hi).2.1, (c i hi).2.2.1, (c i hi).2.2.2.1, (c i hi).2.2.2.2.1⟩, fun i hi => ⟨(m6 i hi).2.2.2.2.2.1.1, (m6 i hi).2.2.2.2.2.1.2, (c i hi).2.2.2.2.2⟩, d, f⟩
theorem Rn.re {M : Mem} (h : Rn M) : Re M := by
  obtain ⟨⟨a1, a2⟩, ⟨b1, b2⟩, c, d, ⟨⟨t1, t2⟩, t3, t4⟩, s, w, f, o⟩ := h
  refine ⟨⟨a1, b1, t1, fun j hj => ⟨(c j hj).1, (c j hj).2.1, (d j hj).1, (d j hj).2.1⟩, t3, fun i hi => ?_⟩, ⟨by rw [a2]; exact a1, fun j hj => ?_⟩, ⟨b2, a2, t2⟩, fun j hj => ⟨(c j hj).2.2, (d j hj).2.2⟩, fun i hi => ?_, f, t4, o⟩
  · have h1 := s i hi
    have h2 := w i hi
    have h3 := f i hi
    refine ⟨h1.1.1, h1.1.2.1, h1.1.2.2.1, h1.1.2.2.2.1, h1.1.2.2.2.2, ⟨h2.1, h2.2.1⟩, ?_⟩
    rcases h3 with ⟨q1, q2⟩ | ⟨q1, q2, q3, q4, q5, q6, q7⟩ <;> omega
  · have h1 := c j hj
    have h2 := d j hj
    omega
  · have h1 := s i hi
    have h2 := w i hi
    exact ⟨h1.2.1, h1.2.2.1, h1.2.2.2.1, h1.2.2.2.2.1, h1.2.2.2.2.2, h2.2.2⟩
/-- the plan that both hold, if there is one -/
def Pn (M : Mem) : Prop := vv M 0 4 = vv M 16 4 ∧ (vv M 16 4 = 0 ∨ (vv M 16 4 = 1 ∧ ∃ g : Nat → Nat, ∀ i : Nat, (i : Int) < vv M 16 2 → g i < 96 ∧ vv M 28 i = g i ∧ vv M (5 + i) 9 = ((g i % 6 : Nat) : Int) ∧ vv M (5 + i) 10 = ((g i / 6 : Nat) : Int) ∧ ∀ j : Nat, (j : Int) < vv M 16 2 → j ≠ i → ¬ rMeet M i (g i) j (g j)))
/-- no ship beyond the count is fixed -/
def Un (M : Mem) : Prop := ∀ i : Nat, i < 4 → vv M 16 2 ≤ i → vv M 27 i = -1
def Inv (M : Mem) : Prop := Rn M ∧ Un M ∧ Pn M
theorem Un.t {M M' : Mem} (h : Un M) (e1 : vv M' 16 2 = vv M 16 2) (e : ∀ i, i < 4 → vv M' 27 i = vv M 27 i) : Un M' := fun i hi h4 => by
  rw [e1] at h4
  rw [e i hi]; exact h i hi h4
theorem RA.t {M M' : Mem} (h : RA M) (e1 : vv M' 16 1 = vv M 16 1) (e2 : vv M' 1 0 = vv M 1 0) : RA M' := by unfold RA at h ⊢; rw [e1, e2]; exact h
theorem RB.t {M M' : Mem} (h : RB M) (e1 : vv M' 16 2 = vv M 16 2) (e2 : vv M' 0 3 = vv M 0 3) : RB M' := by unfold RB at h ⊢; rw [e1, e2]; exact h
theorem RC.t {M M' : Mem} (h : RC M) (e : ∀ j, j < 6 → vv M' 17 j = vv M 17 j ∧ vv M' 2 j = vv M 2 j) : RC M' := fun j hj => by rw [(e j hj).1, (e j hj).2]; exact h j hj
theorem RD.t {M M' : Mem} (h : RD M) (e : ∀ j, j < 6 → vv M' 18 j = vv M 18 j ∧ vv M' 3 j = vv M 3 j) : RD M' := fun j hj => by rw [(e j hj).1, (e j hj).2]; exact h j hj
theorem RT.t {M M' : Mem} (h : RT M) (e1 : vv M' 16 3 = vv M 16 3) (e2 : vv M' 1 4 = vv M 1 4) (e3 : vv M' 1 3 = vv M 1 3) (e : ∀ k, vv M' 19 k = vv M 19 k ∧ vv M' 20 k = vv M 20 k) : RT M' := by
  unfold RT at h ⊢
  rw [e1, e2, e3]
  simp only [(e _).1, (e _).2]
  exact h
theorem RS.t {M M' : Mem} (h : RS M) (e : ∀ i, i < 4 → vv M' 21 i = vv M 21 i ∧ vv M' 22 i = vv M 22 i ∧ vv M' 23 i = vv M 23 i ∧ vv M' 24 i = vv M 24 i ∧ vv M' 25 i = vv M 25 i ∧ vv M' (5 + i) 0 = vv M (5 + i) 0 ∧ vv M' (5 + i) 1 = vv M (5 + i) 1 ∧ vv M' (5 + i) 2 = vv M (5 + i) 2 ∧ vv M' (5 + i) 3 = vv M (5 + i) 3 ∧ vv M' (5 + i) 4 = vv M (5 + i) 4) : RS M' := fun i hi => by
  obtain ⟨e1, e2, e3, e4, e5, e6, e7, e8, e9, e10⟩ := e i hi
  rw [e1, e2, e3, e4, e5, e6, e7, e8, e9, e10]; exact h i hi
theorem RW.t {M M' : Mem} (h : RW M) (e : ∀ i, i < 4 → vv M' 26 i = vv M 26 i ∧ vv M' (5 + i) 5 = vv M (5 + i) 5) : RW M' := fun i hi => by rw [(e i hi).1, (e i hi).2]; exact h i hi
theorem RFx.t {M M' : Mem} (h : RFx M) (e0 : vv M' 16 1 = vv M 16 1) (e : ∀ i, i < 4 → vv M' 27 i = vv M 27 i ∧ vv M' 21 i = vv M 21 i ∧ vv M' (5 + i) 6 = vv M (5 + i) 6 ∧ vv M' (5 + i) 7 = vv M (5 + i) 7 ∧ vv M' (5 + i) 8 = vv M (5 + i) 8) : RFx M' := fun i hi => by
  obtain ⟨e1, e2, e3, e4, e5⟩ := e i hi
  rw [e0, e1, e2, e3, e4, e5]; exact h i hi
theorem RO.t {M M' : Mem} (h : RO M) (e1 : vv M' 16 2 = vv M 16 2) (e : ∀ i, vv M' 21 i = vv M 21 i ∧ vv M' 23 i = vv M 23 i ∧ vv M' 25 i = vv M 25 i) : RO M' := fun i hi => by
  rw [e1] at hi
  obtain ⟨q1, q2, q3⟩ := e i
  rw [q1, q2, q3]; exact h i hi
/-- the same but for what was thrown and the searcher -/
def Zf (M M' : Mem) : Prop := (∀ c, c < 9 → M' c = M c) ∧ (∀ c, 17 ≤ c → c < 29 → M' c = M c) ∧ ∀ k, 0 < k → M' 16 k = M 16 k
theorem Zf.v {M M' : Mem} (h : Zf M M') {c k : Nat} (hc : c < 9 ∨ (17 ≤ c ∧ c < 29) ∨ (c = 16 ∧ 0 < k)) : vv M' c k = vv M c k := by
  unfold vv
  rcases hc with q | q | ⟨rfl, q⟩
  · rw [h.1 c q]
  · rw [h.2.1 c q.1 q.2]
  · rw [h.2.2 k q]
theorem Zf.rn {M M' : Mem} (h : Zf M M') (hR : Rn M) : Rn M' := by
  obtain ⟨a, b, c, d, t, s, w, f, o⟩ := hR
  exact ⟨a.t (h.v (by omega)) (h.v (by omega)), b.t (h.v (by omega)) (h.v (by omega)), c.t (fun j _ => ⟨h.v (by omega), h.v (by omega)⟩), d.t (fun j _ => ⟨h.v (by omega), h.v (by omega)⟩), t.t (h.v (by omega)) (h.v (by omega)) (h.v (by omega)) (fun k => ⟨h.v (by omega), h.v (by omega)⟩), s.t (fun i hi => ⟨h.v (by omega), h.v (by omega), h.v (by omega), h.v (by omega), h.v (by omega), h.v (by omega), h.v (by omega), h.v (by omega), h.v (by omega), h.v (by omega)⟩), w.t (fun i hi => ⟨h.v (by omega), h.v (by omega)⟩), f.t (h.v (by omega)) (fun i hi => ⟨h.v (by omega), h.v (by omega), h.v (by omega), h.v (by omega), h.v (by omega)⟩), o.t (h.v (by omega)) (fun i => ⟨h.v (by omega), h.v (by omega), h.v (by omega)⟩)⟩
theorem Zf.meet {M M' : Mem} (h : Zf M M') (s a t b : Nat) : rMeet M' s a t b ↔ rMeet M s a t b := by
  unfold rMeet
  rw [h.v (c := 21) (k := s) (by omega), h.v (c := 21) (k := t) (by omega), h.v (c := 23) (k := s) (by omega), h.v (c := 23) (k := t) (by omega)]
theorem Zf.may {M M' : Mem} (h : Zf M M') (i a : Nat) : rMay M' i a ↔ rMay M i a := by
  have v : ∀ c k, 17 ≤ c → c < 29 → vv M' c k = vv M c k := fun c k q1 q2 => h.v (by omega)
  have v1 : vv M' 16 1 = vv M 16 1 := h.v (by omega)
  have v3 : vv M' 16 3 = vv M 16 3 := h.v (by omega)
  unfold rMay rTide rDeep rGear
  simp only [v1, v3, v 17 _ (by decide) (by decide), v 18 _ (by decide) (by decide), v 19 _ (by decide) (by decide), v 20 _ (by decide) (by decide), v 21 _ (by decide) (by decide), v 22 _ (by decide) (by decide), v 24 _ (by decide) (by decide), v 26 _ (by decide) (by decide), v 27 _ (by decide) (by decide)]
theorem Zf.inv {M M' : Mem} (h : Zf M M') (hI : Inv M) : Inv M' := by
  refine ⟨h.rn hI.1, hI.2.1.t (h.v (by omega)) (fun i hi => h.v (by omega)), ?_⟩
  obtain ⟨p1, p2⟩ := hI.2.2
  have hb := hI.1.2.1
  refine ⟨by rw [h.v (by omega), h.v (by omega)]; exact p1, ?_⟩
  rw [h.v (by omega)]
  rcases p2 with q | ⟨q, g, hg⟩
  · exact Or.inl q
  · refine Or.inr ⟨q, g, fun i hi => ?_⟩
    rw [h.v (by omega)] at hi
    have h4 := hb.1.2
    obtain ⟨g1, g2, g3, g4, g5⟩ := hg i hi
    refine ⟨g1, by rw [h.v (by omega)]; exact g2, by rw [h.v (by omega)]; exact g3, by rw [h.v (by omega)]; exact g4, fun j hj hne => ?_⟩
    rw [h.v (by omega)] at hj
    rw [h.meet]
    exact g5 j hj hne
theorem Zf.r (M : Mem) : Zf M M := ⟨fun _ _ => rfl, fun _ _ _ => rfl, fun _ _ => rfl⟩
theorem Zf.tr {M M1 M2 : Mem} (a : Zf M M1) (b : Zf M1 M2) : Zf M M2 := ⟨fun c hc => (b.1 c hc).trans (a.1 c hc), fun c h1 h2 => (b.2.1 c h1 h2).trans (a.2.1 c h1 h2), fun k hk => (b.2.2 k hk).trans (a.2.2 k hk)⟩
theorem Zf.w {M : Mem} (x : Int32) : Zf M (mw M 16 0 x) := ⟨fun c hc => mw_n M (by omega) .., fun c h1 h2 => mw_n M (by omega) .., fun k hk => mw_o M _ (by omega)⟩
theorem Sf.zf {M M' : Mem} (h : Sf M M') : Zf M M' := ⟨fun c hc => h c (by omega), fun c h1 h2 => h c (by omega), fun k hk => by rw [h 16 (by omega)]⟩
/-- the plan taken back -/
theorem Pn.no {M : Mem} (h1 : vv M 0 4 = 0) (h2 : vv M 16 4 = 0) : Pn M := ⟨by rw [h1, h2], Or.inl h2⟩
theorem v0 (M : Mem) : vv M = fun c k => (M c k).toInt := rfl
theorem vz (M : Mem) (c k : Nat) {z : Int} (h : M c k = zI z) (h1 : -2147483648 ≤ z) (h2 : z < 2147483648) : vv M c k = z := by unfold vv; rw [h, z_t h1 h2]
theorem vmw (M : Mem) (c k : Nat) (x : Int32) (c' k' : Nat) : vv (mw M c k x) c' k' = if c' = c ∧ k' = k then x.toInt else vv M c' k' := by
  unfold vv
  rw [mw_at]
  split <;> rfl
theorem vmo (M : Mem) {c k c' k' : Nat} (x : Int32) (h : ¬ (c' = c ∧ k' = k)) : vv (mw M c k x) c' k' = vv M c' k' := by rw [vmw, if_neg h]
theorem vmi (M : Mem) (c k : Nat) (x : Int32) : vv (mw M c k x) c k = x.toInt := by rw [vmw, if_pos ⟨rfl, rfl⟩]
theorem t0 : (0 : Int32).toInt = 0 := by decide
theorem t1 : (1 : Int32).toInt = 1 := by decide
