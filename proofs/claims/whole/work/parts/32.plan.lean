/-! plans: a plan is a function ship number → at (6 * hour + place); ok, cost, the order by cost and then by the sequence -/
def pl_ok (n : Nat) (may : Nat → Nat → Bool) (cl : Nat → Nat → Nat → Nat → Bool) (f : Nat → Nat) : Prop := ∀ i, i < n → f i < 96 ∧ may i (f i) = true ∧ ∀ j, j < i → cl j (f j) i (f i) = false
def pl_tot (cost : Nat → Nat → Int) (f : Nat → Nat) : Nat → Int
  | 0 => 0
  | k + 1 => pl_tot cost f k + cost k (f k)
def pl_lx (n : Nat) (f g : Nat → Nat) : Prop := ∃ i, i < n ∧ (∀ j, j < i → f j = g j) ∧ f i < g i
theorem pl_tot_c {cost : Nat → Nat → Int} {f g : Nat → Nat} : ∀ {n : Nat}, (∀ i, i < n → f i = g i) → pl_tot cost f n = pl_tot cost g n
  | 0, _ => rfl
  | n + 1, h => by
    show pl_tot cost f n + cost n (f n) = pl_tot cost g n + cost n (g n)
    rw [pl_tot_c (fun i hi => h i (by omega)), h n (by omega)]
theorem pl_tri (f g : Nat → Nat) : ∀ n : Nat, pl_lx n f g ∨ pl_lx n g f ∨ ∀ i, i < n → f i = g i
  | 0 => Or.inr (Or.inr (fun i h => by omega))
  | n + 1 => by
    rcases pl_tri f g n with ⟨i, h1, h2, h3⟩ | ⟨i, h1, h2, h3⟩ | h
    · exact Or.inl ⟨i, by omega, h2, h3⟩
    · exact Or.inr (Or.inl ⟨i, by omega, h2, h3⟩)
    · rcases Nat.lt_trichotomy (f n) (g n) with q | q | q
      · exact Or.inl ⟨n, by omega, h, q⟩
      · exact Or.inr (Or.inr (fun i hi => by
          rcases Nat.lt_or_ge i n with z | z
          · exact h i z
          · rw [show i = n by omega]; exact q))
      · exact Or.inr (Or.inl ⟨n, by omega, fun j hj => (h j hj).symm, q⟩)
theorem pl_asym {n : Nat} {f g : Nat → Nat} (h : pl_lx n f g) : ¬ pl_lx n g f := by
  rintro ⟨i, h1, h2, h3⟩
  obtain ⟨k, g1, g2, g3⟩ := h
  rcases Nat.lt_trichotomy i k with q | q | q
  · have := g2 i q; omega
  · subst q; omega
  · have := h2 k q; omega
theorem pl_irr {n : Nat} {f g : Nat → Nat} (h : ∀ i, i < n → f i = g i) : ¬ pl_lx n f g := by
  rintro ⟨i, h1, h2, h3⟩
  have := h i h1; omega
theorem pl_tr {n : Nat} {f g h : Nat → Nat} (a : pl_lx n f g) (b : pl_lx n g h) : pl_lx n f h := by
  obtain ⟨i, h1, h2, h3⟩ := a
  obtain ⟨k, g1, g2, g3⟩ := b
  rcases Nat.lt_trichotomy i k with q | q | q
  · exact ⟨i, h1, fun j hj => (h2 j hj).trans (g2 j (by omega)), by rw [← g2 i q]; exact h3⟩
  · subst q; exact ⟨i, h1, fun j hj => (h2 j hj).trans (g2 j hj), by omega⟩
  · exact ⟨k, g1, fun j hj => (h2 j (by omega)).trans (g2 j hj), by rw [h2 k q]; exact g3⟩
theorem pl_eqL {n : Nat} {f g h : Nat → Nat} (e : ∀ i, i < n → f i = g i) (b : pl_lx n g h) : pl_lx n f h := by
  obtain ⟨i, h1, h2, h3⟩ := b
  exact ⟨i, h1, fun j hj => (e j (by omega)).trans (h2 j hj), by rw [e i h1]; exact h3⟩
theorem pl_eqR {n : Nat} {f g h : Nat → Nat} (e : ∀ i, i < n → g i = h i) (b : pl_lx n f g) : pl_lx n f h := by
  obtain ⟨i, h1, h2, h3⟩ := b
  exact ⟨i, h1, fun j hj => (h2 j hj).trans (e j (by omega)), by rw [← e i h1]; exact h3⟩
/-- not behind: transitive -/
theorem pl_ntr {n : Nat} {f g h : Nat → Nat} (a : ¬ pl_lx n h g) (b : ¬ pl_lx n g f) : ¬ pl_lx n h f := by
  intro q
  rcases pl_tri h g n with z | z | z
  · exact a z
  · exact b (pl_tr z q)
  · exact b (pl_eqL (fun i hi => (z i hi).symm) q)
/-- (b, g) is at least as good as the plan h -/
def pl_cov (n : Nat) (cost : Nat → Nat → Int) (b : Int) (g h : Nat → Nat) : Prop := b < pl_tot cost h n ∨ (b = pl_tot cost h n ∧ ¬ pl_lx n h g)
theorem pl_cov_tr {n : Nat} {cost : Nat → Nat → Int} {b : Int} {g g' h : Nat → Nat} (a : pl_cov n cost b g g') (c : pl_cov n cost (pl_tot cost g' n) g' h) : pl_cov n cost b g h := by
  rcases a with a | ⟨a, a2⟩
  · rcases c with c | ⟨c, -⟩
    · exact Or.inl (by omega)
    · exact Or.inl (by omega)
  · rcases c with c | ⟨c, c2⟩
    · exact Or.inl (by omega)
    · exact Or.inr ⟨by omega, pl_ntr c2 a2⟩
def pl_best (n : Nat) (may : Nat → Nat → Bool) (cl : Nat → Nat → Nat → Nat → Bool) (cost : Nat → Nat → Int) (f : Nat → Nat) : Prop := pl_ok n may cl f ∧ ∀ h, pl_ok n may cl h → pl_cov n cost (pl_tot cost f n) f h
theorem pl_one {n : Nat} {may : Nat → Nat → Bool} {cl : Nat → Nat → Nat → Nat → Bool} {cost : Nat → Nat → Int} {f g : Nat → Nat} (hf : pl_best n may cl cost f) (hg : pl_ok n may cl g) (hc : pl_cov n cost (pl_tot cost g n) g f) : ∀ i, i < n → f i = g i := by
  rcases hf.2 g hg with a | ⟨a, a2⟩ <;> rcases hc with c | ⟨c, c2⟩
  · omega
  · omega
  · omega
  · rcases pl_tri f g n with z | z | z
    · exact absurd z c2
    · exact absurd z a2
    · exact z
/-- which plans lie ahead of the prefix f below s and of at there -/
def pl_B (s : Nat) (f : Nat → Nat) (at_ : Nat) (h : Nat → Nat) : Prop := (∃ i, i < s ∧ (∀ j, j < i → h j = f j) ∧ h i < f i) ∨ ((∀ j, j < s → h j = f j) ∧ h s < at_)
/-- the state of the reference's search: the best of what lies ahead -/
def pl_G (n : Nat) (may : Nat → Nat → Bool) (cl : Nat → Nat → Nat → Nat → Bool) (cost : Nat → Nat → Int) (E : (Nat → Nat) → Prop) (b : Int) (g : Nat → Nat) : Prop :=
  (b = 1000000000 ∧ ∀ h, pl_ok n may cl h → ¬ E h) ∨ (b < 1000000000 ∧ pl_ok n may cl g ∧ E g ∧ pl_tot cost g n = b ∧ ∀ h, pl_ok n may cl h → E h → pl_cov n cost b g h)
theorem pl_G_c {n : Nat} {may : Nat → Nat → Bool} {cl : Nat → Nat → Nat → Nat → Bool} {cost : Nat → Nat → Int} {E E' : (Nat → Nat) → Prop} {b : Int} {g : Nat → Nat} (h : pl_G n may cl cost E b g) (e : ∀ x, pl_ok n may cl x → (E x ↔ E' x)) : pl_G n may cl cost E' b g := by
  rcases h with ⟨h1, h2⟩ | ⟨h1, h2, h3, h4, h5⟩
  · exact Or.inl ⟨h1, fun x hx hE => h2 x hx ((e x hx).mpr hE)⟩
  · exact Or.inr ⟨h1, h2, (e g h2).mp h3, h4, fun x hx hE => h5 x hx ((e x hx).mpr hE)⟩
theorem pl_B_step {s at_ : Nat} {f h : Nat → Nat} : pl_B s f (at_ + 1) h ↔ pl_B s f at_ h ∨ ((∀ j, j < s → h j = f j) ∧ h s = at_) := by
  constructor
  · rintro (q | ⟨q, r⟩)
    · exact Or.inl (Or.inl q)
    · rcases Nat.lt_or_ge (h s) at_ with z | z
      · exact Or.inl (Or.inr ⟨q, z⟩)
      · exact Or.inr ⟨q, by omega⟩
  · rintro ((q | ⟨q, r⟩) | ⟨q, r⟩)
    · exact Or.inl q
    · exact Or.inr ⟨q, by omega⟩
    · exact Or.inr ⟨q, by omega⟩
theorem pl_B_in {s at_ : Nat} {f h : Nat → Nat} : pl_B (s + 1) (va_up f s at_) 0 h ↔ pl_B s f at_ h := by
  have hu : ∀ j, j < s → va_up f s at_ j = f j := fun j hj => va_up_ne f at_ (by omega)
  constructor
  · rintro (⟨i, h1, h2, h3⟩ | ⟨q, r⟩)
    · rcases Nat.lt_or_ge i s with z | z
      · exact Or.inl ⟨i, z, fun j hj => (h2 j hj).trans (hu j (by omega)), by rw [← hu i z]; exact h3⟩
      · have : i = s := by omega
        subst this
        exact Or.inr ⟨fun j hj => (h2 j hj).trans (hu j hj), by simpa [va_up] using h3⟩
    · omega
  · rintro (⟨i, h1, h2, h3⟩ | ⟨q, r⟩)
    · exact Or.inl ⟨i, by omega, fun j hj => (h2 j hj).trans (hu j (by omega)).symm, by rw [hu i h1]; exact h3⟩
    · exact Or.inl ⟨s, by omega, fun j hj => (q j hj).trans (hu j hj).symm, by simpa [va_up] using r⟩
theorem pl_B_out {n : Nat} {may : Nat → Nat → Bool} {cl : Nat → Nat → Nat → Nat → Bool} {s at_ : Nat} {f h : Nat → Nat} (hs : s + 1 < n) (hok : pl_ok n may cl h) : pl_B (s + 1) (va_up f s at_) 96 h ↔ pl_B s f (at_ + 1) h := by
  have hu : ∀ j, j < s → va_up f s at_ j = f j := fun j hj => va_up_ne f at_ (by omega)
  have hus : va_up f s at_ s = at_ := by simp [va_up]
  constructor
  · rintro (q | ⟨q, r⟩)
    · exact pl_B_step.mpr (Or.inl (pl_B_in.mp (Or.inl q)))
    · exact pl_B_step.mpr (Or.inr ⟨fun j hj => (q j (by omega)).trans (hu j hj), (q s (by omega)).trans hus⟩)
  · intro q
    rcases pl_B_step.mp q with z | ⟨z, r⟩
    · rcases pl_B_in.mpr z with w | ⟨-, w2⟩
      · exact Or.inl w
      · omega
    · exact Or.inr ⟨fun j hj => by
        rcases Nat.lt_or_ge j s with y | y
        · rw [hu j y]; exact z j y
        · rw [show j = s by omega, hus]; exact r, (hok (s + 1) hs).1⟩
/-- what is ahead comes before what is at the place -/
theorem pl_B_lx {n s at_ : Nat} {f g h : Nat → Nat} (hs : s < n) (hg : pl_B s f at_ g) (hh : ∀ j, j < s → h j = f j) (ha : h s = at_) : pl_lx n g h := by
  rcases hg with ⟨i, h1, h2, h3⟩ | ⟨q, r⟩
  · exact ⟨i, by omega, fun j hj => (h2 j hj).trans (hh j (by omega)).symm, by rw [hh i h1]; exact h3⟩
  · exact ⟨s, hs, fun j hj => (q j hj).trans (hh j hj).symm, by omega⟩
/-- passed over: no plan there, or none that is better -/
theorem pl_skip {n : Nat} {may : Nat → Nat → Bool} {cl : Nat → Nat → Nat → Nat → Bool} {cost : Nat → Nat → Int} {s at_ : Nat} {f g : Nat → Nat} {b : Int} (hs : s < n) (hG : pl_G n may cl cost (pl_B s f at_) b g) (hfar : ∀ h, pl_ok n may cl h → pl_tot cost h n < 1000000000) (hno : ∀ h, pl_ok n may cl h → (∀ j, j < s → h j = f j) → h s = at_ → b ≤ pl_tot cost h n) : pl_G n may cl cost (pl_B s f (at_ + 1)) b g := by
  rcases hG with ⟨h1, h2⟩ | ⟨h1, h2, h3, h4, h5⟩
  · refine Or.inl ⟨h1, fun h hok hB => ?_⟩
    rcases pl_B_step.mp hB with q | ⟨q, r⟩
    · exact h2 h hok q
    · have a := hno h hok q r
      have c := hfar h hok
      omega
  · refine Or.inr ⟨h1, h2, pl_B_step.mpr (Or.inl h3), h4, fun h hok hB => ?_⟩
    rcases pl_B_step.mp hB with q | ⟨q, r⟩
    · exact h5 h hok q
    · have a := hno h hok q r
      rcases Int.lt_or_eq_of_le a with z | z
      · exact Or.inl z
      · exact Or.inr ⟨z, pl_asym (pl_B_lx hs h3 q r)⟩
/-- a whole plan that is better -/
theorem pl_leaf {n : Nat} {may : Nat → Nat → Bool} {cl : Nat → Nat → Nat → Nat → Bool} {cost : Nat → Nat → Int} {s at_ : Nat} {f g : Nat → Nat} {b : Int} (hs : s + 1 = n) (hG : pl_G n may cl cost (pl_B s f at_) b g) (hok : pl_ok n may cl (va_up f s at_)) (hlt : pl_tot cost (va_up f s at_) n < b) (hb : b ≤ 1000000000) : pl_G n may cl cost (pl_B s f (at_ + 1)) (pl_tot cost (va_up f s at_) n) (va_up f s at_) := by
  have hu : ∀ j, j < s → va_up f s at_ j = f j := fun j hj => va_up_ne f at_ (by omega)
  have hus : va_up f s at_ s = at_ := by simp [va_up]
  refine Or.inr ⟨by omega, hok, pl_B_step.mpr (Or.inr ⟨hu, hus⟩), rfl, fun h hh hB => ?_⟩
  rcases pl_B_step.mp hB with q | ⟨q, r⟩
  · rcases hG with ⟨h1, h2⟩ | ⟨h1, h2, h3, h4, h5⟩
    · exact absurd q (h2 h hh)
    · rcases h5 h hh q with z | ⟨z, -⟩
      · exact Or.inl (by omega)
      · exact Or.inl (by omega)
  · have e : ∀ i, i < n → va_up f s at_ i = h i := fun i hi => by
      rcases Nat.lt_or_ge i s with z | z
      · rw [hu i z]; exact (q i z).symm
      · rw [show i = s by omega, hus]; exact r.symm
    exact Or.inr ⟨pl_tot_c e, pl_irr (fun i hi => (e i hi).symm)⟩
