/-! the world of both systems as ONE memory: 32 cells by number (0..15 the planner, 16..30 the reference, 31 the row of one long); ints are rows of the memory, references never change but one, by a flag -/
abbrev Mem : Type := Nat → Nat → Int32
def mw (M : Mem) (c k : Nat) (v : Int32) : Mem := fun c' => if c' = c then upd (M c) k v else M c'
theorem mw_s (M : Mem) (c k : Nat) (v : Int32) : mw M c k v c = upd (M c) k v := if_pos rfl
theorem mw_n (M : Mem) {c k j : Nat} {v : Int32} (h : j ≠ c) : mw M c k v j = M j := if_neg h
def Ab (B : Nat) : Nat → Prop := fun q => B ≤ q
def sfs (f : Nat → Int32) : List Value := [.int (f 0), .int (f 1), .int (f 2), .int (f 3), .int (f 4), .int (f 5), .int (f 6), .int (f 7), .int (f 8), .int (f 9), .int (f 10)]
def iar (c : ClassId) (n : Nat) (f : Nat → Int32) : va_E := .inl (c, n, .inl f)
def rar (c : ClassId) (n : Nat) (f : Nat → Option Nat) : va_E := .inl (c, n, .inr (.inr (.inr (.inr f))))
def cellOf (ad : Nat → Nat) (ca : Nat → ClassId) (ov : Int64) (k : Nat) (f : Nat → Int32) : va_E := match k with
  | 0 => .inr (3, [.ref (ad 1), .ref (ad 4), .ref (ad 9), .int (f 3), .int (f 4)])
  | 1 => .inr (0, [.int (f 0), .ref (ad 2), .ref (ad 3), .int (f 3), .int (f 4)])
  | 2 => .inl (ca 2, 6, .inl f)
  | 3 => .inl (ca 3, 6, .inl f)
  | 4 => .inl (ca 4, 4, .inr (.inr (.inr (.inr (fun j => if j < 4 then some (ad (5 + j)) else none)))))
  | 5 => .inr (2, sfs f)
  | 6 => .inr (2, sfs f)
  | 7 => .inr (2, sfs f)
  | 8 => .inr (2, sfs f)
  | 9 => .inr (1, [.ref (ad 10), .ref (ad 11), .ref (ad 12), .ref (ad 13), .ref (ad 14), .ref (ad (if f 5 = 0 then 15 else 4)), .int (f 6), .int (f 7), .int (f 8)])
  | 10 => .inl (ca 10, 96, .inl f)
  | 11 => .inl (ca 11, 4, .inl f)
  | 12 => .inl (ca 12, 4, .inl f)
  | 13 => .inl (ca 13, 4, .inl f)
  | 14 => .inl (ca 14, 4, .inl f)
  | 15 => .inl (ca 15, 0, .inr (.inr (.inr (.inr (fun _ => none)))))
  | 16 => .inr (4, [.int (f 0), .int (f 1), .int (f 2), .int (f 3), .int (f 4), .ref (ad 17), .ref (ad 18), .ref (ad 19), .ref (ad 20), .ref (ad 21), .ref (ad 22), .ref (ad 23), .ref (ad 24), .ref (ad 25), .ref (ad 26), .ref (ad 27), .ref (ad 28), .ref (ad 29), .ref (ad 30)])
  | 17 => .inl (ca 17, 6, .inl f)
  | 18 => .inl (ca 18, 6, .inl f)
  | 19 => .inl (ca 19, 8, .inl f)
  | 20 => .inl (ca 20, 8, .inl f)
  | 21 => .inl (ca 21, 4, .inl f)
  | 22 => .inl (ca 22, 4, .inl f)
  | 23 => .inl (ca 23, 4, .inl f)
  | 24 => .inl (ca 24, 4, .inl f)
  | 25 => .inl (ca 25, 4, .inl f)
  | 26 => .inl (ca 26, 4, .inl f)
  | 27 => .inl (ca 27, 4, .inl f)
  | 28 => .inl (ca 28, 4, .inl f)
  | 29 => .inl (ca 29, 4, .inl f)
  | 30 => .inl (ca 30, 5, .inl f)
  | _ => .inl (ca 31, 1, .inr (.inl (fun j => if j = 0 then ov else 0)))
def wld (ad : Nat → Nat) (ca : Nat → ClassId) (M : Mem) (ov : Int64) : va_W := (List.range 32).map (fun k => (ad k, cellOf ad ca ov k (M k)))
def tysL (ca : Nat → ClassId) : List (ClassId × FieldType) := [(ca 2, .int), (ca 3, .int), (ca 4, .object RX2), (ca 10, .int), (ca 11, .int), (ca 12, .int), (ca 13, .int), (ca 14, .int), (ca 15, .object RX2), (ca 17, .int), (ca 18, .int), (ca 19, .int), (ca 20, .int), (ca 21, .int), (ca 22, .int), (ca 23, .int), (ca 24, .int), (ca 25, .int), (ca 26, .int), (ca 27, .int), (ca 28, .int), (ca 29, .int), (ca 30, .int), (ca 31, .long)]
def sh (c : Nat) : Prop := 5 ≤ c ∧ c < 9
theorem cell_sh {ad : Nat → Nat} {ca : Nat → ClassId} {ov : Int64} {c : Nat} (h : sh c) (f : Nat → Int32) : cellOf ad ca ov c f = .inr (2, sfs f) := by
  obtain ⟨h1, h2⟩ := h
  rcases (show c = 5 ∨ c = 6 ∨ c = 7 ∨ c = 8 by omega) with rfl | rfl | rfl | rfl <;> rfl
theorem sh_lt {c : Nat} (h : sh c) : c < 32 := Nat.lt_of_lt_of_le h.2 (by decide)
theorem sh_in {i : Int32} (h : vp_in i 4) : sh (5 + i.toNatClampNeg) := by
  have hlt : i.toNatClampNeg < 4 := Nat.not_le.mp fun q => h (Or.inr q)
  exact ⟨by omega, by omega⟩
theorem wld_get {ad : Nat → Nat} {ca : Nat → ClassId} {M : Mem} {ov : Int64} {k : Nat} (hk : k < 32) : (wld ad ca M ov)[k]? = some (ad k, cellOf ad ca ov k (M k)) := by
  simp [wld, hk]
theorem wld_at {ad : Nat → Nat} {ca : Nat → ClassId} {M : Mem} {ov : Int64} {k : Nat} {e : va_E} (hk : k < 32) (he : cellOf ad ca ov k (M k) = e) : (wld ad ca M ov)[k]? = some (ad k, e) := by
  rw [wld_get hk, he]
theorem wld_set {ad : Nat → Nat} {ca : Nat → ClassId} {M : Mem} {ov : Int64} {c k : Nat} {v : Int32} {e : va_E} (hc : c < 32) (he : cellOf ad ca ov c (upd (M c) k v) = e) : (wld ad ca M ov).set c (ad c, e) = wld ad ca (mw M c k v) ov := by
  apply List.ext_getElem?
  intro j
  rw [List.getElem?_set]
  have hlen : (wld ad ca M ov).length = 32 := by simp [wld]
  by_cases h : c = j
  · subst h
    rw [if_pos rfl, if_pos (by rw [hlen]; exact hc), wld_get hc, mw_s, he]
  · rw [if_neg h]
    by_cases hj : j < 32
    · rw [wld_get hj, wld_get hj, mw_n M (fun q => h q.symm)]
    · rw [List.getElem?_eq_none (by rw [hlen]; omega), List.getElem?_eq_none (by simp [wld]; omega)]
/-- what the tables say: the classes, the rows, the nest mates' links -/
def Kn (D : va_G) (ca : Nat → ClassId) (U : State) : Prop := va_K D vwCl (tysL ca) U ∧ va_Nw (.methodLinkNest RX0 30 yX3_beginsBetween RX3) U ∧ va_Nw (.methodLinkNest RX1 86 yX3_hasBit RX3) U ∧ va_Nw (.methodLinkNest RX1 114 yX3_beginsBetween RX3) U ∧ va_Nw (.methodLinkNest RX1 120 yX3_spansMeet RX3) U
theorem Kn.warm {D : va_G} {ca : Nat → ClassId} {s U : State} (hW : s.WarmedH U.vm) (h : Kn D ca s) : Kn D ca U := ⟨va_K.moved hW.alike h.1, h.2.1.warmM hW, h.2.2.1.warmM hW, h.2.2.2.1.warmM hW, h.2.2.2.2.warmM hW⟩
theorem Kn.same {D : va_G} {ca : Nat → ClassId} {s U : State} (hW : s.vm = U.vm) (h : Kn D ca s) : Kn D ca U := ⟨va_K.moved (by rw [hW]; exact Vm.Alike.refl _) h.1, h.2.1.same rfl hW, h.2.2.1.same rfl hW, h.2.2.2.1.same rfl hW, h.2.2.2.2.same rfl hW⟩
def Wp (D : va_G) (ad : Nat → Nat) (ca : Nat → ClassId) (B : Nat) (M : Mem) (ov : Int64) (H : Heap) : Prop := va_P D vwCl (wld ad ca M ov) H ∧ va_D (Ab B) (wld ad ca M ov)
def Wd (D : va_G) (ad : Nat → Nat) (ca : Nat → ClassId) (B : Nat) (M : Mem) (ov : Int64) (U : State) : Prop := B ≤ U.heap.size ∧ Wp D ad ca B M ov U.heap ∧ Kn D ca U
def Cu (D : va_G) (ad : Nat → Nat) (ca : Nat → ClassId) (B : Nat) (M : Mem) (ov : Int64) (s : State) (H : Heap) (locs : List Loc) : Prop := va_P D vwCl (wld ad ca M ov) H ∧ va_D (Ab B) (wld ad ca M ov) ∧ Kn D ca s ∧ va_S (Ab B) s.heap H locs ∧ B ≤ s.heap.size
theorem Wd.blind {D : va_G} {ad : Nat → Nat} {ca : Nat → ClassId} {B : Nat} {M : Mem} {ov : Int64} {As : List Value} : FrameBlind (va_Pc As (Wd D ad ca B M ov)) := fun a U g mk q => by
  obtain ⟨q0, q1, q2, q3⟩ := q
  exact ⟨q0, q1, q2, Kn.same (s := U) (U := U.calling g mk a) rfl q3⟩
theorem Cu.wd {D : va_G} {ad : Nat → Nat} {ca : Nat → ClassId} {B : Nat} {M : Mem} {ov : Int64} {s U : State} {H : Heap} {locs : List Loc} (h : Cu D ad ca B M ov s H locs) (hU : U.heap = H) (hW : s.WarmedH U.vm) : Wd D ad ca B M ov U := by
  obtain ⟨h1, h2, h3, h4, h5⟩ := h
  exact ⟨by rw [hU]; exact Nat.le_trans h5 h4.1, by rw [hU]; exact ⟨h1, h2⟩, h3.warm hW⟩
theorem Cu.of {D : va_G} {ad : Nat → Nat} {ca : Nat → ClassId} {B : Nat} {M : Mem} {ov : Int64} {s : State} (h : Wd D ad ca B M ov s) : Cu D ad ca B M ov s s.heap [] := ⟨h.2.1.1, h.2.1.2, h.2.2, va_S.rf, h.1⟩
def MtI (l : Launch) (D : va_G) (ad : Nat → Nat) (ca : Nat → ClassId) (B : Nat) (ov : Int64) (y : MethodName) (ws : List Cond) (rm : Room) (As : List Value) (M : Mem) (r0 : Int32) (M' : Mem) : Prop := Met l y ws rm (va_Pc As (Wd D ad ca B M ov)) (va_Qi (fun (r : Int32) (_ : Unit) => r = r0) (fun _ t => Wp D ad ca B M' ov t.heap) (Ab B)) 0 0 (Ab B)
def MtL (l : Launch) (D : va_G) (ad : Nat → Nat) (ca : Nat → ClassId) (B : Nat) (ov : Int64) (y : MethodName) (ws : List Cond) (rm : Room) (As : List Value) (M : Mem) (r0 : Int64) (M' : Mem) : Prop := Met l y ws rm (va_Pc As (Wd D ad ca B M ov)) (va_Ql (fun (r : Int64) (_ : Unit) => r = r0) (fun _ t => Wp D ad ca B M' ov t.heap) (Ab B)) 0 0 (Ab B)
def MtV (l : Launch) (D : va_G) (ad : Nat → Nat) (ca : Nat → ClassId) (B : Nat) (ov : Int64) (y : MethodName) (ws : List Cond) (rm : Room) (As : List Value) (M : Mem) (M' : Mem) : Prop := Met l y ws rm (va_Pc As (Wd D ad ca B M ov)) (va_Qv (fun (_ : Unit) => True) (fun _ t => Wp D ad ca B M' ov t.heap) (Ab B)) 0 0 (Ab B)
section MG
variable {p : Program} {l : Launch} {e : Env} {R : Room} {s : State} {m : MethodId} {args : Array Value} {below : List Frame} {meth : Method} {c : Code} {H : Heap} {locs : List Loc} {cells slots : Nat} {Q : State → Prop}
variable {cc : ByteArray} {pc : Nat} {ls : Array Slot} {rest : List Value} {D : va_G} {ad : Nat → Nat} {ca : Nat → ClassId} {B : Nat} {M : Mem} {ov : Int64}
theorem mg_get (hexec : p.tables.exec = Jvm.exec) (hb : c.code = cc) {own ref C : String} {T : u_T} {N ci index : Nat} {Ts : List Cond} (hts : ∀ w ∈ Ts, w.before args s = true) (hin : ∀ w ∈ u_ws C T N, w ∈ Ts) (hown : s.vm.findClass own = some m.cls) (hC : Cu D ad ca B M ov s H locs) (cn : Nat) {fs : List Value} (hcn : cn < 32) (he : cellOf ad ca ov cn (M cn) = .inr (ci, fs)) (hc : vwCl[ci]? = some (C, T, N)) (k : Nat) (hk : k < N) (hlink : (Cond.fieldLink own index ref (T k).2.1 (T k).2.2.1).before args s = true) (hsame : (T k).1 = ref) {v : Value} (hv : fs[k]? = some v) (hdg : decode cc pc = .ok (.getfield index, 3))
    (kk : W p l e R s m args below meth c H locs cells slots Q (F0 m (pc + 3) ls (v :: rest))) : W p l e R s m args below meth c H locs cells slots Q (F0 m pc ls (.ref (ad cn) :: rest)) :=
  va_get hexec hb hts hin hown hC.2.2.1.1 hC.1 cn (wld_at hcn he) hc k hk hlink (fun x h => by rw [← hsame]; exact h) hv hdg kk
theorem mg_put (hexec : p.tables.exec = Jvm.exec) (hb : c.code = cc) {own ref C : String} {T : u_T} {N ci index : Nat} {Ts : List Cond} (hts : ∀ w ∈ Ts, w.before args s = true) (hin : ∀ w ∈ u_ws C T N, w ∈ Ts) (ty0 : Nat → FieldType) (hty : ∀ k, k < N → parseFieldDescriptor (T k).2.2.1 = some (ty0 k)) (hnm : ∀ a, a < N → ∀ b, b < N → a ≠ b → (T a).2.1 ≠ (T b).2.1) (hown : s.vm.findClass own = some m.cls) (hC : Cu D ad ca B M ov s H locs) (cn : Nat) {fs : List Value} (hcn : cn < 32) (he : cellOf ad ca ov cn (M cn) = .inr (ci, fs)) (hc : vwCl[ci]? = some (C, T, N)) (k : Nat) (hk : k < N) (hlink : (Cond.fieldLink own index ref (T k).2.1 (T k).2.2.1).before args s = true) (hsame : (T k).1 = ref) (hfin : (T k).2.2.2 = false) {ty : FieldType} {v : Value} (hd : parseFieldDescriptor (T k).2.2.1 = some ty) (hn : narrow ty v = v) (hfit : fits ty v = true) (hl : k < fs.length) {x : Int32} (he2 : cellOf ad ca ov cn (upd (M cn) k x) = .inr (ci, fs.set k v))
    (hdg : decode cc pc = .ok (.putfield index, 3)) (kk : ∀ (H1 : Heap) (locs1 : List Loc), Cu D ad ca B (mw M cn k x) ov s H1 locs1 → W p l e R s m args below meth c H1 locs1 cells slots Q (F0 m (pc + 3) ls rest)) : W p l e R s m args below meth c H locs cells slots Q (F0 m pc ls (v :: .ref (ad cn) :: rest)) :=
  va_put hexec hb hts hin ty0 hty hnm hown hC.2.2.1.1 hC.1 hC.2.1 hC.2.2.2.1 cn (wld_at hcn he) hc k hk hlink (fun x h => by rw [← hsame]; exact h) hfin hd hn hfit hl hdg (fun H1 locs1 hP hD hS => by
    rw [wld_set hcn he2] at hP hD
    exact kk H1 locs1 ⟨hP, hD, hC.2.2.1, hS, hC.2.2.2.2⟩)
theorem mg_iald (hexec : p.tables.exec = Jvm.exec) (hb : c.code = cc) (hC : Cu D ad ca B M ov s H locs) (cn t0 : Nat) {n : Nat} {cA : ClassId} (hcn : cn < 32) (he : cellOf ad ca ov cn (M cn) = .inl (cA, n, .inl (M cn))) (ht : (tysL ca)[t0]? = some (cA, .int)) {i : Int32} (hin : vp_in i n) (hdg : decode cc pc = .ok (.iaload, 1))
    (kk : W p l e R s m args below meth c H locs cells slots Q (F0 m (pc + 1) ls (.int (M cn i.toNatClampNeg) :: rest))) : W p l e R s m args below meth c H locs cells slots Q (F0 m pc ls (.int i :: .ref (ad cn) :: rest)) :=
  va_iald hexec hb hC.2.2.1.1 hC.1 cn t0 (wld_at hcn he) ht hin hdg kk
theorem mg_iast (hexec : p.tables.exec = Jvm.exec) (hb : c.code = cc) (hC : Cu D ad ca B M ov s H locs) (cn t0 : Nat) {n : Nat} {cA : ClassId} (hcn : cn < 32) (he : ∀ f : Nat → Int32, cellOf ad ca ov cn f = .inl (cA, n, .inl f)) (ht : (tysL ca)[t0]? = some (cA, .int)) {i x : Int32} (hin : vp_in i n) (hdg : decode cc pc = .ok (.iastore, 1))
    (kk : ∀ (H1 : Heap) (locs1 : List Loc), Cu D ad ca B (mw M cn i.toNatClampNeg x) ov s H1 locs1 → W p l e R s m args below meth c H1 locs1 cells slots Q (F0 m (pc + 1) ls rest)) : W p l e R s m args below meth c H locs cells slots Q (F0 m pc ls (.int x :: .int i :: .ref (ad cn) :: rest)) :=
  va_iast hexec hb hC.2.2.1.1 hC.1 hC.2.1 hC.2.2.2.1 cn t0 (wld_at hcn (he _)) ht hin hdg (fun H1 locs1 hP hD hS => by
    rw [wld_set hcn (he _)] at hP hD
    exact kk H1 locs1 ⟨hP, hD, hC.2.2.1, hS, hC.2.2.2.2⟩)
theorem mg_aald (hexec : p.tables.exec = Jvm.exec) (hb : c.code = cc) (hC : Cu D ad ca B M ov s H locs) {i : Int32} (hin : vp_in i 4) (hdg : decode cc pc = .ok (.aaload, 1))
    (kk : W p l e R s m args below meth c H locs cells slots Q (F0 m (pc + 1) ls (.ref (ad (5 + i.toNatClampNeg)) :: rest))) : W p l e R s m args below meth c H locs cells slots Q (F0 m pc ls (.int i :: .ref (ad 4) :: rest)) :=
  va_aldq hexec hb hC.2.2.1.1 hC.1 4 2 (wld_at (by decide) rfl) rfl hin hdg (by
    have hlt : i.toNatClampNeg < 4 := Nat.not_le.mp fun q => hin (Or.inr q)
    show W p l e R s m args below meth c H locs cells slots Q (F0 m (pc + 1) ls (va_rf (if i.toNatClampNeg < 4 then some (ad (5 + i.toNatClampNeg)) else none) :: rest))
    rw [if_pos hlt]
    exact kk)
theorem mg_alen4 (hexec : p.tables.exec = Jvm.exec) (hb : c.code = cc) (hC : Cu D ad ca B M ov s H locs) (hdg : decode cc pc = .ok (.arraylength, 1))
    (kk : W p l e R s m args below meth c H locs cells slots Q (F0 m (pc + 1) ls (.int 4 :: rest))) : W p l e R s m args below meth c H locs cells slots Q (F0 m pc ls (.ref (ad 4) :: rest)) :=
  va_alen hexec hb hC.2.2.1.1 hC.1 4 2 (wld_at (by decide) rfl) rfl rfl hdg kk
theorem wld_ov {x : Int64} : (wld ad ca M ov).set 31 (ad 31, .inl (ca 31, 1, .inr (.inl (vp_updL (fun j => if j = 0 then ov else 0) 0 x)))) = wld ad ca M x := by
  have e : vp_updL (fun j => if j = 0 then ov else 0) 0 x = fun j => if j = 0 then x else 0 := by
    funext j
    by_cases h : j = 0
    · simp [vp_updL, h]
    · simp [vp_updL, h]
  rw [e]
  apply List.ext_getElem?
  intro j
  rw [List.getElem?_set]
  have hlen : (wld ad ca M ov).length = 32 := by simp [wld]
  by_cases h : 31 = j
  · subst h
    rw [if_pos rfl, if_pos (by rw [hlen]; decide), wld_get (by decide)]
    rfl
  · rw [if_neg h]
    by_cases hj : j < 32
    · rw [wld_get hj, wld_get hj]
      have hc : ∀ f : Nat → Int32, cellOf ad ca ov j f = cellOf ad ca x j f := by
        intro f
        have h31 : j < 31 := by omega
        match j, h31 with
        | 0, _ => rfl
        | 1, _ => rfl
        | 2, _ => rfl
        | 3, _ => rfl
        | 4, _ => rfl
        | 5, _ => rfl
        | 6, _ => rfl
        | 7, _ => rfl
        | 8, _ => rfl
        | 9, _ => rfl
        | 10, _ => rfl
        | 11, _ => rfl
        | 12, _ => rfl
        | 13, _ => rfl
        | 14, _ => rfl
        | 15, _ => rfl
        | 16, _ => rfl
        | 17, _ => rfl
        | 18, _ => rfl
        | 19, _ => rfl
        | 20, _ => rfl
        | 21, _ => rfl
        | 22, _ => rfl
        | 23, _ => rfl
        | 24, _ => rfl
        | 25, _ => rfl
        | 26, _ => rfl
        | 27, _ => rfl
        | 28, _ => rfl
        | 29, _ => rfl
        | 30, _ => rfl
        | k + 31, h => omega
      rw [hc]
    · rw [List.getElem?_eq_none (by rw [hlen]; omega), List.getElem?_eq_none (by simp [wld]; omega)]
theorem mg_last (hexec : p.tables.exec = Jvm.exec) (hb : c.code = cc) (hC : Cu D ad ca B M ov s H locs) {x : Int64} (hdg : decode cc pc = .ok (.lastore, 1))
    (kk : ∀ (H1 : Heap) (locs1 : List Loc), Cu D ad ca B M x s H1 locs1 → W p l e R s m args below meth c H1 locs1 cells slots Q (F0 m (pc + 1) ls rest)) : W p l e R s m args below meth c H locs cells slots Q (F0 m pc ls (.long x :: .int 0 :: .ref (ad 31) :: rest)) :=
  va_last hexec hb hC.2.2.1.1 hC.1 hC.2.1 hC.2.2.2.1 31 23 (wld_at (by decide) rfl) rfl (show vp_in 0 1 by intro h; revert h; decide) hdg (fun H1 locs1 hP hD hS => by
    have h0 : ((0 : Int32).toNatClampNeg) = 0 := by decide
    rw [h0, wld_ov] at hP hD
    exact kk H1 locs1 ⟨hP, hD, hC.2.2.1, hS, hC.2.2.2.2⟩)
theorem mg_lald (hexec : p.tables.exec = Jvm.exec) (hb : c.code = cc) (hC : Cu D ad ca B M ov s H locs) (hdg : decode cc pc = .ok (.laload, 1))
    (kk : W p l e R s m args below meth c H locs cells slots Q (F0 m (pc + 1) ls (.long ov :: rest))) : W p l e R s m args below meth c H locs cells slots Q (F0 m pc ls (.int 0 :: .ref (ad 31) :: rest)) :=
  va_lald hexec hb hC.2.2.1.1 hC.1 31 23 (wld_at (by decide) rfl) rfl (show vp_in 0 1 by intro h; revert h; decide) hdg kk
theorem mg_recv (hC : Cu D ad ca B M ov s H locs) (cn : Nat) {ci : Nat} {C : String} {T : u_T} {N : Nat} {fs : List Value} (hcn : cn < 32) (he : cellOf ad ca ov cn (M cn) = .inr (ci, fs)) (hc : vwCl[ci]? = some (C, T, N)) : ∃ cell : Cell, H[ad cn]? = some cell ∧ cell.vm.isStatics = false ∧ s.vm.findClass C = some cell.cls :=
  va_recv hC.2.2.1.1 hC.1 hc (wld_at hcn he)
theorem mg_back {r : Prop} {M' : Mem} {t : State} {H1 : Heap} {locs1 : List Loc} (hC : Cu D ad ca B M ov s H locs) (ht : t.heap = H1) (hB : Wp D ad ca B M' ov t.heap) (hS : va_S (Ab B) s.heap H1 locs1) : Cu D ad ca B M' ov s H1 locs1 := by
  rw [ht] at hB
  exact ⟨hB.1, hB.2, hC.2.2.1, hS, hC.2.2.2.2⟩
variable {y : MethodName} {bytes : ByteArray} {maxL nL n index : Nat} {ret : Option FieldType} {ws : List Cond} {rm : Room} {Ts : List Cond} {own C host : String} {b : Addr} {As st0 : List Value} {M' : Mem} {r0 : Int32} {r1 : Int64}
theorem mc_Vi (S : CallFix p m c cc nL s args Ts own) (hC : Cu D ad ca B M ov s H locs) (hM : MtI l D ad ca B ov y ws rm (.ref b :: As) M r0 M') (cw : CallW R s args own C index y bytes maxL ret ws rm 0 0 n) (hrc : ∃ cellB : Cell, H[b]? = some cellB ∧ cellB.vm.isStatics = false ∧ s.vm.findClass C = some cellB.cls) (hn : As.length = n) (hsize : ls.size = nL) (hstack : st0 = As.reverse ++ .ref b :: rest) (hW : (rest.map fun v => v.category).sum ≤ 8) (hdg : decode cc pc = .ok (.invokevirtual index, 3)) (hf : cells + 0 ≤ R.cells ∧ slots + 0 ≤ R.slots)
    (kk : ∀ (H1 : Heap) (locs1 : List Loc), Cu D ad ca B M' ov s H1 locs1 → W p l e R s m args below meth c H1 locs1 cells slots Q (F0 m (pc + 3) ls (.int r0 :: rest))) : W p l e R s m args below meth c H locs cells slots Q (F0 m pc ls st0) :=
  va_calli (va_runV S hM cw ⟨Wd.blind, hrc, fun U hU hW => ⟨rfl, hC.wd hU hW⟩⟩ rfl hn hsize hstack (lv_room hW) hdg hf) hC.2.2.2.1 (fun _ _ h => h) (fun _ h => h) (fun r u t H1 locs1 ht _ hw hB _ _ hS => by
    subst hw
    exact kk H1 locs1 (mg_back (r := True) hC ht hB hS))
theorem mc_Vv (S : CallFix p m c cc nL s args Ts own) (hC : Cu D ad ca B M ov s H locs) (hM : MtV l D ad ca B ov y ws rm (.ref b :: As) M M') (cw : CallW R s args own C index y bytes maxL ret ws rm 0 0 n) (hrc : ∃ cellB : Cell, H[b]? = some cellB ∧ cellB.vm.isStatics = false ∧ s.vm.findClass C = some cellB.cls) (hn : As.length = n) (hsize : ls.size = nL) (hstack : st0 = As.reverse ++ .ref b :: rest) (hW : (rest.map fun v => v.category).sum ≤ 8) (hdg : decode cc pc = .ok (.invokevirtual index, 3)) (hf : cells + 0 ≤ R.cells ∧ slots + 0 ≤ R.slots)
    (kk : ∀ (H1 : Heap) (locs1 : List Loc), Cu D ad ca B M' ov s H1 locs1 → W p l e R s m args below meth c H1 locs1 cells slots Q (F0 m (pc + 3) ls rest)) : W p l e R s m args below meth c H locs cells slots Q (F0 m pc ls st0) :=
  va_callv (va_runV S hM cw ⟨Wd.blind, hrc, fun U hU hW => ⟨rfl, hC.wd hU hW⟩⟩ rfl hn hsize hstack (lv_room hW) hdg hf) hC.2.2.2.1 (fun _ _ h => h) (fun _ h => h) (fun u t H1 locs1 ht _ _ hB _ _ hS => kk H1 locs1 (mg_back (r := True) hC ht hB hS))
theorem mc_Si (S : CallFix p m c cc nL s args Ts own) (hC : Cu D ad ca B M ov s H locs) (hM : MtI l D ad ca B ov y ws rm As M r0 M') (cw : CallB R s args own index y bytes maxL ret ws rm 0 0 n ∧ (Cond.static y).before args s = true) (hn : As.length = n) (hsize : ls.size = nL) (hstack : st0 = As.reverse ++ rest) (hW : (rest.map fun v => v.category).sum ≤ 8) (hdg : decode cc pc = .ok (.invokestatic index, 3)) (hf : cells + 0 ≤ R.cells ∧ slots + 0 ≤ R.slots)
    (kk : ∀ (H1 : Heap) (locs1 : List Loc), Cu D ad ca B M' ov s H1 locs1 → W p l e R s m args below meth c H1 locs1 cells slots Q (F0 m (pc + 3) ls (.int r0 :: rest))) : W p l e R s m args below meth c H locs cells slots Q (F0 m pc ls st0) :=
  va_calli (va_runS S hM cw ⟨Wd.blind, fun U hU hW => ⟨rfl, hC.wd hU hW⟩⟩ rfl hn hsize hstack (lv_room hW) hdg hf) hC.2.2.2.1 (fun _ _ h => h) (fun _ h => h) (fun r u t H1 locs1 ht _ hw hB _ _ hS => by
    subst hw
    exact kk H1 locs1 (mg_back (r := True) hC ht hB hS))
theorem mc_Ni (S : CallFix p m c cc nL s args Ts own) (hC : Cu D ad ca B M ov s H locs) (hM : MtI l D ad ca B ov y ws rm As M r0 M') (cw : va_CN R s args own index y host bytes maxL ret ws rm 0 0 n ∧ (Cond.static y).before args s = true ∧ True) (hn : As.length = n) (hsize : ls.size = nL) (hstack : st0 = As.reverse ++ rest) (hW : (rest.map fun v => v.category).sum ≤ 8) (hdg : decode cc pc = .ok (.invokestatic index, 3)) (hf : cells + 0 ≤ R.cells ∧ slots + 0 ≤ R.slots)
    (kk : ∀ (H1 : Heap) (locs1 : List Loc), Cu D ad ca B M' ov s H1 locs1 → W p l e R s m args below meth c H1 locs1 cells slots Q (F0 m (pc + 3) ls (.int r0 :: rest))) : W p l e R s m args below meth c H locs cells slots Q (F0 m pc ls st0) :=
  va_calli (va_runSN S hM cw ⟨Wd.blind, fun U hU hW => ⟨rfl, hC.wd hU hW⟩⟩ rfl hn hsize hstack (lv_room hW) hdg hf) hC.2.2.2.1 (fun _ _ h => h) (fun _ h => h) (fun r u t H1 locs1 ht _ hw hB _ _ hS => by
    subst hw
    exact kk H1 locs1 (mg_back (r := True) hC ht hB hS))
/-- the ends -/
theorem mr_I {v : Int32} (hx : p.tables.exec = Jvm.exec) (hb : c.code = cc) (hr : meth.sig.returnType = some .int) (hlk : meth.locks = false) (hC : Cu D ad ca B M ov s H locs) (hf : some (v, M) = some (r0, M')) (hdg : decode cc pc = .ok (.ireturn, 1)) :
    W p l e R s m args below meth c H locs 0 0 (MQ below (va_Qi (fun (r : Int32) (_ : Unit) => r = r0) (fun _ t => Wp D ad ca B M' ov t.heap) (Ab B)) args s 0 0 (Ab B)) (F0 m pc ls [.int v]) := by
  obtain ⟨h1, h2⟩ := Prod.mk.inj (Option.some.inj hf)
  subst h1
  subst h2
  exact W.iret (v := v) hx hb hr (fun t ht hW => ⟨⟨v, (), rfl, rfl, (show Wp D ad ca B M ov t.heap by rw [ht]; exact ⟨hC.1, hC.2.1⟩)⟩, hC.2.2.2.1.F ht⟩) hC.2.2.2.1.2.2 hdg
theorem mr_Z {v : Int32} (hx : p.tables.exec = Jvm.exec) (hb : c.code = cc) (hr : meth.sig.returnType = some .boolean) (hlk : meth.locks = false) (hC : Cu D ad ca B M ov s H locs) (hv : v = 0 ∨ v = 1) (hf : some (v, M) = some (r0, M')) (hdg : decode cc pc = .ok (.ireturn, 1)) :
    W p l e R s m args below meth c H locs 0 0 (MQ below (va_Qi (fun (r : Int32) (_ : Unit) => r = r0) (fun _ t => Wp D ad ca B M' ov t.heap) (Ab B)) args s 0 0 (Ab B)) (F0 m pc ls [.int v]) := by
  obtain ⟨h1, h2⟩ := Prod.mk.inj (Option.some.inj hf)
  subst h1
  subst h2
  exact W.zret (v := v) hx hb hr (by rcases hv with rfl | rfl <;> decide) (fun t ht hW => ⟨⟨v, (), rfl, rfl, (show Wp D ad ca B M ov t.heap by rw [ht]; exact ⟨hC.1, hC.2.1⟩)⟩, hC.2.2.2.1.F ht⟩) hC.2.2.2.1.2.2 hdg
theorem mr_L {v : Int64} (hx : p.tables.exec = Jvm.exec) (hb : c.code = cc) (hr : meth.sig.returnType = some .long) (hlk : meth.locks = false) (hC : Cu D ad ca B M ov s H locs) (hf : some (v, M) = some (r1, M')) (hdg : decode cc pc = .ok (.lreturn, 1)) :
    W p l e R s m args below meth c H locs 0 0 (MQ below (va_Ql (fun (r : Int64) (_ : Unit) => r = r1) (fun _ t => Wp D ad ca B M' ov t.heap) (Ab B)) args s 0 0 (Ab B)) (F0 m pc ls [.long v]) := by
  obtain ⟨h1, h2⟩ := Prod.mk.inj (Option.some.inj hf)
  subst h1
  subst h2
  exact W.lret (v := v) hx hb hr (fun t ht hW => ⟨⟨v, (), rfl, rfl, (show Wp D ad ca B M ov t.heap by rw [ht]; exact ⟨hC.1, hC.2.1⟩)⟩, hC.2.2.2.1.F ht⟩) hC.2.2.2.1.2.2 hdg
theorem mr_V (hx : p.tables.exec = Jvm.exec) (hb : c.code = cc) (hr : meth.sig.returnType = none) (hlk : meth.locks = false) (hC : Cu D ad ca B M ov s H locs) (hf : some ((0 : Int32), M) = some (r0, M')) (hdg : decode cc pc = .ok (.return_, 1)) :
    W p l e R s m args below meth c H locs 0 0 (MQ below (va_Qv (fun (_ : Unit) => True) (fun _ t => Wp D ad ca B M' ov t.heap) (Ab B)) args s 0 0 (Ab B)) (F0 m pc ls []) := by
  obtain ⟨h1, h2⟩ := Prod.mk.inj (Option.some.inj hf)
  subst h1
  subst h2
  exact W.vret hx hb hr (fun t ht hW => ⟨⟨(), rfl, trivial, (show Wp D ad ca B M ov t.heap by rw [ht]; exact ⟨hC.1, hC.2.1⟩)⟩, hC.2.2.2.1.F ht⟩) hC.2.2.2.1.2.2 hdg
end MG
/-- the words of the functions that are read off the bytecode -/
def gd {α : Type} (i : Int32) (n : Nat) (k : Option α) : Option α := if i < 0 ∨ n ≤ i.toNatClampNeg then none else k
theorem gd_s {α : Type} {i : Int32} {n : Nat} {k : Option α} {x : α} (h : gd i n k = some x) : vp_in i n ∧ k = some x := by
  unfold gd at h
  by_cases q : i < 0 ∨ n ≤ i.toNatClampNeg
  · rw [if_pos q] at h; cases h
  · rw [if_neg q] at h; exact ⟨q, h⟩
def gp {α : Type} (c : Prop) [Decidable c] (k : Option α) : Option α := if c then k else none
theorem gp_s {α : Type} {c : Prop} [Decidable c] {k : Option α} {x : α} (h : gp c k = some x) : c ∧ k = some x := by
  unfold gp at h
  by_cases q : c
  · rw [if_pos q] at h; exact ⟨q, h⟩
  · rw [if_neg q] at h; cases h
def bd {α β : Type} (o : Option (α × Mem)) (k : α → Mem → Option β) : Option β := match o with
  | none => none
  | some q => k q.1 q.2
theorem bd_s {α β : Type} {o : Option (α × Mem)} {k : α → Mem → Option β} {x : β} (h : bd o k = some x) : ∃ (r : α) (N : Mem), o = some (r, N) ∧ k r N = some x := by
  cases o with
  | none => cases h
  | some q => exact ⟨q.1, q.2, rfl, h⟩
theorem it_t {α : Type} {c : Prop} [Decidable c] {a b x : α} (h : c) (e : (if c then a else b) = x) : a = x := by rw [← e, if_pos h]
theorem it_f {α : Type} {c : Prop} [Decidable c] {a b x : α} (h : ¬ c) (e : (if c then a else b) = x) : b = x := by rw [← e, if_neg h]
def lq {α β : Type} (a : α) (k : α → β) : β := k a
theorem lq_k {α β : Type} {z a : α} {k : α → β} {x : β} (e : z = a) (h : lq a k = x) : k z = x := by rw [e]; exact h
def Mx (p : Program) (s : State) (m : MethodId) (args : Array Value) (meth : Method) (c : Code) (cc : ByteArray) (nL : Nat) (Ts : List Cond) (own : String) (ret : Option FieldType) : Prop := p.tables.exec = Jvm.exec ∧ c.code = cc ∧ c.maxLocals = nL ∧ s.vm.findClass own = some m.cls ∧ (∀ w ∈ Ts, w.before args s = true) ∧ meth.sig.returnType = ret ∧ meth.locks = false
theorem sw_out5 (x : Int32) (h0 : ¬ x = 0) (h1 : ¬ x = 1) (h2 : ¬ x = 2) (h3 : ¬ x = 3) (h4 : ¬ x = 4) : x.toInt < 0 ∨ 4 < x.toInt := by
  have a0 : x.toInt ≠ 0 := fun h => h0 (Int32.toInt_inj.mp (h.trans (by decide)))
  have a1 : x.toInt ≠ 1 := fun h => h1 (Int32.toInt_inj.mp (h.trans (by decide)))
  have a2 : x.toInt ≠ 2 := fun h => h2 (Int32.toInt_inj.mp (h.trans (by decide)))
  have a3 : x.toInt ≠ 3 := fun h => h3 (Int32.toInt_inj.mp (h.trans (by decide)))
  have a4 : x.toInt ≠ 4 := fun h => h4 (Int32.toInt_inj.mp (h.trans (by decide)))
  omega
