abbrev exIA : String := "java/lang/IllegalArgumentException"
abbrev exIS : String := "java/lang/IllegalStateException"
abbrev exIX : String := "java/lang/IndexOutOfBoundsException"
abbrev exAR : String := "java/lang/ArithmeticException"
abbrev exNs : List String := ["java/lang/RuntimeException", "java/lang/Exception"]
def exN (q : Nat) : String := match q with
  | 1 => exIA
  | 2 => exIS
  | 3 => exIX
  | _ => exAR
def evB (E : String) : List Cond := [.declares (Bundle.initS "java/lang/RuntimeException"), .declares (Bundle.initS "java/lang/Exception"), .declares (Bundle.initS "java/lang/Throwable"), .castable E E]
def evS : List (Nat × String) := [(47, "a ship's numbers can't be"), (58, "there are 4 ships"), (138, "no such ship or what"), (141, "there is no plan"), (158, "no such ship"), (169, "no ship can arrive at this hour"), (174, "length or parts are not 0 .. 1000000"), (181, "no place is so deep")]
def evE : List String := [exIA, exIS, exIX, exAR]
def evP : List (String × String) := [(exIS, exIA), (exIS, exIX), (exIA, exIX), (exAR, exIA)]
/-- what throwing and catching need of the start -/
def Ev (B : Nat) (U : State) (H : Heap) : Prop := (∀ q ∈ evS, ∃ sa, vk_R RX3 q.1 q.2 sa U) ∧ vx_Zq Bundle.tN "UNASSIGNED_STACK" Bundle.steD (Ab B) U H ∧ vx_Zq Bundle.tN "SUPPRESSED_SENTINEL" Bundle.listD (Ab B) U H ∧ (va_Nw (.declares (Bundle.initS "java/lang/RuntimeException")) U ∧ va_Nw (.declares (Bundle.initS "java/lang/Exception")) U ∧ va_Nw (.declares (Bundle.initS "java/lang/Throwable")) U) ∧ (∀ E ∈ evE, va_Nw (.castable E E) U) ∧ ∀ q ∈ evP, va_Nc q.1 q.2 U
theorem Ev.go {B : Nat} {s U : State} {H H1 : Heap} (h : Ev B s H) (hW : s.WarmedH U.vm) (hk : ∀ a : Nat, a < H.size → ¬ Ab B a → H1[a]? = H[a]?) : Ev B U H1 := by
  obtain ⟨h1, h2, h3, ⟨h4, h5, h6⟩, h7, h8⟩ := h
  refine ⟨fun q hq => ?_, (vx_Zq.moved hW.alike h2).kept hk, (vx_Zq.moved hW.alike h3).kept hk, ⟨h4.warmD hW, h5.warmD hW, h6.warmD hW⟩, fun E hE => (h7 E hE).warmC hW, fun q hq => (h8 q hq).moved hW.alike⟩
  obtain ⟨sa, hsa⟩ := h1 q hq
  exact ⟨sa, hsa.warm hW⟩
theorem Ev.same {B : Nat} {s U : State} {H : Heap} (h : Ev B s H) (hW : s.vm = U.vm) : Ev B U H := by
  obtain ⟨h1, h2, h3, ⟨h4, h5, h6⟩, h7, h8⟩ := h
  have ha : s.vm.Alike U.vm := by rw [hW]; exact Vm.Alike.refl _
  refine ⟨fun q hq => ?_, vx_Zq.moved ha h2, vx_Zq.moved ha h3, ⟨h4.same rfl hW, h5.same rfl hW, h6.same rfl hW⟩, fun E hE => (h7 E hE).same rfl hW, fun q hq => (h8 q hq).moved ha⟩
  obtain ⟨sa, hsa⟩ := h1 q hq
  exact ⟨sa, hsa.same hW.symm⟩
def WdX (D : va_G) (ad : Nat → Nat) (ca : Nat → ClassId) (B : Nat) (M : Mem) (ov : Int64) (U : State) : Prop := Wd D ad ca B M ov U ∧ Ev B U U.heap
def XcOf (D : va_G) (ad : Nat → Nat) (ca : Nat → ClassId) (B : Nat) (ov : Int64) (q0 : Nat) (M : Mem) : String → State → State → Prop := vx_X (fun (_ : Unit) => q0 ≠ 0) (fun E _ t => E = exN q0 ∧ Wp D ad ca B M ov t.heap) (Ab B)
def XtI (l : Launch) (D : va_G) (ad : Nat → Nat) (ca : Nat → ClassId) (B : Nat) (ov : Int64) (y : MethodName) (ws : List Cond) (rm : Room) (As : List Value) (M : Mem) (q0 : Nat) (r0 : Int32) (M' : Mem) : Prop := vx_Met l y ws rm (va_Pc As (WdX D ad ca B M ov)) (va_Qi (fun (r : Int32) (_ : Unit) => q0 = 0 ∧ r = r0) (fun _ t => Wp D ad ca B M' ov t.heap) (Ab B)) (XcOf D ad ca B ov q0 M') 1 6 (Ab B)
def XtL (l : Launch) (D : va_G) (ad : Nat → Nat) (ca : Nat → ClassId) (B : Nat) (ov : Int64) (y : MethodName) (ws : List Cond) (rm : Room) (As : List Value) (M : Mem) (q0 : Nat) (r0 : Int64) (M' : Mem) : Prop := vx_Met l y ws rm (va_Pc As (WdX D ad ca B M ov)) (va_Ql (fun (r : Int64) (_ : Unit) => q0 = 0 ∧ r = r0) (fun _ t => Wp D ad ca B M' ov t.heap) (Ab B)) (XcOf D ad ca B ov q0 M') 1 6 (Ab B)
theorem nb_49 : ∀ w ∈ (vx_atS RX3 49 exIA exNs).filter (fun w => !goodWord w), w ∈ evB exIA := by decide +kernel
theorem nb_60 : ∀ w ∈ (vx_atS RX3 60 exIS exNs).filter (fun w => !goodWord w), w ∈ evB exIS := by decide +kernel
theorem nb_140 : ∀ w ∈ (vx_atS RX3 140 exIX exNs).filter (fun w => !goodWord w), w ∈ evB exIX := by decide +kernel
theorem nb_183 : ∀ w ∈ (vx_atS RX3 183 exAR exNs).filter (fun w => !goodWord w), w ∈ evB exAR := by decide +kernel
theorem gx_49 : ∀ w ∈ Cond.classLink RX3 45 exIA :: Cond.initialized exIA :: vx_atS RX3 49 exIA exNs, vx_ot w = true := by decide +kernel
theorem gx_60 : ∀ w ∈ Cond.classLink RX3 56 exIS :: Cond.initialized exIS :: vx_atS RX3 60 exIS exNs, vx_ot w = true := by decide +kernel
theorem gx_140 : ∀ w ∈ Cond.classLink RX3 136 exIX :: Cond.initialized exIX :: vx_atS RX3 140 exIX exNs, vx_ot w = true := by decide +kernel
theorem gx_183 : ∀ w ∈ Cond.classLink RX3 179 exAR :: Cond.initialized exAR :: vx_atS RX3 183 exAR exNs, vx_ot w = true := by decide +kernel
theorem ev_bad {E : String} (hE : E ∈ evE) {B : Nat} {s : State} {H : Heap} {args : Array Value} (h : Ev B s H) : ∀ w ∈ evB E, w.before args s = true := by
  obtain ⟨-, -, -, ⟨h4, h5, h6⟩, h7, -⟩ := h
  exact vx_c (va_Nw.use rfl h4) (vx_c (va_Nw.use rfl h5) (vx_c (va_Nw.use rfl h6) (vx_c (va_Nw.use rfl (h7 E hE)) vx_n)))
section MXR
variable {p : Program} {l : Launch} {e : Env} {R : Room} {s : State} {m : MethodId} {args : Array Value} {below : List Frame} {meth : Method} {c : Code} {H : Heap} {locs : List Loc}
variable {cc : ByteArray} {pc : Nat} {ls : Array Slot} {D : va_G} {ad : Nat → Nat} {ca : Nat → ClassId} {B : Nat} {M M' : Mem} {ov : Int64} {q0 : Nat} {r0 : Int32} {r1 : Int64}
theorem mx_I {v : Int32} (hx : p.tables.exec = Jvm.exec) (hb : c.code = cc) (hr : meth.sig.returnType = some .int) (hlk : meth.locks = false) (hC : Cu D ad ca B M ov s H locs) (hf : some ((0, v), M) = some ((q0, r0), M')) (hdg : decode cc pc = .ok (.ireturn, 1)) :
    W p l e R s m args below meth c H locs 0 0 (vx_MQ below (va_Qi (fun (r : Int32) (_ : Unit) => q0 = 0 ∧ r = r0) (fun _ t => Wp D ad ca B M' ov t.heap) (Ab B)) (XcOf D ad ca B ov q0 M') args s 1 6 (Ab B)) (F0 m pc ls [.int v]) := by
  obtain ⟨h1, h2⟩ := Prod.mk.inj (Option.some.inj hf)
  obtain ⟨h3, h4⟩ := Prod.mk.inj h1
  subst h2
  subst h3
  subst h4
  refine vx_ret ?_
  refine W.widen (k := 1) (n := 6) (Nat.zero_le _) (Nat.zero_le _) ?_
  exact W.iret (v := v) hx hb hr (fun t ht hW => ⟨⟨v, (), rfl, ⟨rfl, rfl⟩, (show Wp D ad ca B M ov t.heap by rw [ht]; exact ⟨hC.1, hC.2.1⟩)⟩, hC.2.2.2.1.F ht⟩) hC.2.2.2.1.2.2 hdg
theorem mx_L {v : Int64} (hx : p.tables.exec = Jvm.exec) (hb : c.code = cc) (hr : meth.sig.returnType = some .long) (hlk : meth.locks = false) (hC : Cu D ad ca B M ov s H locs) (hf : some ((0, v), M) = some ((q0, r1), M')) (hdg : decode cc pc = .ok (.lreturn, 1)) :
    W p l e R s m args below meth c H locs 0 0 (vx_MQ below (va_Ql (fun (r : Int64) (_ : Unit) => q0 = 0 ∧ r = r1) (fun _ t => Wp D ad ca B M' ov t.heap) (Ab B)) (XcOf D ad ca B ov q0 M') args s 1 6 (Ab B)) (F0 m pc ls [.long v]) := by
  obtain ⟨h1, h2⟩ := Prod.mk.inj (Option.some.inj hf)
  obtain ⟨h3, h4⟩ := Prod.mk.inj h1
  subst h2
  subst h3
  subst h4
  refine vx_ret ?_
  refine W.widen (k := 1) (n := 6) (Nat.zero_le _) (Nat.zero_le _) ?_
  exact W.lret (v := v) hx hb hr (fun t ht hW => ⟨⟨v, (), rfl, ⟨rfl, rfl⟩, (show Wp D ad ca B M ov t.heap by rw [ht]; exact ⟨hC.1, hC.2.1⟩)⟩, hC.2.2.2.1.F ht⟩) hC.2.2.2.1.2.2 hdg
theorem mx_T {α : Type} {v r2 : α} {q ik is ic : Nat} {cls tx : String} {Qc : Array Value → State → Outcome → State → Prop} (hx : p.tables.exec = Jvm.exec) (hb : c.code = cc) (hl9 : l.stackTraces = false) (hlk : meth.locks = false) (hET : ∀ x ∈ c.exceptionTable.toList, False) (hown : s.vm.findClass RX3 = some m.cls) (hcls : Bundle.fit cls = true)
    (hk : (Cond.classLink RX3 ik cls).before args s = true) (hini : (Cond.initialized cls).before args s = true) (hev : (is, tx) ∈ evS) (hat : ∀ w ∈ (vx_atS RX3 ic cls exNs).filter goodWord, w.before args s = true) (hnb : ∀ w ∈ (vx_atS RX3 ic cls exNs).filter (fun w => !goodWord w), w ∈ evB cls)
    (hgood : ∀ w ∈ Cond.classLink RX3 ik cls :: Cond.initialized cls :: vx_atS RX3 ic cls exNs, vx_ot w = true) (hE : cls ∈ evE) (Ev9 : Ev B s s.heap) (hC : Cu D ad ca B M ov s H locs) (hsize : ls.size = c.maxLocals)
    (d0 : decode cc pc = .ok (.new ik, 3)) (d3 : decode cc (pc + 3) = .ok (.dup, 1)) (d4 : decode cc (pc + 4) = .ok (.ldc is, 2)) (d6 : decode cc (pc + 6) = .ok (.invokespecial ic, 3)) (d9 : decode cc (pc + 9) = .ok (.athrow, 1))
    (hRf : 5 < R.frames) (hRl : 82 ≤ R.locals) (hRc : 0 + 1 ≤ R.cells) (hRs : 0 + 6 ≤ R.slots) (hq : q ≠ 0) (hqn : cls = exN q) (hf : some ((q, v), M) = some ((q0, r2), M')) :
    W p l e R s m args below meth c H locs 0 0 (vx_MQ below Qc (XcOf D ad ca B ov q0 M') args s 1 6 (Ab B)) (F0 m pc ls []) := by
  obtain ⟨h1, h2⟩ := Prod.mk.inj (Option.some.inj hf)
  obtain ⟨h3, h4⟩ := Prod.mk.inj h1
  subst h2
  subst h3
  obtain ⟨sa, hsa⟩ := Ev9.1 (is, tx) hev
  refine vx_throwS (names := exNs) (A := Ab B) hx hb hl9 hown hcls (by decide) hk hini hsa (vx_hat hat hnb (ev_bad hE Ev9)) hgood Ev9.2.1 Ev9.2.2.1 hC.2.2.2.1 hsize d0 d3 d4 d6 d9 (fun x hx => (hET x hx).elim) hRf hRl hRc hRs hlk ?_ hC.2.2.2.1.2.2 (by decide) (by decide)
  intro t _ hsz hkp
  refine ⟨(), hq, ⟨hqn, ?_, hC.2.1⟩, Nat.le_trans hC.2.2.2.1.1 hsz, fun a h1 h2 => ?_⟩
  · intro k w hw
    exact (hC.1 k w hw).kept (hkp _ (hC.1 k w hw).lt)
  · rw [hkp a (Nat.lt_of_lt_of_le h1 hC.2.2.2.1.1)]
    exact hC.2.2.2.1.2.1 a h1 h2
end MXR
